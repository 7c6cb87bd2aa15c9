import java.util.List;

/**
 * Every call with every argument up to and just beyond the bounds, and with the farthest ones, on
 * lodges from empty to full: answers and exceptions, and what is so afterwards, as PlainLodge's.
 */
public final class ArgumentsTest {
    private static final int MIN = Integer.MIN_VALUE;
    private static final int MAX = Integer.MAX_VALUE;
    private static final int[] LEMMA = {MIN, -1, 0, 1, 2, 11, 12, MAX};
    private static final int[] PROOF = {MIN, -1, 0, 1, 2, 3, MAX};
    private static final int[] PLACE = {MIN, -1, 0, 1, 4, 5, MAX};
    private static final int[] ASK = {MIN, -1, 0, 1, 2, 3, 4, 5, 6, 7, MAX};
    private static final int[] AXIOM = {MIN, -1, 0, 4, 5, MAX};
    private static final int[] KIND = {MIN, -1, 0, 1, 2, 3, MAX};
    private static final int[] WHAT = {MIN, -1, 0, 1, 4, 5, 9, 10, 11, 12, MAX};
    // An object is good for 512 calls: a full lodge takes 228 to build, and each call that is
    // tested comes with two of digest().
    private static final int CALLS = 90;

    private final Check check;
    private final String name;
    private final Build build;
    private LodgeProofs lodge;
    private PlainLodge plain;
    private int calls = CALLS;

    /** How a lodge is built, the same way for both. */
    private interface Build {
        void on(Both both);
    }

    /** The calls by which a lodge is built, made of both. */
    private interface Both {
        void lemma();

        void proof(int lemma);

        void cite(int lemma, int proof, int kind, int what);
    }

    private ArgumentsTest(Check check, String name, Build build) {
        this.check = check;
        this.name = name;
        this.build = build;
    }

    public static void main(String[] args) {
        Check check = new Check();
        List<ArgumentsTest> tests = List.of(
                new ArgumentsTest(check, "empty lodge", both -> { }),
                new ArgumentsTest(check, "empty lemma", Both::lemma),
                new ArgumentsTest(check, "empty proofs", both -> lodge(both, 2, 2, 0)),
                new ArgumentsTest(check, "nearly full", both -> lodge(both, 11, 2, 4)),
                new ArgumentsTest(check, "full", both -> lodge(both, 12, 3, 5)));
        for (ArgumentsTest test : tests) {
            test.run();
        }
        check.end("ArgumentsTest");
    }

    /** Steps by axioms, gaps and lemmas in turn. */
    private static void lodge(Both both, int lemmas, int proofs, int steps) {
        for (int lemma = 0; lemma < lemmas; lemma++) {
            both.lemma();
            for (int proof = 0; proof < proofs; proof++) {
                both.proof(lemma);
                for (int step = 0; step < steps; step++) {
                    int kind = step % 3 == 0 ? 0 : step % 3 == 1 ? 2 : 1;
                    both.cite(lemma, proof, kind, kind == 0 ? step : kind == 1 ? lemma / 2 : 3);
                }
            }
        }
    }

    private void run() {
        change();
        steps();
        for (int first : LEMMA) {
            for (int second : ASK) {
                due("told(" + first + ", " + second + ")", () -> plain.told(first, second),
                        () -> lodge.told(first, second));
                due("needs(" + first + ", " + second + ")", () -> plain.needs(first, second),
                        () -> lodge.needs(first, second));
                for (int proof : PROOF) {
                    due("about(" + first + ", " + proof + ", " + second + ")",
                            () -> plain.about(first, proof, second),
                            () -> lodge.about(first, proof, second));
                }
            }
            due("best(" + first + ")", () -> plain.best(first), () -> lodge.best(first));
            due("without(" + first + ")", () -> plain.without(first), () -> lodge.without(first));
        }
        for (int what : ASK) {
            due("count(" + what + ")", () -> plain.count(what), () -> lodge.count(what));
        }
        due("advise()", () -> plain.advise(), () -> lodge.advise());
        due("mean()", () -> plain.mean(), () -> lodge.mean());
    }

    private void change() {
        for (int axiom : AXIOM) {
            due("take(" + axiom + ", false)", () -> plain.take(axiom, false),
                    () -> lodge.take(axiom, false));
            due("take(" + axiom + ", true)", () -> plain.take(axiom, true),
                    () -> lodge.take(axiom, true));
        }
        due("lemma()", () -> plain.lemma(), () -> lodge.lemma());
        for (int lemma : LEMMA) {
            due("proof(" + lemma + ")", () -> plain.proof(lemma), () -> lodge.proof(lemma));
            for (int proof : PROOF) {
                due("strike(" + lemma + ", " + proof + ")", () -> plain.strike(lemma, proof),
                        () -> lodge.strike(lemma, proof));
                cites(lemma, proof);
            }
        }
    }

    private void cites(int lemma, int proof) {
        for (int kind : KIND) {
            for (int what : WHAT) {
                due("cite(" + lemma + ", " + proof + ", " + kind + ", " + what + ")",
                        () -> plain.cite(lemma, proof, kind, what),
                        () -> lodge.cite(lemma, proof, kind, what));
            }
        }
    }

    private void steps() {
        for (int lemma : LEMMA) {
            for (int proof : PROOF) {
                for (int place : PLACE) {
                    String step = lemma + ", " + proof + ", " + place;
                    due("withdraw(" + step + ")", () -> plain.withdraw(lemma, proof, place),
                            () -> lodge.withdraw(lemma, proof, place));
                    for (int number : WHAT) {
                        due("patch(" + step + ", " + number + ")",
                                () -> plain.patch(lemma, proof, place, number),
                                () -> lodge.patch(lemma, proof, place, number));
                        due("step(" + step + ", " + number + ")",
                                () -> plain.step(lemma, proof, place, number),
                                () -> lodge.step(lemma, proof, place, number));
                    }
                }
            }
        }
    }

    /** Each call stands alone: what the one ahead of it changed is built anew. */
    private void due(String call, Check.Call want, Check.Call got) {
        if (calls >= CALLS) {
            rebuild();
        }
        long before = lodge.digest();
        Object answer = Check.answer(want);
        check.due(name + ": " + call, answer, got);
        long so = answer instanceof Class<?> ? before : plain.digest();
        check.due(name + ": the digest after " + call, so, lodge::digest);
        calls = so == before ? calls + 1 : CALLS;
    }

    private void rebuild() {
        LodgeProofs x = new LodgeProofs();
        PlainLodge y = new PlainLodge();
        build.on(new Both() {
            @Override
            public void lemma() {
                x.lemma();
                y.lemma();
            }

            @Override
            public void proof(int lemma) {
                x.proof(lemma);
                y.proof(lemma);
            }

            @Override
            public void cite(int lemma, int proof, int kind, int what) {
                x.cite(lemma, proof, kind, what);
                y.cite(lemma, proof, kind, what);
            }
        });
        check.due(name + ": the digest of what is built", y.digest(), x::digest);
        lodge = x;
        plain = y;
        calls = 0;
    }
}
