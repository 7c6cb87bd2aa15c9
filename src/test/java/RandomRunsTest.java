import java.util.HashMap;
import java.util.Map;

/** Runs of 512 calls, the same ones each time, with every answer compared with PlainLodge's. */
public final class RandomRunsTest {
    private static final int RUNS = 700;
    private static final int CALLS = 512;

    private final Map<String, Integer> seen = new HashMap<>();
    private long seed;
    private int wrong = 0;

    private LodgeProofs lodge;
    private PlainLodge plain;
    // How a run leans: of 10 cites, how many are of lemmas, and how many of gaps; then how often
    // an argument is out of bounds, of 100, and how many calls build for each one that takes away.
    private int ofLemmas;
    private int ofGaps;
    private int astray;
    private int building;

    private interface Call {
        Object run();
    }

    public static void main(String[] args) {
        RandomRunsTest test = new RandomRunsTest();
        for (int run = 0; run < RUNS; run++) {
            test.run(run);
        }
        test.needSeen();
        if (test.wrong > 0) {
            System.out.println("RandomRunsTest: " + test.wrong + " answers are not as due");
            System.exit(1);
        }
    }

    private void run(int run) {
        seed = 1_000_003L * run + 17;
        lodge = new LodgeProofs();
        plain = new PlainLodge();
        ofLemmas = run % 7 + 2;
        ofGaps = run % 2;
        astray = run % 3 == 0 ? 0 : run % 3 * 4;
        building = run % 5 + 2;
        for (int call = 0; call < CALLS && wrong < 20; call++) {
            if (call % 64 == 63) {
                compare("run " + run + ", call " + call + ": digest()",
                        () -> plain.digest(), () -> lodge.digest());
            } else {
                anyCall("run " + run + ", call " + call + ": ");
            }
        }
    }

    private int any(int below) {
        seed = seed * 6364136223846793005L + 1442695040888963407L;
        return (int) ((seed >>> 33) % below);
    }

    /** An argument from 0 to below - 1, or now and then one astray. */
    private int argument(int below) {
        if (any(100) < astray) {
            int[] far = {-1, below, below + 1, Integer.MIN_VALUE, Integer.MAX_VALUE};
            return far[any(far.length)];
        }
        return any(Math.max(below, 1));
    }

    private int anyLemma() {
        return argument(plain.count(0));
    }

    private int anyProof(int lemma) {
        boolean there = lemma >= 0 && lemma < plain.count(0);
        return argument(there ? plain.told(lemma, 0) : 3);
    }

    private int anyPlace(int lemma, int proof) {
        boolean there = lemma >= 0 && lemma < plain.count(0)
                && proof >= 0 && proof < plain.told(lemma, 0);
        return argument(there ? plain.about(lemma, proof, 0) : 5);
    }

    private void anyCall(String at) {
        int kind = any(10);
        if (kind < 5) {
            if (any(building + 1) < building) {
                build(at);
            } else {
                takeAway(at);
            }
        } else if (kind < 8) {
            ask(at);
        } else {
            suppose(at);
        }
    }

    private void build(String at) {
        int lemma = anyLemma();
        int proof = anyProof(lemma);
        int kind = any(12);
        if (kind == 0) {
            compare(at + "lemma()", () -> plain.lemma(), () -> lodge.lemma());
        } else if (kind <= 2) {
            compare(at + "proof(" + lemma + ")", () -> plain.proof(lemma), () -> lodge.proof(lemma));
        } else if (kind == 3) {
            int axiom = argument(5);
            compare(at + "take(" + axiom + ", true)",
                    () -> plain.take(axiom, true), () -> lodge.take(axiom, true));
        } else if (kind == 4) {
            int place = anyPlace(lemma, proof);
            int by = argument(9) + 1;
            compare(at + "patch(" + lemma + ", " + proof + ", " + place + ", " + by + ")",
                    () -> plain.patch(lemma, proof, place, by),
                    () -> lodge.patch(lemma, proof, place, by));
        } else {
            cite(at, lemma, proof);
        }
    }

    private void cite(String at, int lemma, int proof) {
        int lot = any(10);
        int leaning = lot < ofLemmas ? 1 : lot < ofLemmas + ofGaps ? 2 : 0;
        int kind = any(100) < astray ? argument(3) : leaning;
        int what = kind == 1 ? anyLemma() : kind == 2 ? argument(9) + 1 : argument(5);
        compare(at + "cite(" + lemma + ", " + proof + ", " + kind + ", " + what + ")",
                () -> plain.cite(lemma, proof, kind, what),
                () -> lodge.cite(lemma, proof, kind, what));
    }

    private void takeAway(String at) {
        int lemma = anyLemma();
        int proof = anyProof(lemma);
        int place = anyPlace(lemma, proof);
        int axiom = argument(5);
        int kind = any(8);
        if (kind == 0) {
            compare(at + "strike(" + lemma + ", " + proof + ")",
                    () -> plain.strike(lemma, proof), () -> lodge.strike(lemma, proof));
        } else if (kind == 1) {
            compare(at + "take(" + axiom + ", false)",
                    () -> plain.take(axiom, false), () -> lodge.take(axiom, false));
        } else {
            compare(at + "withdraw(" + lemma + ", " + proof + ", " + place + ")",
                    () -> plain.withdraw(lemma, proof, place),
                    () -> lodge.withdraw(lemma, proof, place));
        }
    }

    private void ask(String at) {
        int lemma = anyLemma();
        int proof = anyProof(lemma);
        int place = anyPlace(lemma, proof);
        int four = argument(4);
        int seven = argument(7);
        switch (any(5)) {
            case 0 -> compare(at + "told(" + lemma + ", " + seven + ")",
                    () -> plain.told(lemma, seven), () -> lodge.told(lemma, seven));
            case 1 -> compare(at + "step(" + lemma + ", " + proof + ", " + place + ", " + four + ")",
                    () -> plain.step(lemma, proof, place, four),
                    () -> lodge.step(lemma, proof, place, four));
            case 2 -> compare(at + "about(" + lemma + ", " + proof + ", " + four + ")",
                    () -> plain.about(lemma, proof, four), () -> lodge.about(lemma, proof, four));
            case 3 -> compare(at + "count(" + seven + ")",
                    () -> plain.count(seven), () -> lodge.count(seven));
            default -> compare(at + "best(" + lemma + ")",
                    () -> plain.best(lemma), () -> lodge.best(lemma));
        }
    }

    private void suppose(String at) {
        int lemma = anyLemma();
        int axiom = argument(5);
        switch (any(4)) {
            case 0 -> compare(at + "without(" + lemma + ")",
                    () -> plain.without(lemma), () -> lodge.without(lemma));
            case 1 -> compare(at + "needs(" + lemma + ", " + axiom + ")",
                    () -> plain.needs(lemma, axiom), () -> lodge.needs(lemma, axiom));
            case 2 -> compare(at + "advise()", () -> plain.advise(), () -> lodge.advise());
            default -> compare(at + "mean()", () -> plain.mean(), () -> lodge.mean());
        }
    }

    private void compare(String call, Call want, Call got) {
        Object due = answer(want);
        Object answer = answer(got);
        String name = call.substring(call.indexOf(": ") + 2, call.indexOf('('));
        seen.merge(name + " " + (due instanceof Class<?> c ? c.getSimpleName() : "answers"), 1,
                Integer::sum);
        if (due instanceof Integer i && i > 0) {
            seen.merge(name + " above 0", 1, Integer::sum);
        }
        if (!due.equals(answer)) {
            wrong++;
            System.out.println(call + " answered " + answer + ", due is " + due);
        }
    }

    private static Object answer(Call call) {
        try {
            return call.run();
        } catch (RuntimeException thrown) {
            return thrown.getClass();
        }
    }

    /** The runs are worth something only if they come to all that calls can answer. */
    private void needSeen() {
        String[] needed = {
            "take answers", "take IndexOutOfBoundsException",
            "lemma answers", "lemma IllegalStateException",
            "proof answers", "proof IndexOutOfBoundsException", "proof IllegalStateException",
            "cite answers", "cite IndexOutOfBoundsException", "cite IllegalArgumentException",
            "cite IllegalStateException",
            "patch answers", "patch IndexOutOfBoundsException", "patch IllegalArgumentException",
            "patch IllegalStateException",
            "withdraw answers", "withdraw IndexOutOfBoundsException",
            "strike answers", "strike IndexOutOfBoundsException",
            "told above 0", "told IndexOutOfBoundsException",
            "step above 0", "step IndexOutOfBoundsException",
            "about above 0", "about IndexOutOfBoundsException",
            "count above 0", "count IndexOutOfBoundsException",
            "best above 0", "best IndexOutOfBoundsException",
            "without above 0", "without IndexOutOfBoundsException",
            "needs answers", "needs IndexOutOfBoundsException",
            "advise above 0", "mean answers", "digest answers",
        };
        for (String what : needed) {
            if (seen.getOrDefault(what, 0) < 10) {
                wrong++;
                System.out.println("the runs hardly come to: " + what);
            }
        }
    }
}
