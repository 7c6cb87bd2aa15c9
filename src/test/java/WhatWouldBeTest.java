/** Promises 14 to 18: what would be. */
public final class WhatWouldBeTest {
    private static final int[] OUTSIDE = {Integer.MIN_VALUE, -1, Integer.MAX_VALUE};

    private static final Check check = new Check();

    public static void main(String[] args) {
        without();
        needs();
        advise();
        adviseTies();
        adviseThroughCircle();
        mean();
        digest();
        check.end("WhatWouldBeTest");
    }

    private static void without() {
        LodgeProofs x = Lodges.of(5, 1);
        x.cite(0, 0, 0, 0);
        x.cite(1, 0, 1, 0);
        x.cite(2, 0, 1, 1);
        x.cite(3, 0, 0, 1);
        x.cite(4, 0, 1, 4);
        check.unchanged("without(0)", x, 1, () -> x.without(0));
        check.unchanged("without(1)", x, 2, () -> x.without(1));
        check.unchanged("without(2)", x, 3, () -> x.without(2));
        check.unchanged("without(3)", x, 3, () -> x.without(3));
        check.unchanged("without one that is not proved", x, 4, () -> x.without(4));
        x.proof(0);
        x.cite(0, 1, 0, 2);
        check.unchanged("whatever proofs it has", x, 1, () -> x.without(0));
        x.proof(2);
        x.cite(2, 1, 0, 3);
        check.unchanged("another proof behind it", x, 2, () -> x.without(0));
        check.refused("without(5)", x, Check.INDEX, () -> x.without(5));
        for (int bad : OUTSIDE) {
            check.refused("without(" + bad + ")", x, Check.INDEX, () -> x.without(bad));
        }
    }

    private static void needs() {
        LodgeProofs x = Lodges.of(4, 1);
        x.cite(0, 0, 0, 0);
        x.cite(1, 0, 1, 0);
        x.cite(1, 0, 0, 4);
        x.cite(2, 0, 0, 1);
        x.cite(2, 0, 2, 3);
        check.unchanged("needs(0, 0)", x, true, () -> x.needs(0, 0));
        check.unchanged("needs(0, 1)", x, false, () -> x.needs(0, 1));
        check.unchanged("through a lemma", x, true, () -> x.needs(1, 0));
        check.unchanged("needs(1, 4)", x, true, () -> x.needs(1, 4));
        check.unchanged("not proved", x, false, () -> x.needs(2, 1));
        check.unchanged("without steps", x, false, () -> x.needs(3, 0));
        x.proof(0);
        x.cite(0, 1, 0, 2);
        check.unchanged("by either proof", x, false, () -> x.needs(0, 0));
        check.unchanged("by either proof", x, false, () -> x.needs(0, 2));
        x.take(2, false);
        check.unchanged("by one again", x, true, () -> x.needs(0, 0));
        check.unchanged("an axiom that is not taken", x, false, () -> x.needs(0, 2));
        check.refused("needs(4, 0)", x, Check.INDEX, () -> x.needs(4, 0));
        check.refused("needs(0, 5)", x, Check.INDEX, () -> x.needs(0, 5));
        for (int bad : OUTSIDE) {
            check.refused("needs(" + bad + ", 0)", x, Check.INDEX, () -> x.needs(bad, 0));
            check.refused("needs(0, " + bad + ")", x, Check.INDEX, () -> x.needs(0, bad));
        }
    }

    private static void advise() {
        LodgeProofs x = Lodges.of(12, 1);
        check.unchanged("no gap", x, -1, x::advise);
        x.proof(11);
        x.proof(11);
        for (int step = 0; step < 4; step++) {
            x.cite(11, 2, 0, 0);
        }
        x.cite(11, 2, 2, 9);
        check.unchanged("the last step of all", x, 1124, x::advise);
        x.cite(3, 0, 2, 1);
        x.cite(4, 0, 1, 3);
        check.unchanged("the most lemmas", x, 300, x::advise);
        x.cite(3, 0, 2, 2);
        check.unchanged("two gaps of one proof", x, 1124, x::advise);
        x.patch(3, 0, 0, 1);
        check.unchanged("one of the two closed", x, 301, x::advise);
        x.withdraw(3, 0, 0);
        check.unchanged("another step is withdrawn", x, 1124, x::advise);
        x.withdraw(3, 0, 0);
        x.withdraw(3, 0, 1);
        check.unchanged("the gap is withdrawn", x, 1124, x::advise);
        x.take(0, false);
        check.unchanged("none by which there would be more", x, -1, x::advise);
        x.withdraw(3, 0, 1);
        x.proof(3);
        x.cite(3, 1, 0, 1);
        check.unchanged("a gap of a lemma that is proved", x, -1, x::advise);
    }

    private static void adviseTies() {
        LodgeProofs x = Lodges.of(3, 3);
        x.cite(2, 0, 2, 1);
        check.unchanged("one", x, 200, x::advise);
        x.cite(1, 2, 0, 0);
        x.cite(1, 2, 2, 9);
        check.unchanged("the smaller lemma", x, 121, x::advise);
        x.cite(1, 1, 0, 0);
        x.cite(1, 1, 0, 0);
        x.cite(1, 1, 2, 9);
        check.unchanged("the smaller proof", x, 112, x::advise);
        x.cite(1, 0, 1, 2);
        check.unchanged("the most lemmas first", x, 200, x::advise);
        x.cite(0, 0, 2, 5);
        x.cite(1, 0, 2, 5);
        check.unchanged("the first of all", x, 0, x::advise);
    }

    private static void adviseThroughCircle() {
        LodgeProofs x = Lodges.of(3, 2);
        x.cite(0, 0, 1, 1);
        x.cite(1, 0, 1, 0);
        x.cite(1, 1, 2, 3);
        x.cite(2, 0, 1, 2);
        x.cite(2, 0, 2, 1);
        check.unchanged("a way into the circle", x, 110, x::advise);
        x.patch(1, 1, 0, 3);
        check.unchanged("what cites itself proves nothing", x, -1, x::advise);
    }

    private static void mean() {
        LodgeProofs x = new LodgeProofs();
        check.unchanged("without any", x, 0.0, x::mean);
        x.lemma();
        check.unchanged("one without proofs", x, 0.0, x::mean);
        x.proof(0);
        x.proof(0);
        x.cite(0, 0, 0, 0);
        x.cite(0, 1, 0, 0);
        x.cite(0, 1, 2, 1);
        x.withdraw(0, 1, 1);
        check.unchanged("of all proofs", x, 3.0, x::mean);
        x.lemma();
        check.unchanged("of both lemmas", x, 1.5, x::mean);
        x.lemma();
        x.proof(2);
        x.cite(2, 0, 1, 2);
        check.unchanged("of three lemmas", x, 4.0 / 3, x::mean);
        double steps = x.told(0, 1) + x.told(1, 1) + x.told(2, 1);
        check.unchanged("of what told() tells of each lemma", x, steps / x.count(0), x::mean);
    }

    private static void digest() {
        LodgeProofs x = Lodges.of(2, 1);
        x.proof(0);
        x.cite(0, 0, 0, 3);
        x.cite(0, 1, 2, 8);
        x.cite(0, 1, 1, 1);
        x.patch(0, 1, 0, 2);
        x.withdraw(0, 1, 1);
        x.cite(1, 0, 1, 0);
        x.take(4, false);
        int[] numbers = {
            2, 2, 4, 3, 4, 6, 2,
            1, 1, 1, 1, 0,
            2, 3, 1, 1, 0, 6, 2,
            1, 0, 3, 0, 0,
            2, 2, 8, 6, 0, 1, 1, 0, 1,
            1, 1, 2, 2, 0, 0, 2,
            1, 1, 0, 0, 0,
        };
        long d = 1847;
        for (int number : numbers) {
            d = d * 31 + number;
        }
        check.unchanged("digest()", x, d, x::digest);
        LodgeProofs none = Lodges.of(1, 0);
        long e = 1847;
        for (int number : new int[] {1, 0, 5, 0, 0, 0, 0, 1, 1, 1, 1, 1, 0, 0, 0, -1, -1, 0, 0}) {
            e = e * 31 + number;
        }
        check.unchanged("digest() without a length", none, e, none::digest);
    }
}
