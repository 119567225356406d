import java.util.function.IntToLongFunction;

/** What the tests by sentences have in common. */
abstract class Edges {
    static final int BAD = -1, STATE = -2, FULL = -3, NONE = -4;
    static final int LOW = Integer.MIN_VALUE, HIGH = Integer.MAX_VALUE;

    final Sentences says;

    Edges(Sentences says) {
        this.says = says;
    }

    abstract void all();

    void due(String call, long got, long want) {
        says.check().due(call, got, want);
    }

    void holds(String what, boolean holds) {
        says.check().holds(what, holds);
    }

    /** What is out of two bounds: next to them, and the farthest off. */
    static int[] outside(int least, int most) {
        return new int[] {LOW, least - 1, most + 1, HIGH};
    }

    /** All that is out of the bounds is BAD, and then, at both of them, nothing is. */
    void bounds(String call, int least, int most, IntToLongFunction answer) {
        for (int v : outside(least, most)) {
            due(call + " of " + v, answer.applyAsLong(v), BAD);
        }
        holds(call + " of " + most + " is not BAD", answer.applyAsLong(most) != BAD);
        holds(call + " of " + least + " is not BAD", answer.applyAsLong(least) != BAD);
    }

    /** Where there is none at all, all numbers are BAD. */
    void noneIsThere(String call, IntToLongFunction answer) {
        for (int v : new int[] {LOW, -1, 0, 1, HIGH}) {
            due(call + " of " + v + ", where there is none", answer.applyAsLong(v), BAD);
        }
    }

    void fraction(String call, long top, long bottom, long wantTop, long wantBottom) {
        due(call + ", numerator", top, wantTop);
        due(call + ", denominator", bottom, wantBottom);
    }

    static void feedAll(RocketPrint x, String text) {
        for (int i = 0; i < text.length(); i++) {
            x.feed(text.charAt(i));
        }
    }

    static int tell(RocketPrint x, String text) {
        feedAll(x, text);
        return x.text();
    }

    RocketPrint of(String text) {
        RocketPrint x = new RocketPrint();
        holds("is taken: " + text, tell(x, text) >= 0);
        return x;
    }

    /** As many WORKS as may be, each told from the others by its MINUTE and POWER, and READERS likewise. */
    static RocketPrint full() {
        RocketPrint x = new RocketPrint();
        for (int w = 0; w < 6; w++) {
            x.write(w % 4, 2 * w, 10 * w, 9 - w);
        }
        for (int r = 0; r < 4; r++) {
            x.come(3 * r + 1, 2 * r);
        }
        return x;
    }

    /** Wheels over place 5, one behind another: some are UP in each minute from 0 to 76. */
    RocketPrint lit(String readers) {
        return of("wheel 5 0 9;wheel 5 18 9;wheel 5 36 9;wheel 5 54 9;wheel 5 59 9;" + readers);
    }
}
