/** Every promise of the document, by answers that were worked out by hand. */
public final class PromisesTest {
    private static final int BAD = -1, STATE = -2, FULL = -3, NONE = -4;
    private static final int LOW = Integer.MIN_VALUE, HIGH = Integer.MAX_VALUE;
    private static final Check CHECK = new Check();

    public static void main(String[] args) {
        newObject();
        feed();
        end();
        textTaken();
        textAtTheEnd();
        textFaults();
        textAndTheRest();
        fault();
        rule();
        work();
        sticksOfWorks();
        reader();
        readsAndLooks();
        sky();
        alter();
        move();
        blowAndDamp();
        writeAndCome();
        burnAndLeave();
        firstAndDark();
        peak();
        when();
        stand();
        swap();
        lose();
        need();
        dry();
        kind();
        luck();
        mean();
        seeAndForget();
        winds();
        fromsAndKinds();
        ask();
        drift();
        images();
        allAtMost();
        sheet();
        lay();
        read();
        readRefused();
        torn();
        count();
        CHECK.finish();
    }

    private static void due(String call, long got, long want) {
        CHECK.due(call, got, want);
    }

    private static void feedAll(RocketPrint x, String text) {
        for (int i = 0; i < text.length(); i++) {
            x.feed(text.charAt(i));
        }
    }

    private static int tell(RocketPrint x, String text) {
        feedAll(x, text);
        return x.text();
    }

    private static RocketPrint of(String text) {
        RocketPrint x = new RocketPrint();
        CHECK.holds("is taken: " + text, tell(x, text) >= 0);
        return x;
    }

    /** A text of which nothing is taken, its FAULT and where. */
    private static void refused(String text, int fault, int place) {
        RocketPrint x = of("star 1 2 3;reader 4 5;wind 6;damp 7;");
        x.see(0, 0);
        x.keep(1);
        due("text() of '" + text + "'", tell(x, text), -10 - place);
        due("fault() of '" + text + "'", x.fault(), fault);
        due("count(2), empty by a FAULT too", x.count(2), 0);
        due("rule(0) stays", x.rule(0), 1);
        due("rule(1) stays", x.rule(1), 1);
        due("rule(2) stays", x.rule(2), 6);
        due("rule(3) stays", x.rule(3), 7);
        due("work(0, 3) stays", x.work(0, 3), 3);
        due("SEEN stays", x.count(0), 1);
        due("IMAGES stay", x.count(1), 1);
    }

    private static void newObject() {
        RocketPrint x = new RocketPrint();
        due("new rule(0)", x.rule(0), 0);
        due("new rule(1)", x.rule(1), 0);
        due("new rule(2)", x.rule(2), 4);
        due("new rule(3)", x.rule(3), 0);
        due("new rule(5)", x.rule(5), 0);
        due("new fault()", x.fault(), 0);
        due("new torn()", x.torn(), 0);
        due("new count(0)", x.count(0), 0);
        due("new count(1)", x.count(1), 0);
        due("new count(2)", x.count(2), 0);
        due("new count(3)", x.count(3), NONE);
        due("new back(0)", x.back(0), STATE);
        due("new back(1)", x.back(1), STATE);
        for (int k = 0; k < 4; k++) {
            due("new lay", x.lay(k, 0, 0), -11);
        }
    }

    private static void feed() {
        RocketPrint x = new RocketPrint();
        due("feed(-1)", x.feed(-1), BAD);
        due("feed(128)", x.feed(128), BAD);
        due("feed(low)", x.feed(LOW), BAD);
        due("feed(high)", x.feed(HIGH), BAD);
        due("feed(0)", x.feed(0), 1);
        due("feed(127)", x.feed(127), 2);
        for (int i = 3; i <= 160; i++) {
            due("feed(32)", x.feed(32), i);
        }
        due("feed(32), full", x.feed(32), FULL);
        due("feed(128), full", x.feed(128), BAD);
        due("count(2), full", x.count(2), 160);
        due("byte 0 is no TOKEN", x.text(), -10);
        due("feed(32) after text()", x.feed(32), 1);
    }

    private static void end() {
        RocketPrint x = new RocketPrint();
        due("end(0) of nothing", x.end(0), 0);
        due("end(1) of nothing", x.end(1), BAD);
        due("end(-1)", x.end(-1), BAD);
        feedAll(x, "wind 3;damp 2;");
        due("end(15)", x.end(15), BAD);
        due("end(low)", x.end(LOW), BAD);
        due("end(14)", x.end(14), 14);
        due("end(7)", x.end(7), 14);
        due("end(7) again", x.end(7), 7);
        due("text() of the first 7", x.text(), 1);
        due("wind", x.rule(2), 3);
        due("damp", x.rule(3), 0);
    }

    /** What is behind the end is not read, were it written there before; nor what is behind all 160. */
    private static void textAtTheEnd() {
        RocketPrint x = new RocketPrint();
        feedAll(x, "wind 12");
        x.end(6);
        due("text() of 'wind 1'", x.text(), -16);
        due("fault()", x.fault(), 2);
        feedAll(x, "windy");
        x.end(4);
        due("text() of 'wind'", x.text(), -14);
        due("fault()", x.fault(), 2);
        due("text() of letters", tell(x, "a".repeat(160)), -10);
        due("fault()", x.fault(), 2);
        due("text() of figures", tell(x, "1".repeat(160)), -10);
        due("fault()", x.fault(), 1);
        due("text() of blanks", tell(x, " ".repeat(160)), 0);
        due("text() up to the end", tell(x, " ".repeat(153) + "wind 1;"), 1);
        due("text() cut at the end", tell(x, " ".repeat(154) + "wind 1"), -170);
        due("fault()", x.fault(), 2);
    }

    private static void textTaken() {
        RocketPrint x = of("star 1 2 3;reader 4 5;wind 6;damp 7;");
        due("empty text", x.text(), 0);
        due("empty: works", x.rule(0), 0);
        due("empty: readers", x.rule(1), 0);
        due("empty: wind", x.rule(2), 4);
        due("empty: damp", x.rule(3), 0);
        due("blanks", tell(x, "   "), 0);
        due("blanks about", tell(x, "  wind  8  ;  damp09;  "), 2);
        due("wind 8", x.rule(2), 8);
        due("damp 9", x.rule(3), 9);
        due("no blanks", tell(x, "star1 2 3;wheel11 59 9;fountain0 0 1;squib 00 01 02;reader11 9;reader0 0;"), 6);
        int[][] works = {{0, 1, 2, 3}, {1, 11, 59, 9}, {2, 0, 0, 1}, {3, 0, 1, 2}};
        for (int w = 0; w < 4; w++) {
            for (int what = 0; what < 4; what++) {
                due("told work(" + w + ", " + what + ")", x.work(w, what), works[w][what]);
            }
        }
        due("reader(0, 0)", x.reader(0, 0), 11);
        due("reader(0, 1)", x.reader(0, 1), 9);
        due("reader(1, 0)", x.reader(1, 0), 0);
        due("wind as at first", x.rule(2), 4);
        due("damp as at first", x.rule(3), 0);
        due("wind 0, damp 0", tell(x, "wind 0;damp 0;"), 2);
        due("rule(2)", x.rule(2), 0);
        due("6 works, 4 readers", tell(x, "star 0 0 1;".repeat(6) + "reader 0 0;".repeat(4)), 10);
    }

    private static void textFaults() {
        refused("wind! 1;", 1, 4);
        refused("Wind 1;", 1, 0);
        refused("wind\t1;", 1, 4);
        refused("wind 1;\0", 1, 7);
        refused("wind -1;", 1, 5);
        refused("star 1 100 1;", 1, 7);
        refused("123", 1, 0);
        refused("000;", 1, 0);
        refused("wind 1 234;", 1, 7);
        refused("winx!", 2, 0);
        refused("win 1;", 2, 0);
        refused("windd 1;", 2, 0);
        refused("kind 1;", 2, 0);
        refused("wine 1;", 2, 0);
        refused("ztar 1 1 1;", 2, 0);
        refused("{wind 1;", 1, 0);
        refused("wind :;", 1, 5);
        refused("wind /;", 1, 5);
        refused("windstar 1;", 2, 0);
        refused("12", 2, 0);
        refused(";", 2, 0);
        refused("  ;", 2, 2);
        refused("wind 1;;", 2, 7);
        refused("wind wind 1;", 2, 5);
        refused("wind;", 2, 4);
        refused("wind 1 2;", 2, 7);
        refused("damp 1 damp 2;", 2, 7);
        refused("star 1 1 1", 2, 10);
        refused("star 1 1 1  ", 2, 12);
        refused("star", 2, 4);
        refused("reader 1;", 2, 8);
        refused("reader 1 1 1;", 2, 11);
        refused("star 12 99 99;", 3, 5);
        refused("star 11 60 99;", 3, 8);
        refused("star 11 59 0;", 3, 11);
        refused("star 11 59 10!", 3, 11);
        refused("reader 12 1;", 3, 7);
        refused("reader 11 10;", 3, 10);
        refused("wind 9;", 3, 5);
        refused("damp 10;", 3, 5);
        refused("wind 1;damp 1;wind 999;", 4, 14);
        refused("damp 1;wind 1; damp", 4, 15);
        refused("star 0 0 1;".repeat(6) + "squib!", 5, 66);
        refused("reader 0 0;".repeat(4) + " reader 99", 5, 45);
    }

    private static void textAndTheRest() {
        RocketPrint x = of("star 1 2 3;");
        x.see(0, 1);
        x.keep(0);
        x.keep(1);
        x.sheet(0, 2, 7);
        due("text", tell(x, "star 5 5 5;"), 1);
        due("nothing is SEEN", x.count(0), 0);
        due("IMAGES are gone", x.count(1), 0);
        due("back(0)", x.back(0), STATE);
        due("back(1)", x.back(1), STATE);
        due("SHEETS stay", x.count(3), 7);
        due("winds()", x.winds(), 511);
    }

    private static void fault() {
        RocketPrint x = new RocketPrint();
        due("fault() at first", x.fault(), 0);
        tell(x, "?");
        due("fault() 1", x.fault(), 1);
        x.feed('w');
        due("fault() 1 until text()", x.fault(), 1);
        due("text", x.text(), -10);
        due("fault() 2", x.fault(), 2);
        due("text", tell(x, "wind 1;"), 1);
        due("fault() 0 again", x.fault(), 0);
    }

    /** A star UP from 10 to 12 that is 3 WIDE; the last READER coughs at 10. */
    private static RocketPrint oneStar() {
        RocketPrint x = new RocketPrint();
        x.write(0, 5, 10, 3);
        x.come(5, 0);
        x.come(8, 0);
        x.come(9, 0);
        x.come(2, 5);
        return x;
    }

    private static void rule() {
        RocketPrint x = oneStar();
        int[] due = {1, 4, 4, 0, 8, 2};
        for (int what = 0; what < due.length; what++) {
            due("rule(" + what + ")", x.rule(what), due[what]);
        }
        due("rule(6)", x.rule(6), BAD);
        due("rule(-1)", x.rule(-1), BAD);
        x.damp(3);
        due("rule(3)", x.rule(3), 3);
        due("rule(4): POWER is not above DAMP", x.rule(4), 0);
        due("rule(5): none is UP", x.rule(5), 0);
        x.damp(2);
        due("rule(4): POWER is above DAMP", x.rule(4), 8);
    }

    private static void work() {
        RocketPrint x = oneStar();
        int[] due = {0, 5, 10, 3, 3, 3, 5, 5, 3};
        for (int what = 0; what < due.length; what++) {
            due("work(0, " + what + ")", x.work(0, what), due[what]);
        }
        due("work(0, 9)", x.work(0, 9), BAD);
        due("work(0, -1)", x.work(0, -1), BAD);
        due("work(1, 0)", x.work(1, 0), BAD);
        due("work(-1, 8)", x.work(-1, 8), BAD);
        due("work(low, low)", x.work(LOW, LOW), BAD);
        int[][] lasts = {{1, 2, 1, 0}, {2, 4, 2, 1}, {9, 18, 5, 4}};
        int[][] wide = {{1, 0, 1, 3}, {2, 1, 2, 4}, {9, 4, 9, 11}};
        int[] powers = {1, 2, 9};
        for (int i = 0; i < 3; i++) {
            x.alter(0, 3, powers[i]);
            for (int kind = 0; kind < 4; kind++) {
                x.alter(0, 0, kind);
                due("LASTS of " + kind + " by " + powers[i], x.work(0, 4), lasts[i][kind]);
                due("WIDE of " + kind + " by " + powers[i], x.work(0, 5), wide[i][kind]);
            }
        }
    }

    private static void sticksOfWorks() {
        RocketPrint x = new RocketPrint();
        x.write(0, 6, 0, 3);
        int[] bursts = {2, 3, 4, 5, 6, 7, 8, 9, 10};
        // 3 LASTS: a quarter of 12, 9, 6, 3, 0 each way.
        int[] sticks = {0, 1, 3, 5, 6, 7, 9, 11, 11};
        for (int wind = 0; wind < 9; wind++) {
            x.blow(wind);
            due("BURSTS by " + wind, x.work(0, 6), bursts[wind]);
            due("STICK by " + wind, x.work(0, 7), sticks[wind]);
        }
        x.alter(0, 1, 10);
        due("BURSTS at the end", x.work(0, 6), 11);
        x.blow(0);
        x.alter(0, 1, 1);
        due("BURSTS at 0", x.work(0, 6), 0);
        due("STICK at 0", x.work(0, 7), 0);
        x.alter(0, 1, 7);
        x.damp(9);
        due("STICK of one that does not go up", x.work(0, 7), 0);
        x.blow(3);
        due("BURSTS of one that does not go up", x.work(0, 6), 6);
    }

    private static void reader() {
        RocketPrint x = oneStar();
        int[][] due = {{5, 0, 1, 3}, {8, 0, 1, 3}, {9, 0, 0, 0}, {2, 5, 0, 2}};
        for (int r = 0; r < 4; r++) {
            for (int what = 0; what < 4; what++) {
                due("reader(" + r + ", " + what + ")", x.reader(r, what), due[r][what]);
            }
        }
        due("reader(4, 0)", x.reader(4, 0), BAD);
        due("reader(-1, 0)", x.reader(-1, 0), BAD);
        due("reader(0, 4)", x.reader(0, 4), BAD);
        due("reader(0, -1)", x.reader(0, -1), BAD);
        x.write(0, 0, 0, 9);
        x.write(0, 5, 20, 1);
        due("reader(0, 2), three", x.reader(0, 2), 7);
    }

    /** The reader is at 5: the wheel (2 off) is nearer than the star (3 off), the fountain as near as the star. */
    private static RocketPrint three() {
        return of("star 2 10 6;wheel 7 12 4;fountain 8 14 8;reader 5 0;reader 5 7;");
    }

    private static void readsAndLooks() {
        RocketPrint x = three();
        // star 10..15, wheel 12..19 (2 WIDE), fountain 14..18
        due("looks(0, 9)", x.looks(0, 9), NONE);
        due("looks(0, 10)", x.looks(0, 10), 0);
        due("looks(0, 11)", x.looks(0, 11), 0);
        due("looks(0, 12)", x.looks(0, 12), 1);
        due("looks(0, 19)", x.looks(0, 19), 1);
        due("looks(0, 20)", x.looks(0, 20), NONE);
        due("looks(1, 14), coughs", x.looks(1, 14), NONE);
        due("looks(1, 13)", x.looks(1, 13), 1);
        due("looks(0, 79)", x.looks(0, 79), NONE);
        due("looks(0, 80)", x.looks(0, 80), BAD);
        due("looks(0, -1)", x.looks(0, -1), BAD);
        due("looks(2, 0)", x.looks(2, 0), BAD);
        due("looks(-1, 0)", x.looks(-1, 0), BAD);
        due("reads(0, 0)", x.reads(0, 0), 2);
        due("reads(0, 1)", x.reads(0, 1), 8);
        due("reads(0, 2)", x.reads(0, 2), 0);
        due("reads(1, 1)", x.reads(1, 1), 7);
        due("reads(0, 3)", x.reads(0, 3), BAD);
        due("reads(2, 0)", x.reads(2, 0), BAD);
        due("reads(-1, -1)", x.reads(-1, -1), BAD);
        x.alter(1, 3, 3);
        // The wheel is 1 WIDE now, so it is not looked at; star and fountain are as near.
        due("looks(0, 14), the first of two", x.looks(0, 14), 0);
        due("looks(0, 16)", x.looks(0, 16), 2);
        due("reads(0, 2)", x.reads(0, 2), 3);
        x.move(0, 1, 1);
        due("reads(0, 0), coughs always", x.reads(0, 0), 0);
        x.move(0, 1, 9);
        x.alter(0, 2, 0);
        due("looks(0, 0), coughs at 0", x.looks(0, 0), NONE);
        due("looks(0, 1)", x.looks(0, 1), 0);
    }

    private static void sky() {
        RocketPrint x = three();
        int[][] due = {{9, 0}, {10, 1}, {12, 3}, {14, 7}, {15, 7}, {16, 6}, {18, 6}, {19, 2}, {20, 0}, {79, 0}};
        for (int[] row : due) {
            due("sky(" + row[0] + ")", x.sky(row[0]), row[1]);
        }
        due("sky(0)", x.sky(0), 0);
        due("sky(80)", x.sky(80), BAD);
        due("sky(-1)", x.sky(-1), BAD);
        x.damp(4);
        due("sky(14), the wheel is damp", x.sky(14), 5);
        RocketPrint y = of("squib 5 3 1;wheel 0 59 9;");
        due("sky(3), a squib that lasts 0", y.sky(3), 0);
        due("sky(76)", y.sky(76), 2);
        due("sky(77)", y.sky(77), 0);
    }

    private static void alter() {
        RocketPrint x = of("star 1 2 3;wheel 4 5 6;");
        int[] was = {1, 4, 5, 6};
        int[] most = {3, 11, 59, 9};
        int[] least = {0, 0, 0, 1};
        for (int what = 0; what < 4; what++) {
            due("alter, most", x.alter(1, what, most[what]), was[what]);
            due("alter, more", x.alter(1, what, most[what] + 1), BAD);
            due("alter, refused changes nothing", x.work(1, what), most[what]);
            due("alter, least", x.alter(1, what, least[what]), most[what]);
            due("alter, less", x.alter(1, what, least[what] - 1), BAD);
            due("alter, of this one", x.work(1, what), least[what]);
        }
        due("alter, not of the other", x.work(0, 3), 3);
        due("alter(2, 0, 0)", x.alter(2, 0, 0), BAD);
        due("alter(-1, 0, 0)", x.alter(-1, 0, 0), BAD);
        due("alter(0, 4, 1)", x.alter(0, 4, 1), BAD);
        due("alter(0, -1, 1)", x.alter(0, -1, 1), BAD);
        due("alter(0, high, 1)", x.alter(0, HIGH, 1), BAD);
    }

    private static void move() {
        RocketPrint x = of("reader 1 2;reader 3 4;");
        due("move(1, 0, 11)", x.move(1, 0, 11), 3);
        due("move(1, 0, 12)", x.move(1, 0, 12), BAD);
        due("move(1, 0, -1)", x.move(1, 0, -1), BAD);
        due("move(1, 0, 0)", x.move(1, 0, 0), 11);
        due("move(1, 1, 9)", x.move(1, 1, 9), 4);
        due("move(1, 1, 10)", x.move(1, 1, 10), BAD);
        due("move(1, 1, -1)", x.move(1, 1, -1), BAD);
        due("move(1, 1, 0)", x.move(1, 1, 0), 9);
        due("move(0, 2, 0)", x.move(0, 2, 0), BAD);
        due("move(0, -1, 0)", x.move(0, -1, 0), BAD);
        due("move(2, 0, 0)", x.move(2, 0, 0), BAD);
        due("move(-1, 0, 0)", x.move(-1, 0, 0), BAD);
        due("not of the other", x.reader(0, 0), 1);
        due("not of the other", x.reader(0, 1), 2);
    }

    private static void blowAndDamp() {
        RocketPrint x = new RocketPrint();
        due("blow(8)", x.blow(8), 4);
        due("blow(9)", x.blow(9), BAD);
        due("blow(-1)", x.blow(-1), BAD);
        due("blow(0)", x.blow(0), 8);
        due("rule(2)", x.rule(2), 0);
        due("damp(9)", x.damp(9), 0);
        due("damp(10)", x.damp(10), BAD);
        due("damp(-1)", x.damp(-1), BAD);
        due("damp(0)", x.damp(0), 9);
        due("damp(1)", x.damp(1), 0);
        due("rule(3)", x.rule(3), 1);
    }

    private static void writeAndCome() {
        RocketPrint x = new RocketPrint();
        int[][] bad = {{4, 0, 0, 1}, {-1, 0, 0, 1}, {0, 12, 0, 1}, {0, -1, 0, 1}, {0, 0, 60, 1}, {0, 0, -1, 1}, {0, 0, 0, 0}, {0, 0, 0, 10}};
        for (int[] b : bad) {
            due("write, bad", x.write(b[0], b[1], b[2], b[3]), BAD);
        }
        due("none came", x.rule(0), 0);
        due("write, least", x.write(0, 0, 0, 1), 1);
        for (int i = 2; i <= 6; i++) {
            due("write, most", x.write(3, 11, 59, 9), i);
        }
        due("write, full", x.write(3, 11, 59, 9), FULL);
        due("write, full and bad", x.write(3, 11, 59, 10), BAD);
        due("rule(0)", x.rule(0), 6);
        due("work(5, 2)", x.work(5, 2), 59);
        due("come(12, 0)", x.come(12, 0), BAD);
        due("come(-1, 0)", x.come(-1, 0), BAD);
        due("come(0, 10)", x.come(0, 10), BAD);
        due("come(0, -1)", x.come(0, -1), BAD);
        due("come(0, 0)", x.come(0, 0), 1);
        for (int i = 2; i <= 4; i++) {
            due("come(11, 9)", x.come(11, 9), i);
        }
        due("come, full", x.come(11, 9), FULL);
        due("come, full and bad", x.come(11, 10), BAD);
        due("rule(1)", x.rule(1), 4);
        due("reader(3, 1)", x.reader(3, 1), 9);
    }

    private static void burnAndLeave() {
        RocketPrint x = of("star 1 1 1;star 2 2 2;star 3 3 3;reader 1 1;reader 2 2;");
        due("burn(4)", x.burn(4), BAD);
        due("burn(-1)", x.burn(-1), BAD);
        due("burn(3)", x.burn(3), 3);
        due("burn(1)", x.burn(1), 3);
        due("work(0, 3)", x.work(0, 3), 1);
        due("work(1, 3)", x.work(1, 3), BAD);
        due("burn(2)", x.burn(2), BAD);
        due("burn(0)", x.burn(0), 1);
        due("burn(0)", x.burn(0), 0);
        due("leave(3)", x.leave(3), BAD);
        due("leave(-1)", x.leave(-1), BAD);
        due("leave(1)", x.leave(1), 2);
        due("reader(0, 0)", x.reader(0, 0), 1);
        due("reader(1, 0)", x.reader(1, 0), BAD);
        due("leave(0)", x.leave(0), 1);
        due("leave(1)", x.leave(1), BAD);
    }

    private static void firstAndDark() {
        RocketPrint x = oneStar();
        due("first(0)", x.first(0), 10);
        due("first(2)", x.first(2), NONE);
        due("first(3), coughs at 10", x.first(3), 11);
        due("first(4)", x.first(4), BAD);
        due("first(-1)", x.first(-1), BAD);
        due("dark()", x.dark(), 77);
        x.write(0, 0, 59, 9);
        due("dark(), two", x.dark(), 68);
        x.leave(0);
        due("dark(), none there", x.dark(), 80);
        RocketPrint y = of("star 0 0 1;reader 0 0;");
        due("first at 0", y.first(0), 0);
        due("dark(), one reader", y.dark(), 79);
        due("peak at 0", y.peak(0, 0), 0);
        due("peak at 0, one", y.peak(0, 1), 1);
    }

    private static void peak() {
        RocketPrint x = oneStar();
        due("peak(0, 0)", x.peak(0, 0), 11);
        due("peak(0, 1)", x.peak(0, 1), 3);
        due("peak(0, 2)", x.peak(0, 2), BAD);
        due("peak(0, -1)", x.peak(0, -1), BAD);
        due("peak(1, 0)", x.peak(1, 0), BAD);
        x.leave(3);
        due("peak(0, 0), the first", x.peak(0, 0), 10);
        due("peak(0, 1)", x.peak(0, 1), 2);
        x.damp(9);
        due("peak(0, 0), none", x.peak(0, 0), NONE);
        due("peak(0, 1), none", x.peak(0, 1), NONE);
        due("peak(-1, 5), bad ahead of none", x.peak(-1, 5), BAD);
    }

    private static void when() {
        // The star lasts 3; the second reader coughs at 0, 4, 8 ..
        RocketPrint x = of("star 5 10 3;reader 5 0;reader 5 4;");
        due("when(0, 0)", x.when(0, 0), 1);
        due("when(0, 1)", x.when(0, 1), 2);
        due("nothing is changed", x.work(0, 2), 10);
        due("when(0, 2)", x.when(0, 2), BAD);
        due("when(1, 0)", x.when(1, 0), BAD);
        due("when(-1, 0)", x.when(-1, 0), BAD);
        x.move(1, 1, 3);
        due("when(0, 0), the first", x.when(0, 0), 0);
        due("when(0, 1)", x.when(0, 1), 1);
        x.damp(9);
        due("when(0, 0), none", x.when(0, 0), 0);
        due("when(0, 1), none", x.when(0, 1), 0);
        // Only behind the other, the last minute that may be.
        RocketPrint y = of("wheel 5 41 9;wheel 5 23 9;wheel 5 5 9;star 5 0 9;reader 5 0;");
        due("when(3, 0), at the end", y.when(3, 0), 59);
        due("when(3, 1)", y.when(3, 1), 1);
    }

    private static void stand() {
        RocketPrint x = of("star 3 0 2;star 9 10 4;reader 0 0;reader 0 2;");
        // The first is seen from 1 to 5, the second from 5 to 11: 5 sees both.
        due("stand(0, 0)", x.stand(0, 0), 5);
        due("stand(0, 1)", x.stand(0, 1), 6);
        due("stand(1, 1), coughs", x.stand(1, 1), 3);
        due("nothing is changed", x.reader(0, 0), 0);
        due("stand(0, 2)", x.stand(0, 2), BAD);
        due("stand(2, 0)", x.stand(2, 0), BAD);
        due("stand(-1, 0)", x.stand(-1, 0), BAD);
        x.burn(0);
        due("stand(0, 0), the first", x.stand(0, 0), 0);
        due("stand(0, 1), none", x.stand(0, 1), 0);
        RocketPrint y = of("star 11 0 1;wheel 11 5 1;reader 0 0;");
        due("stand at the end", y.stand(0, 0), 11);
        due("stand at the end, how many", y.stand(0, 1), 3);
    }

    private static void swap() {
        // The reader coughs at 0, 9, 18: a star of 1 at minute 9 is lost to him, one of 3 loses 1 of 3.
        RocketPrint x = of("star 5 9 1;star 5 20 1;reader 5 9;");
        due("swap(0), no more", x.swap(0), NONE);
        due("swap(1), no more", x.swap(1), NONE);
        due("swap(2)", x.swap(2), BAD);
        due("swap(-1)", x.swap(-1), BAD);
        // star 0..8 hides star 0..1; changed with the one at 20 it is 20..21.
        RocketPrint y = of("star 0 0 9;star 0 0 2;star 0 20 9;reader 0 0;");
        due("as it is", y.rule(4), 18);
        due("swap(0), none is more", y.swap(0), NONE);
        RocketPrint z = of("star 0 0 5;star 0 0 2;star 0 6 1;reader 0 0;");
        // 0..4, 0..1, 6: 6 minutes. 0 and 2: 6..10, 0..1, 0: 7. 1 and 2: 0..4, 6..7, 0: 7.
        due("as it is", z.rule(4), 6);
        due("swap(0), the least", z.swap(0), 2);
        due("swap(1)", z.swap(1), 7);
        due("nothing is changed", z.work(2, 2), 6);
        RocketPrint v = of("star 0 0 5;star 0 2 9;reader 0 3;reader 0 9;");
        // 0..4 and 2..10: 7 and 9 minutes; changed, 2..6 and 0..8: 6 and 8.
        due("as it is", v.rule(4), 16);
        due("fewer is none", v.swap(0), NONE);
        v.alter(0, 2, 2);
        v.alter(1, 2, 0);
        due("changed", v.rule(4), 14);
        due("swap(0), of two", v.swap(0), 1);
        due("swap(1), of two", v.swap(1), 16);
        RocketPrint u = of("star 0 30 9;star 0 0 5;star 0 0 2;star 0 6 1;reader 0 0;");
        due("swap(0), of later ones", u.swap(0), 13);
        due("swap(1), of later ones", u.swap(1), 16);
    }

    private static void lose() {
        RocketPrint x = of("star 5 0 9;star 5 3 1;star 5 6 1;reader 5 0;");
        // The first hides two that lie within it.
        due("as it is", x.rule(5), 1);
        due("lose(0)", x.lose(0), 0);
        due("lose(1)", x.lose(1), 2);
        due("nothing is changed", x.rule(0), 3);
        due("lose(2)", x.lose(2), BAD);
        due("lose(-1)", x.lose(-1), BAD);
        RocketPrint u = of("star 5 40 1;star 5 0 9;star 5 3 1;star 5 6 1;reader 5 0;");
        due("lose(0), that first alone", u.lose(0), 1);
        due("lose(1), the one ahead is read yet", u.lose(1), 3);
        x.burn(2);
        due("lose(0), as many is not more", x.lose(0), NONE);
        due("lose(1)", x.lose(1), NONE);
        // The second is nearer and is up in a minute of each of two readers' stars.
        RocketPrint y = of("star 4 0 3;star 5 2 3;reader 5 2;reader 5 0;");
        due("as it is", y.rule(5), 1);
        due("lose(0), none", y.lose(0), NONE);
        RocketPrint z = of("star 9 30 1;star 4 0 9;star 5 2 3;reader 5 5;reader 5 0;reader 5 0;");
        // The star at 0..8: coughed at 0, 5 by the first; the others lose 2..4 of it, and would read it whole.
        due("as it is", z.rule(5), 3);
        due("lose(0), by which it is as many", z.lose(0), NONE);
    }

    private static void need() {
        RocketPrint x = of("star 5 10 1;reader 8 0;reader 5 0;reader 5 1;");
        due("need(0, 0), 3 off", x.need(0, 0), 3);
        due("need(0, 1)", x.need(0, 1), 1);
        due("need(0, 2), coughs always", x.need(0, 2), NONE);
        due("nothing is changed", x.work(0, 3), 1);
        x.damp(6);
        due("need(0, 0), damp", x.need(0, 0), 7);
        x.damp(8);
        due("need(0, 0), 9", x.need(0, 0), 9);
        x.damp(9);
        due("need(0, 0), too damp", x.need(0, 0), NONE);
        due("need(1, 0)", x.need(1, 0), BAD);
        due("need(0, 3)", x.need(0, 3), BAD);
        due("need(-1, 0)", x.need(-1, 0), BAD);
        due("need(0, -1)", x.need(0, -1), BAD);
        RocketPrint y = of("squib 5 10 9;reader 5 0;");
        due("need of a squib, that lasts 1 at least", y.need(0, 0), 2);
    }

    private static void dry() {
        RocketPrint x = of("star 5 10 6;star 0 20 9;reader 11 0;reader 11 1;reader 0 0;damp 9;");
        due("dry(0), by the star of 6", x.dry(0), 5);
        due("dry(1), coughs always", x.dry(1), NONE);
        due("dry(2)", x.dry(2), 8);
        due("nothing is changed", x.rule(3), 9);
        x.move(0, 0, 9);
        due("dry(0), by the star of 9 now", x.dry(0), 8);
        due("dry(3)", x.dry(3), BAD);
        due("dry(-1)", x.dry(-1), BAD);
        RocketPrint y = of("star 5 10 1;reader 5 0;");
        due("dry(0), 0", y.dry(0), 0);
    }

    private static void kind() {
        RocketPrint x = of("star 5 10 4;reader 5 0;reader 9 0;");
        // star 4 + 4, wheel 8 (2 wide), fountain 3 + 3, squib 2 + 2
        due("kind(0, 0), the first", x.kind(0, 0), 0);
        due("kind(0, 1)", x.kind(0, 1), 8);
        x.move(1, 0, 7);
        due("kind(0, 0), wheel", x.kind(0, 0), 1);
        due("kind(0, 1)", x.kind(0, 1), 16);
        x.leave(1);
        x.move(0, 0, 11);
        due("kind(0, 0), squib", x.kind(0, 0), 3);
        due("kind(0, 1), squib", x.kind(0, 1), 2);
        due("nothing is changed", x.work(0, 0), 0);
        due("kind(0, 2)", x.kind(0, 2), BAD);
        due("kind(1, 0)", x.kind(1, 0), BAD);
        due("kind(-1, 0)", x.kind(-1, 0), BAD);
        x.damp(9);
        due("kind(0, 0), none", x.kind(0, 0), 0);
        due("kind(0, 1), none", x.kind(0, 1), 0);
    }

    private static void fraction(String call, long top, long bottom, long wantTop, long wantBottom) {
        due(call + ", 0", top, wantTop);
        due(call + ", 1", bottom, wantBottom);
    }

    private static void luck() {
        // The second is nearer and is up in a minute of the first.
        RocketPrint x = of("star 4 0 3;star 5 2 3;reader 5 0;reader 5 1;");
        fraction("luck(4, 0, 0)", x.luck(4, 0, 0, 0), x.luck(4, 0, 0, 1), 6, 25);
        fraction("luck(4, 0, 1)", x.luck(4, 0, 1, 0), x.luck(4, 0, 1, 1), 3, 5);
        fraction("luck(0, 0, 0)", x.luck(0, 0, 0, 0), x.luck(0, 0, 0, 1), 0, 1);
        fraction("luck(0, 0, 1)", x.luck(0, 0, 1, 0), x.luck(0, 0, 1, 1), 1, 1);
        fraction("luck(10, 0, 1)", x.luck(10, 0, 1, 0), x.luck(10, 0, 1, 1), 0, 1);
        fraction("luck(4, 1, 1)", x.luck(4, 1, 1, 0), x.luck(4, 1, 1, 1), 0, 1);
        due("luck(-1, 0, 0, 0)", x.luck(-1, 0, 0, 0), BAD);
        due("luck(11, 0, 0, 0)", x.luck(11, 0, 0, 0), BAD);
        due("luck(1, 2, 0, 0)", x.luck(1, 2, 0, 0), BAD);
        due("luck(1, -1, 0, 0)", x.luck(1, -1, 0, 0), BAD);
        due("luck(1, 0, 2, 0)", x.luck(1, 0, 2, 0), BAD);
        due("luck(1, 0, -1, 0)", x.luck(1, 0, -1, 0), BAD);
        due("luck(1, 0, 0, 2)", x.luck(1, 0, 0, 2), BAD);
        due("luck(1, 0, 0, -1)", x.luck(1, 0, 0, -1), BAD);
        x.damp(3);
        fraction("luck, too damp anyhow", x.luck(4, 0, 1, 0), x.luck(4, 0, 1, 1), 0, 1);
        // 1 WIDE, so it just reaches him who is 1 off; the next begins when it has ended, the third is out of sight.
        RocketPrint z = of("star 4 0 1;star 5 1 1;wheel 4 0 1;reader 5 0;");
        fraction("luck(5, 0, 0)", z.luck(5, 0, 0, 0), z.luck(5, 0, 0, 1), 1, 2);
        z.move(0, 0, 6);
        fraction("luck(5, 0, 0), 2 off", z.luck(5, 0, 0, 0), z.luck(5, 0, 0, 1), 0, 1);
        // He coughs in its last minute, or just behind it.
        RocketPrint u = of("star 5 1 3;reader 5 3;reader 5 4;");
        fraction("luck, coughs in it", u.luck(5, 0, 0, 0), u.luck(5, 0, 0, 1), 0, 1);
        fraction("luck, coughs behind it", u.luck(5, 1, 0, 0), u.luck(5, 1, 0, 1), 1, 2);
        // Six of a kind: the last is read whole, if the five ahead of it are damp ones.
        RocketPrint y = of("star 5 0 5;".repeat(6) + "reader 5 0;");
        fraction("luck(3, 0, 5)", y.luck(3, 0, 5, 0), y.luck(3, 0, 5, 1), 1701, 1000000);
        fraction("luck(3, 0, 0)", y.luck(3, 0, 0, 0), y.luck(3, 0, 0, 1), 7, 10);
    }

    private static void mean() {
        RocketPrint x = of("star 4 0 3;star 5 2 3;reader 5 0;reader 5 1;");
        // 0, 1, 3, 4 by 6/10 each; 2 by 1 - 16/100: 2.4 + 0.84
        fraction("mean(4)", x.mean(4, 0), x.mean(4, 1), 81, 25);
        fraction("mean(0)", x.mean(0, 0), x.mean(0, 1), 5, 1);
        fraction("mean(10)", x.mean(10, 0), x.mean(10, 1), 0, 1);
        due("mean(-1, 0)", x.mean(-1, 0), BAD);
        due("mean(11, 0)", x.mean(11, 0), BAD);
        due("mean(11, 1)", x.mean(11, 1), BAD);
        due("mean(4, 2)", x.mean(4, 2), BAD);
        due("mean(4, -1)", x.mean(4, -1), BAD);
        x.come(5, 2);
        // The third coughs at 0, 2, 4: 1, 3 by 6/10 each
        fraction("mean(4), two readers", x.mean(4, 0), x.mean(4, 1), 111, 25);
        RocketPrint y = of("star 5 0 1;".repeat(6) + "reader 5 0;");
        fraction("mean(3)", y.mean(3, 0), y.mean(3, 1), 999271, 1000000);
        fraction("mean of nothing", new RocketPrint().mean(3, 0), new RocketPrint().mean(3, 1), 0, 1);
    }

    private static void seeAndForget() {
        RocketPrint x = of("star 5 0 4;star 5 0 4;");
        due("see(2, 0)", x.see(2, 0), BAD);
        due("see(-1, 0)", x.see(-1, 0), BAD);
        due("see(0, 12)", x.see(0, 12), BAD);
        due("see(0, -1)", x.see(0, -1), BAD);
        due("forget(0) of none", x.forget(0), 0);
        for (int i = 1; i <= 6; i++) {
            due("see(1, 11)", x.see(1, 11), i);
        }
        due("see, full", x.see(0, 0), FULL);
        due("see, full and bad", x.see(0, 12), BAD);
        due("forget(7)", x.forget(7), BAD);
        due("forget(-1)", x.forget(-1), BAD);
        due("forget(6)", x.forget(6), 6);
        due("forget(2)", x.forget(2), 6);
        due("count(0)", x.count(0), 2);
        due("see again", x.see(0, 0), 3);
        due("forget(0)", x.forget(0), 3);
        due("winds()", x.winds(), 511);
    }

    private static void winds() {
        RocketPrint x = of("star 5 0 4;star 0 0 1;wind 2;damp 9;");
        // STICKS of the star from 5, that lasts 4: 5 and twice BLOW: 0 by winds 0 and 1, 1, 3, 5, 7, 9, 11 by 7 and 8.
        x.see(0, 11);
        due("winds(), 11", x.winds(), 0x180);
        x.forget(0);
        x.see(0, 0);
        due("winds(), 0", x.winds(), 0x003);
        x.forget(0);
        x.see(0, 7);
        due("winds(), 7", x.winds(), 0x020);
        due("nothing is changed", x.rule(2), 2);
        x.see(0, 5);
        due("winds(), at two places", x.winds(), 0);
        x.forget(0);
        x.see(1, 0);
        due("winds(), of the second", x.winds(), 0x01f);
        x.see(0, 3);
        due("winds(), of both", x.winds(), 0x008);
        x.burn(1);
        due("winds(), no such work any longer", x.winds(), 0);
        x.write(0, 0, 7, 1);
        due("winds(), there is one again", x.winds(), 0x008);
        x.burn(1);
        x.forget(0);
        due("winds(), nothing seen", x.winds(), 511);
    }

    private static void fromsAndKinds() {
        RocketPrint x = of("star 5 0 5;star 0 0 4;wind 5;");
        // The first BURSTS at 6, and its STICK is at 7: 5 times 1 by 4 is 1.
        due("froms(0), nothing seen", x.froms(0), 0xfff);
        due("kinds(0), nothing seen", x.kinds(0), 15);
        x.see(0, 7);
        due("froms(0)", x.froms(0), 1 << 5);
        // wheel 10 by 4: 2; fountain, squib 3, 2 by 4: 0
        due("kinds(0)", x.kinds(0), 1);
        due("froms(1), another as seen", x.froms(1), 0xfff);
        x.forget(0);
        x.see(0, 11);
        due("froms(0), at the end", x.froms(0), 0xe00);
        due("froms(1), another not as seen", x.froms(1), 0);
        due("kinds(1), another not as seen", x.kinds(1), 0);
        x.forget(0);
        x.see(0, 6);
        due("kinds(0), fountain and squib", x.kinds(0), 12);
        x.forget(0);
        x.see(0, 8);
        due("kinds(0), wheel", x.kinds(0), 2);
        due("nothing is changed", x.work(0, 0), 0);
        due("nothing is changed", x.work(0, 1), 5);
        due("froms(2)", x.froms(2), BAD);
        due("froms(-1)", x.froms(-1), BAD);
        due("kinds(2)", x.kinds(2), BAD);
        due("kinds(-1)", x.kinds(-1), BAD);
    }

    private static void ask() {
        RocketPrint x = of("star 0 0 1;star 5 0 4;star 5 0 1;");
        // From 0: 0 by 5 winds. From 5, lasting 4: two at most; lasting 1: 1 .. 4 and a quarter at 0 and 8:
        // 0, 2, 3, 4, 5, 6, 7, 8, 10: each by itself.
        due("ask(0)", x.ask(0), 2);
        due("ask(1)", x.ask(1), 1);
        due("ask(2)", x.ask(2), BAD);
        due("ask(-1)", x.ask(-1), BAD);
        x.burn(2);
        due("ask(0), of two", x.ask(0), 1);
        due("ask(1), of two", x.ask(1), 2);
        x.see(1, 0);
        // Winds 0 and 1 are left, and neither of the two tells them apart.
        due("winds()", x.winds(), 3);
        due("ask(0), none", x.ask(0), NONE);
        due("ask(1), none", x.ask(1), NONE);
        x.write(0, 5, 0, 1);
        x.write(0, 5, 0, 1);
        due("ask(0), the first", x.ask(0), 2);
        due("ask(1)", x.ask(1), 1);
        x.see(1, 11);
        due("ask(0), no wind is left", x.ask(0), NONE);
        due("ask(7)", x.ask(7), BAD);
        RocketPrint y = of("star 5 0 1;star 5 0 4;");
        due("ask(0), 0", y.ask(0), 0);
        due("ask(1), of the first", y.ask(1), 1);
        due("ask of nothing", new RocketPrint().ask(0), NONE);
    }

    private static void drift() {
        // Seed 0: 12345, of which bits 16 to 30 are 0: WIND 0, DAMP 0.
        RocketPrint x = of("star 9 0 3;reader 5 0;reader 0 0;wind 7;damp 8;");
        due("drift(0, 1, 0)", x.drift(0, 1, 0), 1);
        due("drift(0, 1, 1)", x.drift(0, 1, 1), 3);
        due("nothing is changed", x.rule(2), 7);
        due("nothing is changed", x.rule(3), 8);
        // Next: 12345 * 1103515245 + 12345 leaves 3554416254 by 2^32: got 21468 (bit 31 is not): WIND 3, DAMP 1.
        due("drift(12345, 1, 1)", x.drift(12345, 1, 1), 3);
        x.alter(0, 3, 1);
        due("drift(12345, 1, 1), too damp", x.drift(12345, 1, 1), 0);
        due("drift(0, 2, 1)", x.drift(0, 2, 1), 1);
        driftByEachNight();
        due("drift(0, 0, 0)", x.drift(0, 0, 0), BAD);
        due("drift(0, 61, 0)", x.drift(0, 61, 0), BAD);
        due("drift(0, 60, 0) is told", x.drift(0, 60, 0) >= 0 ? 1 : 0, 1);
        due("drift(0, 1, 2)", x.drift(0, 1, 2), BAD);
        due("drift(0, 1, -1)", x.drift(0, 1, -1), BAD);
    }

    /** As many as may be of all: every question is answered, and none looks beyond them. */
    private static void allAtMost() {
        RocketPrint x = of("wheel 5 59 9;".repeat(6) + "reader 5 0;".repeat(4));
        due("rule(4)", x.rule(4), 72);
        due("rule(5)", x.rule(5), 4);
        due("sky(76)", x.sky(76), 63);
        due("work(5, 8)", x.work(5, 8), 0);
        due("work(0, 8)", x.work(0, 8), 15);
        due("reader(3, 2)", x.reader(3, 2), 1);
        due("reader(3, 3)", x.reader(3, 3), 18);
        due("reads(3, 5)", x.reads(3, 5), 0);
        due("looks(3, 76)", x.looks(3, 76), 0);
        due("first(3)", x.first(3), 59);
        due("dark()", x.dark(), 62);
        due("peak(0, 1)", x.peak(0, 1), 4);
        due("peak(5, 1)", x.peak(5, 1), NONE);
        due("when(5, 0)", x.when(5, 0), 0);
        due("when(5, 1)", x.when(5, 1), 4);
        due("stand(3, 0), 4 WIDE", x.stand(3, 0), 1);
        due("stand(3, 1)", x.stand(3, 1), 18);
        due("swap(0)", x.swap(0), NONE);
        due("lose(0)", x.lose(0), NONE);
        due("need(5, 3)", x.need(5, 3), NONE);
        due("dry(3)", x.dry(3), 8);
        due("kind(5, 1)", x.kind(5, 1), 0);
        due("mean(0, 0)", x.mean(0, 0), 72);
        due("luck(0, 3, 0, 0)", x.luck(0, 3, 0, 0), 1);
        due("ask(1), 4 winds bring them to 0", x.ask(1), 4);
        due("drift(0, 1, 1)", x.drift(0, 1, 1), 72);
        due("count(4)", x.count(4), 54);
    }

    /** drift() is what rule() tells of each night by its WIND and DAMP. */
    private static void driftByEachNight() {
        String night = "star 9 0 3;wheel 3 2 7;fountain 6 1 9;squib 0 4 5;reader 5 0;reader 0 3;reader 9 0;";
        for (int seed : new int[] {1, -1, 99991, LOW, HIGH, 1 << 30}) {
            RocketPrint x = of(night);
            RocketPrint y = of(night);
            int next = seed;
            int wholes = 0;
            int minutes = 0;
            for (int n = 1; n <= 60; n++) {
                next = (int) (next * 1103515245L + 12345L);
                int got = (next & 0x7fffffff) >>> 16;
                y.blow(got % 9);
                y.damp((got >>> 4) % 10);
                wholes += y.rule(5);
                minutes += y.rule(4);
                due("drift(" + seed + ", " + n + ", 0)", x.drift(seed, n, 0), wholes);
                due("drift(" + seed + ", " + n + ", 1)", x.drift(seed, n, 1), minutes);
            }
        }
    }

    private static void images() {
        RocketPrint x = of("star 1 2 3;reader 4 5;wind 6;damp 7;");
        due("keep(2)", x.keep(2), BAD);
        due("keep(-1)", x.keep(-1), BAD);
        due("back(2)", x.back(2), BAD);
        due("back(-1)", x.back(-1), BAD);
        due("back(0)", x.back(0), STATE);
        due("keep(0)", x.keep(0), 0);
        due("back(1)", x.back(1), STATE);
        x.alter(0, 1, 9);
        x.move(0, 0, 9);
        x.blow(1);
        x.damp(1);
        x.write(1, 1, 1, 1);
        x.come(1, 1);
        x.see(1, 5);
        due("keep(1)", x.keep(1), 0);
        due("back(0), how many works", x.back(0), 1);
        due("work(0, 1)", x.work(0, 1), 1);
        due("reader(0, 0)", x.reader(0, 0), 4);
        due("rule(1)", x.rule(1), 1);
        due("rule(2)", x.rule(2), 6);
        due("rule(3)", x.rule(3), 7);
        due("SEEN is no part of it", x.count(0), 1);
        x.alter(0, 1, 7);
        due("back(0), as it was kept", x.back(0), 1);
        due("work(0, 1)", x.work(0, 1), 1);
        due("back(1)", x.back(1), 2);
        due("rule(2)", x.rule(2), 1);
        due("keep(0) again", x.keep(0), 1);
        x.burn(0);
        due("back(0) is the newer", x.back(0), 2);
        due("reader(1, 0)", x.reader(1, 0), 1);
    }

    private static void sheet() {
        RocketPrint x = new RocketPrint();
        due("sheet(4, 0, 1)", x.sheet(4, 0, 1), BAD);
        due("sheet(-1, 0, 1)", x.sheet(-1, 0, 1), BAD);
        due("sheet(0, 3, 1)", x.sheet(0, 3, 1), BAD);
        due("sheet(0, -1, 1)", x.sheet(0, -1, 1), BAD);
        due("sheet(0, 0, 41)", x.sheet(0, 0, 41), BAD);
        due("sheet(0, 0, high)", x.sheet(0, 0, HIGH), BAD);
        due("sheet(0, 0, -1)", x.sheet(0, 0, -1), -14);
        due("sheet(0, 0, low)", x.sheet(0, 0, LOW), -14);
        due("sheet(4, 0, -1)", x.sheet(4, 0, -1), BAD);
        due("sheet(0, 3, -1)", x.sheet(0, 3, -1), BAD);
        due("nothing yet", x.count(3), NONE);
        due("sheet(0, 0, 40)", x.sheet(0, 0, 40), 1);
        due("40 cells", x.count(3), 40);
        due("lay(0, 39, 1)", x.lay(0, 39, 1), 1);
        due("lay(0, 40, 1)", x.lay(0, 40, 1), -12);
        due("sheet(0, 0, -5)", x.sheet(0, 0, -5), -14);
        due("refused changes nothing", x.count(3), 40);
        x.lay(0, 0, 1);
        x.lay(0, 3, 5);
        due("a work", x.read(0, 0, 0, 1), 1);
        due("sheet(0, 0, 4) anew", x.sheet(0, 0, 4), 1);
        due("its cells are 0, POWER too", x.read(0, 0, 0, 1), -20);
        x.lay(0, 3, 5);
        due("another work", x.read(0, 0, 0, 1), 1);
        due("its KIND is 0", x.work(1, 0), 0);
        neighbours();
        due("sheet(0, 0, 0)", x.sheet(0, 0, 0), 1);
        due("0 cells", x.count(3), 0);
        due("lay(0, 0, 0)", x.lay(0, 0, 0), -12);
        due("sheet(3, 2, 1)", x.sheet(3, 2, 1), 1);
    }

    /** A SHEET that is made anew leaves those beside it as they are. */
    private static void neighbours() {
        RocketPrint x = new RocketPrint();
        for (int k = 0; k < 4; k++) {
            x.sheet(k, 2, 40);
            for (int i = 0; i < 40; i++) {
                x.lay(k, i, k);
            }
        }
        x.sheet(1, 2, 40);
        due("read of 3", x.read(3, 2, 36, 1), 1);
        due("KIND of 3", x.work(0, 0), 3);
        due("read of 2", x.read(2, 2, 0, 1), 1);
        due("KIND of 2", x.work(1, 0), 2);
        due("read of 1", x.read(1, 2, 0, 1), -20);
    }

    private static void lay() {
        RocketPrint x = new RocketPrint();
        due("lay(4, 0, 0)", x.lay(4, 0, 0), BAD);
        due("lay(-1, 0, 0)", x.lay(-1, 0, 0), BAD);
        due("lay(1, -1, 0), null ahead of index", x.lay(1, -1, 0), -11);
        for (int lane = 0; lane < 3; lane++) {
            x.sheet(lane, lane, 4);
            due("lay, -1", x.lay(lane, -1, 0), -12);
            due("lay, 4", x.lay(lane, 4, 0), -12);
            due("lay, high", x.lay(lane, HIGH, 0), -12);
            due("lay, low", x.lay(lane, LOW, 0), -12);
            // The lowest bits of a byte are 0, 1, 2, 3.
            for (int i = 0; i < 4; i++) {
                due("lay", x.lay(lane, i, 0x10100 + i), 1);
            }
        }
        due("of bytes", x.read(0, 0, 0, 1), 1);
        due("of bytes, MINUTE", x.work(0, 2), 2);
        due("of shorts", x.read(1, 1, 0, 1), -20);
        for (int i = 0; i < 4; i++) {
            x.lay(1, i, 0x70000 + i);
        }
        due("of shorts", x.read(1, 1, 0, 1), 1);
        due("of ints", x.read(2, 2, 0, 1), -20);
        // 200 is -56 as a byte.
        x.lay(0, 2, 40);
        x.lay(0, 1, 200);
        due("with a sign", x.read(0, 0, 0, 1), -20);
    }

    /** A SHEET of shorts with three WORKS. */
    private static RocketPrint sheeted() {
        RocketPrint x = new RocketPrint();
        x.sheet(2, 1, 13);
        int[] cells = {0, 1, 2, 3, 1, 4, 5, 6, 3, 11, 59, 9, 1};
        for (int i = 0; i < cells.length; i++) {
            x.lay(2, i, cells[i]);
        }
        return x;
    }

    private static void read() {
        RocketPrint x = sheeted();
        due("read(4, 1, 0, 1)", x.read(4, 1, 0, 1), BAD);
        due("read(-1, 1, 0, 1)", x.read(-1, 1, 0, 1), BAD);
        due("read(2, 3, 0, 1)", x.read(2, 3, 0, 1), BAD);
        due("read(2, -1, 0, 1)", x.read(2, -1, 0, 1), BAD);
        due("read(2, 1, 0, 11)", x.read(2, 1, 0, 11), BAD);
        due("read(2, 1, 0, -1)", x.read(2, 1, 0, -1), BAD);
        due("read(2, 1, 4, 2)", x.read(2, 1, 4, 2), 2);
        due("torn()", x.torn(), 0);
        int[][] works = {{1, 4, 5, 6}, {3, 11, 59, 9}};
        for (int w = 0; w < 2; w++) {
            for (int what = 0; what < 4; what++) {
                due("work(" + w + ", " + what + ")", x.work(w, what), works[w][what]);
            }
        }
        due("read(2, 1, 0, 3)", x.read(2, 1, 0, 3), 3);
        due("behind those that are", x.work(2, 3), 3);
        x.burn(0);
        due("read(2, 1, 0, 10), 3 are whole", x.read(2, 1, 0, 10), 3);
        due("INDEX", x.torn(), 2);
        due("those came", x.rule(0), 3);
        due("read(2, 1, 10, 1)", x.read(2, 1, 10, 1), 0);
        due("INDEX", x.torn(), 2);
        due("read of nothing", x.read(0, 1, 0, 1), 0);
        due("NULL", x.torn(), 1);
        due("read of another lane", x.read(2, 2, 99, 1), 0);
        due("CAST ahead of INDEX", x.torn(), 3);
        int[] outside = {-1, -4, LOW, HIGH, HIGH - 3, 13};
        for (int f : outside) {
            due("read(2, 1, " + f + ", 10)", x.read(2, 1, f, 10), 0);
            due("INDEX", x.torn(), 2);
        }
        due("read of n 0", x.read(0, 2, -7, 0), 0);
        due("no FAULT", x.torn(), 0);
        due("none came", x.rule(0), 3);
    }

    private static void readRefused() {
        RocketPrint x = sheeted();
        x.lay(2, 7, 10);
        due("the second is refused", x.read(2, 1, 0, 4), -21);
        due("none came", x.rule(0), 0);
        due("the first alone", x.read(2, 1, 0, 1), 1);
        x.lay(2, 7, 9);
        due("two more", x.read(2, 1, 0, 2), 2);
        due("three more", x.read(2, 1, 0, 3), 3);
        x.burn(4);
        due("refused as full", x.read(2, 1, 0, 3), -22);
        due("none came", x.rule(0), 4);
        x.sheet(2, 1, 7);
        x.lay(2, 3, 1);
        x.lay(2, 4, 99);
        due("one that is not whole is torn, not refused", x.read(2, 1, 0, 2), 1);
        due("INDEX", x.torn(), 2);
        due("it came", x.rule(0), 5);
    }

    private static void torn() {
        RocketPrint x = sheeted();
        x.read(0, 0, 0, 1);
        due("NULL", x.torn(), 1);
        x.lay(2, 0, 4);
        due("refused", x.read(2, 1, 0, 1), -20);
        due("one that is refused leaves it", x.torn(), 1);
        due("bad", x.read(9, 1, 0, 1), BAD);
        due("one that is bad leaves it", x.torn(), 1);
        due("taken", x.read(2, 1, 4, 1), 1);
        due("0 again", x.torn(), 0);
    }

    private static void count() {
        RocketPrint x = of("star 5 0 4;squib 5 0 9;reader 0 3;reader 1 8;");
        x.see(0, 1);
        x.see(0, 2);
        x.keep(1);
        feedAll(x, "abc");
        x.sheet(0, 1, 5);
        x.sheet(1, 1, 6);
        int[] due = {2, 1, 3, 5, 13, 11};
        for (int what = 0; what < due.length; what++) {
            due("count(" + what + ")", x.count(what), due[what]);
        }
        x.keep(0);
        due("count(1), two", x.count(1), 2);
        due("count(6)", x.count(6), BAD);
        due("count(-1)", x.count(-1), BAD);
        x.burn(1);
        x.leave(1);
        due("count(4), of those that are", x.count(4), 4);
        due("count(5), of those that are", x.count(5), 3);
    }
}
