/** 'Terms', but for the text, sticks and sheets: numbers, WORKS, READERS, who LOOKS at what. */
final class TermEdges extends Edges {
    private static final String[] KINDS = {"star", "wheel", "fountain", "squib"};
    /** By KIND, for POWER 1 to 9. */
    private static final int[][] LASTS = {
        {1, 2, 3, 4, 5, 6, 7, 8, 9}, {2, 4, 6, 8, 10, 12, 14, 16, 18},
        {1, 2, 2, 3, 3, 4, 4, 5, 5}, {0, 1, 1, 2, 2, 3, 3, 4, 4}};
    private static final int[][] WIDE = {
        {1, 2, 3, 4, 5, 6, 7, 8, 9}, {0, 1, 1, 2, 2, 3, 3, 4, 4},
        {1, 2, 3, 4, 5, 6, 7, 8, 9}, {3, 4, 5, 6, 7, 8, 9, 10, 11}};
    /** For a BLOW of 0 to 4 either way, what a STICK of one that LASTS 0 to 18 goes further. */
    private static final int[][] FURTHER = {
        {0, 0, 0, 0, 0, 0, 0, 0, 0, 0, 0, 0, 0, 0, 0, 0, 0, 0, 0},
        {0, 0, 0, 0, 1, 1, 1, 1, 2, 2, 2, 2, 3, 3, 3, 3, 4, 4, 4},
        {0, 0, 1, 1, 2, 2, 3, 3, 4, 4, 5, 5, 6, 6, 7, 7, 8, 8, 9},
        {0, 0, 1, 2, 3, 3, 4, 5, 6, 6, 7, 8, 9, 9, 10, 11, 12, 12, 13},
        {0, 1, 2, 3, 4, 5, 6, 7, 8, 9, 10, 11, 12, 13, 14, 15, 16, 17, 18}};

    TermEdges(Sentences says) {
        super(says);
    }

    @Override
    void all() {
        answers();
        works();
        readers();
        air();
        flight();
        looking();
    }

    private void answers() {
        says.term("Answers: BAD -1 (a number is not as told, there is no such WORK, READER, IMAGE, SHEET),", this::bad);
        says.term("STATE -2 (as told),", this::state);
        says.term("FULL -3,", this::fullOnes);
        says.term("NONE -4 (there is none),", this::none);
        says.term("the first that fits;", this::firstThatFits);
        says.term("What is numbered has its numbers from 0 on, as it comes, where nothing else is told.", this::numbered);
        says.term("Fractions are in lowest terms, told as two numbers, first the numerator, then the denominator, "
                + "which is above 0 (0 is 0 by 1).", this::fractions);
    }

    private void bad() {
        due("BAD", RocketPrint.BAD, -1);
        RocketPrint x = full();
        bounds("a number: sky", 0, 79, x::sky);
        bounds("a WORK: froms", 0, 5, x::froms);
        bounds("a READER: dry", 0, 3, x::dry);
        bounds("an IMAGE: keep", 0, 1, x::keep);
        bounds("a SHEET: sheet", 0, 3, k -> x.sheet(k, 0, 1));
    }

    private void state() {
        due("STATE", RocketPrint.STATE, -2);
        RocketPrint x = new RocketPrint();
        due("back(0)", x.back(0), STATE);
        due("back(1)", x.back(1), STATE);
        x.keep(1);
        due("back(0), the other is there", x.back(0), STATE);
        due("back(1)", x.back(1), 0);
    }

    private void fullOnes() {
        due("FULL", RocketPrint.FULL, -3);
        RocketPrint x = full();
        due("write", x.write(0, 0, 0, 1), FULL);
        due("come", x.come(0, 0), FULL);
        for (int i = 1; i <= 6; i++) {
            due("see", x.see(0, 0), i);
        }
        due("see", x.see(0, 0), FULL);
        feedAll(x, " ".repeat(160));
        due("feed", x.feed(32), FULL);
    }

    private void none() {
        due("NONE", RocketPrint.NONE, -4);
        RocketPrint x = of("star 5 0 9;reader 5 1;");
        due("looks", x.looks(0, 0), NONE);
        due("first", x.first(0), NONE);
        due("peak", x.peak(0, 0), NONE);
        due("swap", x.swap(0), NONE);
        due("lose", x.lose(0), NONE);
        due("need", x.need(0, 0), NONE);
        due("dry", x.dry(0), NONE);
        x.see(0, 5);
        due("ask", x.ask(0), NONE);
        due("count(3)", x.count(3), NONE);
    }

    private void firstThatFits() {
        RocketPrint x = full();
        due("BAD ahead of STATE", x.back(2), BAD);
        feedAll(x, " ".repeat(160));
        due("feed, BAD ahead of FULL", x.feed(128), BAD);
        due("write, BAD ahead of FULL", x.write(0, 0, 0, 0), BAD);
        due("come, BAD ahead of FULL", x.come(0, 10), BAD);
        for (int i = 0; i < 6; i++) {
            x.see(0, 0);
        }
        due("see, BAD ahead of FULL", x.see(6, 0), BAD);
        RocketPrint y = of("star 5 0 9;reader 5 1;");
        due("looks, BAD ahead of NONE", y.looks(0, 80), BAD);
        due("peak, BAD ahead of NONE", y.peak(0, 2), BAD);
        due("swap, BAD ahead of NONE", y.swap(2), BAD);
        due("lose, BAD ahead of NONE", y.lose(2), BAD);
        due("ask, BAD ahead of NONE", y.ask(2), BAD);
        due("sheet, BAD ahead of SIZE", y.sheet(4, 0, -1), BAD);
        due("sheet, BAD ahead of SIZE", y.sheet(0, 3, -1), BAD);
        due("lay, BAD ahead of NULL", y.lay(4, 0, 0), BAD);
        due("lay, NULL ahead of INDEX", y.lay(0, -1, 0), -11);
        due("read, BAD ahead of NULL", y.read(0, 3, 0, 1), BAD);
    }

    private void numbered() {
        RocketPrint x = full();
        for (int w = 0; w < 6; w++) {
            due("MINUTE of " + w, x.work(w, 2), 10 * w);
        }
        for (int r = 0; r < 4; r++) {
            due("AT of " + r, x.reader(r, 0), 3 * r + 1);
        }
        x.burn(2);
        x.write(3, 3, 33, 3);
        due("one that comes behind two others", x.work(2, 2), 33);
    }

    private void fractions() {
        RocketPrint x = of("star 5 0 5;".repeat(6) + "reader 5 0;reader 5 1;");
        for (int v = 0; v <= 10; v++) {
            for (int w = 0; w < 6; w++) {
                lowest("luck(" + v + ", 0, " + w + ")", x.luck(v, 0, w, 0), x.luck(v, 0, w, 1));
            }
            lowest("mean(" + v + ")", x.mean(v, 0), x.mean(v, 1));
        }
        fraction("a half", x.luck(5, 0, 0, 0), x.luck(5, 0, 0, 1), 1, 2);
        fraction("1 is 1 by 1", x.luck(0, 0, 0, 0), x.luck(0, 0, 0, 1), 1, 1);
        fraction("0 is 0 by 1", x.luck(5, 1, 0, 0), x.luck(5, 1, 0, 1), 0, 1);
        fraction("0 is 0 by 1", x.mean(10, 0), x.mean(10, 1), 0, 1);
    }

    private void lowest(String call, long top, long bottom) {
        holds(call + " is " + top + " by " + bottom, top >= 0 && bottom > 0);
        for (int d = 2; d <= 10; d++) {
            holds(call + ", " + top + " by " + bottom + ", in lowest terms", top % d != 0 || bottom % d != 0);
        }
    }

    private void works() {
        says.term("THE DYKE has PLACES 0 to 11,", () -> {
            RocketPrint x = full();
            bounds("FROM", 0, 11, v -> x.alter(0, 1, v));
            bounds("AT", 0, 11, v -> x.move(0, 0, v));
            bounds("where a STICK came down", 0, 11, v -> x.see(0, v));
        });
        says.term("A NIGHT minutes 0 to 79.", () -> {
            RocketPrint x = full();
            bounds("sky", 0, 79, x::sky);
            bounds("looks", 0, 79, m -> x.looks(0, m));
            due("dark() of none", new RocketPrint().dark(), 80);
        });
        says.term("WORKS (6 at most), by order,", () -> {
            RocketPrint x = new RocketPrint();
            for (int n = 1; n <= 6; n++) {
                due("write, " + n, x.write(0, n, 0, 1), n);
            }
            due("write, 7", x.write(0, 7, 0, 1), FULL);
            due("there are", x.rule(0), 6);
            due("the first", x.work(0, 1), 1);
            due("the last", x.work(5, 1), 6);
            due("none behind it", x.work(6, 1), BAD);
        });
        says.term("each of a KIND (0 star, 1 wheel, 2 fountain, 3 squib), FROM a PLACE, at a MINUTE (0 to 59), "
                + "of a POWER (1 to 9).", () -> {
            for (int kind = 0; kind < 4; kind++) {
                due("KIND of a " + KINDS[kind], of(KINDS[kind] + " 0 0 1;").work(0, 0), kind);
            }
            RocketPrint x = full();
            int[][] ends = {{0, 3}, {0, 11}, {0, 59}, {1, 9}};
            for (int i = 0; i < 4; i++) {
                int what = i;
                bounds("alter of " + what, ends[i][0], ends[i][1], v -> x.alter(5, what, v));
                due("work of " + what, x.work(5, what), ends[i][0]);
            }
        });
    }

    private void readers() {
        says.term("READERS (4 at most), by order, each AT a PLACE,", () -> {
            RocketPrint x = new RocketPrint();
            for (int n = 1; n <= 4; n++) {
                due("come, " + n, x.come(n, 0), n);
            }
            due("come, 5", x.come(5, 0), FULL);
            due("there are", x.rule(1), 4);
            due("the first", x.reader(0, 0), 1);
            due("the last", x.reader(3, 0), 4);
            due("none behind him", x.reader(4, 0), BAD);
        });
        says.term("who COUGHS by so many minutes (1 to 9; 0: never).", () -> {
            RocketPrint x = lit("reader 5 0;");
            bounds("COUGHS", 0, 9, v -> x.move(0, 1, v));
            due("0: never", x.reader(0, 3), 77);
            x.move(0, 1, 1);
            due("1: always", x.reader(0, 3), 0);
            x.move(0, 1, 9);
            due("9: in 0, 9 .. 72", x.reader(0, 3), 68);
        });
    }

    private void air() {
        says.term("WIND (0 to 8; 4 at first: none; its BLOW is what it is more than 4),", () -> {
            RocketPrint x = new RocketPrint();
            due("at first", x.rule(2), 4);
            x.write(3, 6, 0, 1);
            due("none", x.work(0, 6), 6);
            bounds("blow", 0, 8, x::blow);
            for (int wind = 0; wind <= 8; wind++) {
                x.blow(wind);
                due("BURSTS by " + wind, x.work(0, 6), 6 + wind - 4);
            }
        });
        says.term("DAMP (0 to 9; 0 at first).", () -> {
            RocketPrint x = new RocketPrint();
            due("at first", x.rule(3), 0);
            bounds("damp", 0, 9, x::damp);
            x.damp(9);
            due("the most", x.rule(3), 9);
        });
    }

    private void flight() {
        says.term("LASTS by KIND, minutes: star POWER; wheel twice that of a star; "
                + "fountain 1 more than half of that of a star (half of it down); squib 1 less than a fountain.",
                () -> byKind("LASTS", 4, LASTS));
        says.term("WIDE by KIND, PLACES: star POWER; wheel half of that of a star (down); fountain as a star; "
                + "squib 2 more than a star.", () -> byKind("WIDE", 5, WIDE));
        says.term("A WORK GOES UP, if its POWER is above DAMP:", this::goesUp);
        says.term("it is UP from its MINUTE on for as many minutes as it LASTS (none, if that is 0).", this::up);
        says.term("It BURSTS at FROM and BLOW (0, 11 at the ends).", this::bursts);
        says.term("Its STICK comes down where it BURSTS and a quarter of BLOW times LASTS "
                + "(its amount down, to the side of BLOW; 0, 11 at the ends),", () -> sticks(0));
        says.term("whether it GOES UP or not.", () -> sticks(9));
    }

    private void byKind(String name, int what, int[][] table) {
        for (int kind = 0; kind < 4; kind++) {
            for (int power = 1; power <= 9; power++) {
                RocketPrint x = new RocketPrint();
                x.write(kind, 5, 0, power);
                due(name + " of a " + KINDS[kind] + " of " + power, x.work(0, what), table[kind][power - 1]);
            }
        }
    }

    private void goesUp() {
        for (int power = 1; power <= 9; power++) {
            RocketPrint x = new RocketPrint();
            x.write(0, 5, 7, power);
            for (int damp = 0; damp <= 9; damp++) {
                x.damp(damp);
                due("POWER " + power + ", DAMP " + damp, x.sky(7), power > damp ? 1 : 0);
            }
        }
    }

    private void up() {
        for (int kind = 0; kind < 4; kind++) {
            for (int power = 1; power <= 9; power++) {
                for (int minute : new int[] {0, 1, 59}) {
                    RocketPrint x = new RocketPrint();
                    x.write(kind, 5, minute, power);
                    for (int m = 0; m < 80; m++) {
                        boolean up = m >= minute && m < minute + LASTS[kind][power - 1];
                        due("sky(" + m + "), " + KINDS[kind] + " of " + power + " at " + minute, x.sky(m), up ? 1 : 0);
                    }
                }
            }
        }
    }

    private static int onTheDyke(int place) {
        return place < 0 ? 0 : place > 11 ? 11 : place;
    }

    private void bursts() {
        for (int from = 0; from <= 11; from++) {
            RocketPrint x = new RocketPrint();
            x.write(0, from, 0, 1);
            for (int wind = 0; wind <= 8; wind++) {
                x.blow(wind);
                due("BURSTS from " + from + " by " + wind, x.work(0, 6), onTheDyke(from + wind - 4));
            }
        }
    }

    private void sticks(int damp) {
        for (int kind = 0; kind < 4; kind++) {
            for (int power = 1; power <= 9; power++) {
                RocketPrint x = new RocketPrint();
                x.write(kind, 0, 0, power);
                x.damp(damp);
                int lasts = LASTS[kind][power - 1];
                for (int from = 0; from <= 11; from++) {
                    x.alter(0, 1, from);
                    for (int wind = 0; wind <= 8; wind++) {
                        x.blow(wind);
                        int burst = onTheDyke(from + wind - 4);
                        int place = wind < 4 ? burst - FURTHER[4 - wind][lasts] : burst + FURTHER[wind - 4][lasts];
                        due("STICK of a " + KINDS[kind] + " of " + power + " from " + from + " by " + wind,
                                x.work(0, 7), onTheDyke(place));
                    }
                }
            }
        }
    }

    private void looking() {
        says.term("In each minute a READER LOOKS at the WORK that is UP and BURSTS nearest to where he is,", () -> {
            // 6, 5, 2 and 1 off; the third is UP from 6 to 14, the fourth in 5 alone.
            RocketPrint x = of("star 0 0 9;star 11 0 9;star 4 6 9;star 7 5 1;reader 6 0;");
            due("the one 5 off, not 6", x.looks(0, 4), 1);
            due("1 off", x.looks(0, 5), 3);
            due("2 off", x.looks(0, 6), 2);
            due("2 off is UP until 14", x.looks(0, 14), 2);
            due("none is UP", x.looks(0, 15), NONE);
            x.blow(6);
            // It is where they BURST, not FROM: 4, 5, 0 and 3 off, of which the last is 1 WIDE.
            due("now 4 off, not 5", x.looks(0, 4), 0);
            due("now 4 off, not 3", x.looks(0, 5), 0);
            due("now 0 off", x.looks(0, 6), 2);
        });
        says.term("of those for which that is WIDE or less PLACES off,", () -> {
            for (int kind = 0; kind < 4; kind++) {
                for (int power = 2; power <= 9; power++) {
                    RocketPrint x = new RocketPrint();
                    x.write(kind, 0, 0, power);
                    x.come(0, 0);
                    for (int at = 0; at <= 11; at++) {
                        x.move(0, 0, at);
                        due(KINDS[kind] + " of " + power + " from " + at + " off", x.looks(0, 0),
                                at <= WIDE[kind][power - 1] ? 0 : NONE);
                    }
                }
            }
            RocketPrint y = of("wheel 5 0 1;star 8 0 3;reader 5 0;reader 6 0;");
            due("0 off is in a WIDE of 0", y.looks(0, 0), 0);
            due("one that is nearer, but not WIDE, is none", y.looks(1, 0), 1);
        });
        says.term("of several at the first;", () -> {
            RocketPrint x = of("star 7 0 9;star 3 0 9;star 7 0 9;star 5 9 1;star 5 9 1;star 5 9 1;reader 5 0;");
            due("as near on both sides", x.looks(0, 0), 0);
            due("three at one place", x.looks(0, 9), 3);
            x.alter(0, 1, 8);
            due("the first of the nearest", x.looks(0, 0), 1);
        });
        says.term("at none, if the minute leaves 0 by what he COUGHS.", this::coughs);
        says.term("He READS a WORK in minutes in which he LOOKS at it;", () -> {
            RocketPrint x = of("star 5 0 9;star 5 3 9;reader 5 0;reader 5 4;");
            for (int r = 0; r < 2; r++) {
                int[] minutes = new int[2];
                for (int m = 0; m < 80; m++) {
                    if (x.looks(r, m) >= 0) {
                        minutes[x.looks(r, m)]++;
                    }
                }
                due("reads, the first", x.reads(r, 0), minutes[0]);
                due("reads, the second", x.reads(r, 1), minutes[1]);
            }
            due("0 to 8", x.reads(0, 0), 9);
            due("9 to 11", x.reads(0, 1), 3);
            due("0 to 8 but 0, 4, 8", x.reads(1, 0), 6);
        });
        says.term("it is WHOLE, if these are all in which it is UP (one at least).", this::whole);
    }

    private void coughs() {
        for (int coughs = 0; coughs <= 9; coughs++) {
            RocketPrint x = lit("reader 5 " + coughs + ";");
            for (int m = 0; m <= 76; m++) {
                boolean coughing = coughs > 0 && m / coughs * coughs == m;
                due("looks in " + m + " by " + coughs, x.looks(0, m) == NONE ? 1 : 0, coughing ? 1 : 0);
            }
        }
    }

    private void whole() {
        RocketPrint x = of("star 5 1 3;reader 5 0;reader 5 4;reader 5 3;reader 5 1;");
        due("all of 1 to 3; coughs in 4; coughs in 3; coughs always", x.work(0, 8), 3);
        x.alter(0, 2, 0);
        due("all who cough do so in 0", x.work(0, 8), 1);
        RocketPrint y = of("squib 5 10 1;reader 5 0;");
        due("LASTS 0: none of none is not WHOLE", y.work(0, 8), 0);
        y.alter(0, 3, 2);
        due("one at least", y.work(0, 8), 1);
        y.damp(2);
        due("does not GO UP", y.work(0, 8), 0);
        RocketPrint z = of("star 5 10 1;star 5 4 7;star 5 0 5;reader 5 0;");
        // 10; 4 to 10, of which 10 is taken by the first; 0 to 4, of which 4 is taken by the second.
        due("a minute short at the end", z.work(1, 8), 0);
        due("a minute short at the end", z.work(2, 8), 0);
        z.alter(0, 2, 11);
        due("one begins when it has ended", z.work(1, 8), 1);
        z.alter(2, 3, 4);
        due("it ends when one begins", z.work(2, 8), 1);
        RocketPrint u = of("wheel 5 59 9;reader 5 0;");
        due("the last that may be", u.work(0, 8), 1);
        RocketPrint v = of("wheel 5 0 1;star 8 0 3;reader 6 0;");
        due("one that is nearer, but not WIDE, takes nothing", v.work(1, 8), 1);
        farther();
    }

    /** One that is farther off takes nothing, whichever comes first by order; of two as near the first takes. */
    private void farther() {
        int[][] places = {{6, 5}, {5, 6}, {4, 6}};
        int[] whole = {2, 1, 1};
        for (int i = 0; i < places.length; i++) {
            RocketPrint x = of("star " + places[i][0] + " 0 9;star " + places[i][1] + " 0 9;reader 5 0;");
            due("of " + places[i][0] + " and " + places[i][1] + ", read from 5", x.reader(0, 2), whole[i]);
            due("the first", x.work(0, 8), whole[i] & 1);
            due("the second", x.work(1, 8), whole[i] >> 1);
        }
    }
}
