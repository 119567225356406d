/** Images and sheets: promises 39 to 45. */
final class SheetEdges extends Edges {
    private static final int NULL = 1, INDEX = 2, CAST = 3;

    SheetEdges(Sentences says) {
        super(says);
    }

    @Override
    void all() {
        rows();
        keep();
        back();
        sheet();
        lay();
        read();
        readRefused();
        torn();
        count();
    }

    /** A SHEET of n CELLS with WORKS from its first CELL on: star 0 0 1, star 1 1 2, star 2 2 3 .. */
    private static void laid(RocketPrint x, int k, int lane, int n) {
        x.sheet(k, lane, n);
        for (int i = 0; i < n; i++) {
            x.lay(k, i, i % 4 == 0 ? 0 : i / 4 + (i % 4 == 3 ? 1 : 0));
        }
    }

    private void came(String call, RocketPrint x, int got, int want, int fault) {
        due(call, got, want);
        due(call + ", torn()", x.torn(), fault);
    }

    private void rows() {
        says.term("SHEETS 0 to 3 are rows of BYTES (lane 0), SHORTS (1), INTS (2), all with a sign,", () -> {
            RocketPrint x = new RocketPrint();
            bounds("sheet(v, 0, 4)", 0, 3, k -> x.sheet(k, 0, 4));
            bounds("sheet(0, v, 4)", 0, 2, lane -> x.sheet(0, lane, 4));
            int[] signs = {128, 32768, LOW};
            for (int lane = 0; lane < 3; lane++) {
                RocketPrint y = new RocketPrint();
                laid(y, 3, lane, 4);
                for (int taken = 0; taken < 3; taken++) {
                    y.burn(0);
                    came("lane " + lane + " taken as " + taken, y, y.read(3, taken, 0, 1), taken == lane ? 1 : 0, taken == lane ? 0 : CAST);
                }
                y.burn(0);
                y.lay(3, 2, signs[lane]);
                due("below 0 in lane " + lane, y.read(3, lane, 0, 1), -20);
                y.lay(3, 2, -1);
                due("-1 in lane " + lane, y.read(3, lane, 0, 1), -20);
            }
        });
        says.term("with 0 to 40 CELLS, or nothing (at first).", () -> {
            RocketPrint x = new RocketPrint();
            due("nothing at first", x.count(3), NONE);
            for (int n = 0; n <= 40; n++) {
                due("sheet of " + n, x.sheet(0, n % 3, n), 1);
                due("CELLS", x.count(3), n);
                due("its last", x.lay(0, n - 1, 1), n == 0 ? -12 : 1);
                due("none behind it", x.lay(0, n, 1), -12);
            }
            due("sheet of 41", x.sheet(0, 0, 41), BAD);
            due("CELLS", x.count(3), 40);
        });
        says.term("A FAULT is what the machine finds: 1 NULL (nothing), 2 INDEX, 3 CAST (another lane), 4 SIZE (below 0).", () -> {
            RocketPrint x = new RocketPrint();
            due("lay, NULL", x.lay(0, 0, 0), -11);
            came("read, NULL", x, x.read(0, 0, 0, 1), 0, NULL);
            x.sheet(0, 0, 3);
            due("lay, INDEX", x.lay(0, 3, 0), -12);
            came("read, INDEX", x, x.read(0, 0, 0, 1), 0, INDEX);
            came("read, CAST", x, x.read(0, 1, 0, 1), 0, CAST);
            due("sheet, SIZE", x.sheet(0, 0, -1), -14);
            came("NULL ahead of INDEX", x, x.read(1, 0, -1, 1), 0, NULL);
            came("CAST ahead of INDEX", x, x.read(0, 2, -1, 1), 0, CAST);
        });
    }

    private void keep() {
        says.promise(39, "IMAGE k (0, 1) is WORKS, READERS (all of them), WIND, DAMP:", () -> {
            for (int k = 0; k < 2; k++) {
                RocketPrint x = full();
                x.blow(8);
                x.damp(9);
                x.keep(k);
                due("all else", x.count(1), 1);
                x.burn(0);
                x.leave(0);
                x.blow(0);
                x.damp(0);
                x.write(3, 3, 3, 3);
                x.come(3, 3);
                due("back", x.back(k), 6);
                for (int w = 0; w < 6; w++) {
                    int[] want = {w % 4, 2 * w, 10 * w, 9 - w};
                    for (int what = 0; what < 4; what++) {
                        due("work(" + w + ", " + what + ")", x.work(w, what), want[what]);
                    }
                }
                due("READERS", x.rule(1), 4);
                for (int r = 0; r < 4; r++) {
                    due("AT of " + r, x.reader(r, 0), 3 * r + 1);
                    due("COUGHS of " + r, x.reader(r, 1), 2 * r);
                }
                due("WIND", x.rule(2), 8);
                due("DAMP", x.rule(3), 9);
            }
        });
        says.promise(39, "whether there was one (1, 0).", () -> {
            RocketPrint x = new RocketPrint();
            due("keep(0)", x.keep(0), 0);
            due("keep(1)", x.keep(1), 0);
            due("keep(0)", x.keep(0), 1);
            due("keep(1)", x.keep(1), 1);
            x.text();
            due("keep(1), gone by a text", x.keep(1), 0);
            due("keep(0), gone by a text", x.keep(0), 0);
        });
        says.promise(39, "BAD.", () -> bounds("keep", 0, 1, new RocketPrint()::keep));
    }

    private void back() {
        says.promise(40, "All is as IMAGE k: how many WORKS there are.", () -> {
            RocketPrint x = new RocketPrint();
            x.keep(0);
            for (int w = 0; w < 6; w++) {
                x.write(0, w, 0, 1);
            }
            x.blow(0);
            x.keep(1);
            for (int i = 0; i < 3; i++) {
                due("of none", x.back(0), 0);
                due("WORKS", x.rule(0), 0);
                due("WIND", x.rule(2), 4);
                due("of six", x.back(1), 6);
                due("the last", x.work(5, 1), 5);
                due("WIND", x.rule(2), 0);
                x.alter(5, 1, 11);
                x.burn(i);
            }
            due("SEEN, no part of it", x.count(0), 0);
            x.back(1);
            x.see(5, 0);
            x.sheet(0, 0, 7);
            x.feed('a');
            due("back(0)", x.back(0), 0);
            due("SEEN is as it was", x.count(0), 1);
            due("THE TAPE is as it was", x.count(2), 1);
            due("SHEETS are as they were", x.count(3), 7);
            due("IMAGES are as they were", x.count(1), 2);
        });
        says.promise(40, "BAD;", () -> {
            RocketPrint x = new RocketPrint();
            for (int v : outside(0, 1)) {
                due("back(" + v + ") of none", x.back(v), BAD);
            }
            x.keep(0);
            x.keep(1);
            bounds("back", 0, 1, x::back);
        });
        says.promise(40, "STATE: there is none.", () -> {
            for (int k = 0; k < 2; k++) {
                RocketPrint x = full();
                due("back(0)", x.back(0), STATE);
                due("back(1)", x.back(1), STATE);
                x.keep(k);
                due("the one that is", x.back(k), 6);
                due("the other", x.back(1 - k), STATE);
                x.text();
                due("gone by a text", x.back(k), STATE);
            }
        });
    }

    private void sheet() {
        says.promise(41, "A SHEET is a new row of CELLS 0: 1.", () -> {
            for (int lane = 0; lane < 3; lane++) {
                RocketPrint x = new RocketPrint();
                due("of none", x.sheet(0, lane, 0), 1);
                due("CELLS", x.count(3), 0);
                x.sheet(0, lane, 40);
                due("of 40", x.count(3), 40);
                for (int i = 0; i < 40; i++) {
                    x.lay(0, i, 3);
                }
                due("all 3", x.read(0, lane, 0, 6), 6);
                x.burn(0);
                due("anew", x.sheet(0, lane, 40), 1);
                for (int f = 0; f < 40; f += 4) {
                    due("all 0, POWER too, from " + f, x.read(0, lane, f, 1), -20);
                    x.lay(0, f + 3, 1);
                    due("a star 0 0 1", x.read(0, lane, f, 1), 1);
                    due("KIND", x.work(0, 0), 0);
                    due("FROM", x.work(0, 1), 0);
                    due("MINUTE", x.work(0, 2), 0);
                    x.burn(0);
                }
                due("a lesser one", x.sheet(0, lane, 4), 1);
                came("the others are gone", x, x.read(0, lane, 4, 1), 0, INDEX);
                due("a greater one again", x.sheet(0, lane, 40), 1);
                due("what was there is not", x.read(0, lane, 4, 1), -20);
            }
            besides();
        });
        says.promise(41, "BAD: also n above 40;", () -> {
            RocketPrint x = new RocketPrint();
            bounds("sheet(v, 2, 40)", 0, 3, k -> x.sheet(k, 2, 40));
            bounds("sheet(3, v, 40)", 0, 2, lane -> x.sheet(3, lane, 40));
            due("sheet(0, 0, 41)", x.sheet(0, 0, 41), BAD);
            due("sheet(0, 0, high)", x.sheet(0, 0, HIGH), BAD);
            for (int n : new int[] {LOW, -1}) {
                due("k ahead of SIZE", x.sheet(4, 0, n), BAD);
                due("k ahead of SIZE", x.sheet(-1, 0, n), BAD);
                due("lane ahead of SIZE", x.sheet(0, 3, n), BAD);
                due("lane ahead of SIZE", x.sheet(0, -1, n), BAD);
            }
        });
        says.promise(41, "-14 (SIZE): n below 0.", () -> {
            RocketPrint x = new RocketPrint();
            for (int n : new int[] {-1, -40, LOW}) {
                for (int k = 0; k < 4; k++) {
                    due("sheet(" + k + ", 2, " + n + ")", x.sheet(k, 2, n), -14);
                }
            }
            due("nothing yet", x.count(3), NONE);
            x.sheet(0, 0, 0);
            due("sheet(0, 0, -1)", x.sheet(0, 0, -1), -14);
            due("0 CELLS yet", x.count(3), 0);
        });
    }

    /** What is laid on a SHEET, and that one is made anew, leaves the others. */
    private void besides() {
        for (int k = 0; k < 4; k++) {
            RocketPrint x = new RocketPrint();
            for (int other = 0; other < 4; other++) {
                x.sheet(other, 2, 40);
                x.lay(other, 0, other);
                x.lay(other, 3, 1);
                x.lay(other, 36, other);
                x.lay(other, 39, 1);
            }
            x.sheet(k, 2, 40);
            for (int other = 0; other < 4; other++) {
                for (int f = 0; f <= 36; f += 36) {
                    x.burn(0);
                    due("SHEET " + other + " from " + f, x.read(other, 2, f, 1), other == k ? -20 : 1);
                    due("its KIND", x.work(0, 0), other == k ? BAD : other);
                }
            }
        }
    }

    private void lay() {
        says.promise(42, "CELL i of a SHEET becomes v (its lowest bits): 1.", () -> {
            // As a MINUTE: what is left of v in a lane, or -1 where that is none.
            int[] vs = {0, 59, 60, -1, 256, 256 + 59, 65536, 65536 + 59, 65536 + 256 + 59, -256 + 59, -65536 + 59, 128, 255,
                32768, 65535, LOW, LOW + 59, HIGH, HIGH - 65535 + 59};
            int[][] left = {
                {0, 59, -1, -1, 0, 59, 0, 59, 59, 59, 59, -1, -1, 0, -1, 0, 59, -1, 59},
                {0, 59, -1, -1, -1, -1, 0, 59, -1, -1, 59, -1, -1, -1, -1, 0, 59, -1, 59},
                {0, 59, -1, -1, -1, -1, -1, -1, -1, -1, -1, -1, -1, -1, -1, -1, -1, -1, -1}};
            for (int lane = 0; lane < 3; lane++) {
                RocketPrint x = new RocketPrint();
                laid(x, 1, lane, 40);
                for (int i = 0; i < vs.length; i++) {
                    x.burn(0);
                    due("lay of " + vs[i], x.lay(1, 38, vs[i]), 1);
                    x.lay(1, 39, 1);
                    due("read in lane " + lane + " of " + vs[i], x.read(1, lane, 36, 1), left[lane][i] < 0 ? -20 : 1);
                    due("MINUTE in lane " + lane + " of " + vs[i], x.work(0, 2), left[lane][i]);
                }
                due("the others are as they were", x.read(1, lane, 32, 1), 1);
                due("FROM", x.work(x.rule(0) - 1, 1), 8);
            }
        });
        says.promise(42, "BAD: k;", () -> {
            RocketPrint x = new RocketPrint();
            bounds("lay(v, 0, 0) of nothing", 0, 3, k -> x.lay(k, 0, 0));
            for (int k = 0; k < 4; k++) {
                x.sheet(k, 0, 1);
            }
            bounds("lay(v, 0, 0)", 0, 3, k -> x.lay(k, 0, 0));
            due("BAD ahead of INDEX", x.lay(4, -1, 0), BAD);
        });
        says.promise(42, "-10 less the FAULT: NULL, INDEX.", () -> {
            RocketPrint x = new RocketPrint();
            for (int k = 0; k < 4; k++) {
                for (int i : new int[] {LOW, -1, 0, 39, 40, HIGH}) {
                    due("lay(" + k + ", " + i + "), NULL", x.lay(k, i, 0), -11);
                }
            }
            for (int n : new int[] {0, 1, 40}) {
                for (int k = 0; k < 4; k++) {
                    x.sheet(k, 2, n);
                    for (int i : outside(0, n - 1)) {
                        due("lay(" + k + ", " + i + ") of " + n, x.lay(k, i, 1), -12);
                    }
                    if (n > 0) {
                        due("the first of " + n, x.lay(k, 0, 1), 1);
                        due("the last of " + n, x.lay(k, n - 1, 1), 1);
                    }
                }
            }
        });
    }

    private void read() {
        says.promise(43, "n (0 to 10) WORKS (KIND, FROM, MINUTE, POWER) are read of a SHEET taken as of a lane, "
                + "four CELLS each from CELL f on, one behind another as by write(): how many came.", () -> {
            for (int lane = 0; lane < 3; lane++) {
                RocketPrint x = new RocketPrint();
                laid(x, lane, lane, 40);
                came("six, the most", x, x.read(lane, lane, 0, 6), 6, 0);
                for (int w = 0; w < 6; w++) {
                    int[] want = {0, w, w, w + 1};
                    for (int what = 0; what < 4; what++) {
                        due("work(" + w + ", " + what + ")", x.work(w, what), want[what]);
                    }
                }
                x.burn(1);
                came("the last of the SHEET, behind one", x, x.read(lane, lane, 32, 1), 1, 0);
                due("its FROM", x.work(1, 1), 8);
                due("its POWER", x.work(1, 3), 9);
                due("the first is as it was", x.work(0, 3), 1);
            }
            RocketPrint y = new RocketPrint();
            y.sheet(3, 0, 40);
            int[][] ends = {{0, 0, 0, 1}, {3, 11, 59, 9}};
            for (int i = 0; i < 8; i++) {
                y.lay(3, 1 + i, ends[i / 4][i % 4]);
            }
            came("from CELL 1 on", y, y.read(3, 0, 1, 2), 2, 0);
            for (int what = 0; what < 4; what++) {
                due("the least, " + what, y.work(0, what), ends[0][what]);
                due("the most, " + what, y.work(1, what), ends[1][what]);
            }
        });
        says.promise(43, "What the machine refuses: those that were whole ahead came (its FAULT is asked by torn();", () -> {
            for (int n = 0; n <= 23; n++) {
                RocketPrint x = new RocketPrint();
                laid(x, 0, 1, n);
                came("all of " + n + " CELLS", x, x.read(0, 1, 0, 10), n / 4, INDEX);
                due("WORKS", x.rule(0), n / 4);
                x.burn(0);
                came("just those that are whole", x, x.read(0, 1, 0, n / 4), n / 4, 0);
            }
            RocketPrint y = new RocketPrint();
            laid(y, 0, 2, 40);
            // CELLS 36 to 39 would be a WORK of POWER 10.
            y.lay(0, 39, 9);
            came("from 36", y, y.read(0, 2, 36, 1), 1, 0);
            for (int f : new int[] {37, 39, 40, 41, HIGH, HIGH - 3, HIGH - 36, -1, -3, -4, -36, LOW, LOW + 4}) {
                came("from " + f, y, y.read(0, 2, f, 10), 0, INDEX);
                came("from " + f + " in another lane", y, y.read(0, 0, f, 10), 0, CAST);
                came("from " + f + " of nothing", y, y.read(1, 2, f, 10), 0, NULL);
            }
            came("one from 36, the next is none", y, y.read(0, 2, 36, 2), 1, INDEX);
            due("it came", y.rule(0), 2);
            y.sheet(2, 1, 0);
            came("of no CELLS", y, y.read(2, 1, 0, 1), 0, INDEX);
            came("of no CELLS in another lane", y, y.read(2, 2, 0, 1), 0, CAST);
        });
        says.promise(43, "of n 0: 0, no FAULT, whatever the SHEET is).", () -> {
            RocketPrint x = full();
            x.sheet(1, 1, 0);
            x.sheet(2, 2, 40);
            for (int k = 0; k < 4; k++) {
                for (int lane = 0; lane < 3; lane++) {
                    for (int f : new int[] {LOW, -1, 0, 40, HIGH}) {
                        x.read(0, 0, 0, 1);
                        came("read(" + k + ", " + lane + ", " + f + ", 0)", x, x.read(k, lane, f, 0), 0, 0);
                    }
                }
            }
            due("none came", x.rule(0), 6);
        });
        says.promise(43, "BAD: k, lane, n;", () -> {
            RocketPrint x = new RocketPrint();
            bounds("read(v, 0, 0, 1) of nothing", 0, 3, k -> x.read(k, 0, 0, 1));
            laid(x, 3, 2, 40);
            bounds("read(v, 2, 0, 1)", 0, 3, k -> x.read(k, 2, 0, 1));
            bounds("read(3, v, 0, 1)", 0, 2, lane -> x.read(3, lane, 0, 1));
            bounds("read(3, 2, 0, v)", 0, 10, n -> x.read(3, 2, 0, n));
            due("k, though n is 0", x.read(4, 0, 0, 0), BAD);
            due("lane, though n is 0", x.read(0, 3, 0, 0), BAD);
        });
    }

    private void readRefused() {
        says.promise(43, "-20 less i (0 on): the i-th, whole, is refused by write() (in whichever way): then none came;", () -> {
            int[][] wrong = {{4, -1}, {12, -1}, {60, -1}, {10, 0}};
            for (int i = 0; i < 6; i++) {
                for (int what = 0; what < 4; what++) {
                    for (int v : wrong[what]) {
                        RocketPrint x = new RocketPrint();
                        laid(x, 0, 0, 24);
                        x.lay(0, 4 * i + what, v);
                        due(what + " of the " + i + "-th is " + v, x.read(0, 0, 0, 6), -20 - i);
                        due("none came", x.rule(0), 0);
                        due("those ahead", x.read(0, 0, 0, i), i);
                    }
                }
            }
            for (int works = 0; works <= 6; works++) {
                RocketPrint x = full();
                x.burn(works);
                laid(x, 0, 1, 36);
                due("FULL, " + works + " are there", x.read(0, 1, 0, 9), -20 - (6 - works));
                due("none came", x.rule(0), works);
                due("as many as may be", x.read(0, 1, 0, 6 - works), 6 - works);
            }
            RocketPrint y = new RocketPrint();
            y.sheet(0, 2, 40);
            due("of ten the first", y.read(0, 2, 0, 10), -20);
        });
        says.promise(43, "the first met.", () -> {
            RocketPrint x = new RocketPrint();
            laid(x, 0, 0, 15);
            x.lay(0, 7, 0);
            x.lay(0, 11, 0);
            due("the second ahead of the third", x.read(0, 0, 0, 3), -21);
            due("the second ahead of INDEX", x.read(0, 0, 0, 10), -21);
            x.lay(0, 7, 1);
            x.lay(0, 11, 1);
            x.lay(0, 12, 99);
            came("INDEX ahead of what would be refused, but is not whole", x, x.read(0, 0, 0, 10), 3, INDEX);
            RocketPrint y = full();
            laid(y, 0, 0, 3);
            came("INDEX, where no more would be taken", y, y.read(0, 0, 0, 1), 0, INDEX);
            came("CAST, where no more would be taken", y, y.read(0, 1, 0, 1), 0, CAST);
            came("NULL, where no more would be taken", y, y.read(1, 1, 0, 1), 0, NULL);
        });
    }

    private void torn() {
        says.promise(44, "The FAULT of the latest read() that answered 0 or more; 0", () -> {
            RocketPrint x = new RocketPrint();
            due("no read() yet", x.torn(), 0);
            laid(x, 0, 0, 4);
            came("one, then INDEX", x, x.read(0, 0, 0, 2), 1, INDEX);
            due("asked again", x.torn(), INDEX);
            came("one", x, x.read(0, 0, 0, 1), 1, 0);
            came("CAST", x, x.read(0, 2, 0, 1), 0, CAST);
            came("NULL", x, x.read(3, 2, 0, 1), 0, NULL);
            x.lay(3, 0, 0);
            x.sheet(2, 0, -1);
            x.lay(0, 9, 0);
            x.text();
            due("by read() alone", x.torn(), NULL);
            came("none of none", x, x.read(3, 2, 0, 0), 0, 0);
        });
        says.promise(44, "(one that is refused leaves it).", () -> {
            RocketPrint x = new RocketPrint();
            laid(x, 0, 0, 8);
            x.lay(0, 7, 0);
            int[] lanes = {0, 1, 0, 0};
            int[] from = {0, 0, 9, 0};
            int[] faults = {0, CAST, INDEX, 0};
            for (int i = 0; i < 4; i++) {
                x.read(0, lanes[i], from[i], i == 3 ? 0 : 1);
                due("torn()", x.torn(), faults[i]);
                due("refused by write()", x.read(0, 0, 0, 2), -21);
                due("it is left", x.torn(), faults[i]);
                due("BAD", x.read(0, 0, 0, 11), BAD);
                due("it is left", x.torn(), faults[i]);
                due("BAD", x.read(4, 0, 0, 1), BAD);
                due("BAD", x.read(0, 3, 0, 1), BAD);
                due("it is left", x.torn(), faults[i]);
            }
        });
    }

    private void count() {
        says.promise(45, "How many: 0 SEEN, 1 IMAGES, 2 bytes on THE TAPE,", () -> {
            RocketPrint x = of("star 5 0 1;");
            for (int n = 0; n <= 6; n++) {
                due("SEEN", x.count(0), n);
                x.see(0, 0);
            }
            due("SEEN at most", x.count(0), 6);
            due("IMAGES", x.count(1), 0);
            x.keep(1);
            due("IMAGES", x.count(1), 1);
            x.keep(1);
            due("IMAGES", x.count(1), 1);
            x.keep(0);
            due("IMAGES", x.count(1), 2);
            for (int n = 0; n <= 160; n++) {
                due("bytes", x.count(2), n);
                x.feed(' ');
            }
            due("bytes at most", x.count(2), 160);
        });
        says.promise(45, "3 CELLS of SHEET 0 (NONE: nothing),", () -> {
            RocketPrint x = new RocketPrint();
            due("nothing", x.count(3), NONE);
            x.sheet(1, 0, 40);
            due("of another", x.count(3), NONE);
            x.sheet(0, 0, 0);
            due("0 is not nothing", x.count(3), 0);
            x.sheet(0, 2, 40);
            due("at most", x.count(3), 40);
            x.sheet(3, 2, 1);
            due("of another", x.count(3), 40);
        });
        says.promise(45, "4 POWER of all WORKS, 5 COUGHS of all READERS.", () -> {
            RocketPrint x = new RocketPrint();
            due("of none", x.count(4), 0);
            due("of none", x.count(5), 0);
            for (int n = 1; n <= 6; n++) {
                x.write(0, 0, 0, 9);
                due("POWER", x.count(4), 9 * n);
            }
            for (int n = 1; n <= 4; n++) {
                x.come(0, 9);
                due("COUGHS", x.count(5), 9 * n);
            }
            x.burn(1);
            x.leave(1);
            due("of those that are", x.count(4), 9);
            due("of those that are", x.count(5), 9);
            x.damp(9);
            due("whether they GO UP or not", x.count(4), 9);
        });
        says.promise(45, "BAD.", () -> bounds("count", 0, 5, full()::count));
    }
}
