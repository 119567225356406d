/** What there is and what is changed: promises 6 to 19. */
final class CallEdges extends Edges {
    CallEdges(Sentences says) {
        super(says);
    }

    @Override
    void all() {
        rule();
        work();
        reader();
        readsAndLooks();
        sky();
        alter();
        move();
        air();
        write();
        come();
        burn();
        leave();
    }

    private void rule() {
        says.promise(6, "0 WORKS, 1 READERS, 2 WIND, 3 DAMP,", () -> {
            int[] atFirst = {0, 0, 4, 0};
            int[] atMost = {6, 4, 8, 9};
            RocketPrint x = full();
            x.blow(8);
            x.damp(9);
            for (int what = 0; what < 4; what++) {
                due("at first, rule(" + what + ")", new RocketPrint().rule(what), atFirst[what]);
                due("at most, rule(" + what + ")", x.rule(what), atMost[what]);
            }
        });
        says.promise(6, "4 minutes in which any READER READS, of all READERS summed,", () -> {
            due("none", new RocketPrint().rule(4), 0);
            due("no reader", lit("").rule(4), 0);
            due("no work", of("reader 0 0;").rule(4), 0);
            due("one", lit("reader 5 0;").rule(4), 77);
            due("four, the most", lit("reader 5 0;".repeat(4)).rule(4), 308);
            due("out of sight, by 5", lit("reader 10 0;reader 0 0;").rule(4), 0);
            due("coughs always, never", lit("reader 5 1;reader 5 0;").rule(4), 77);
        });
        says.promise(6, "5 how many times a READER READS a WORK WHOLE.", () -> {
            due("none", new RocketPrint().rule(5), 0);
            String six = "star 5 1 1;star 5 2 1;star 5 3 1;star 5 4 1;star 5 5 1;star 5 6 1;";
            due("all by all", of(six + "reader 5 0;".repeat(4)).rule(5), 24);
            due("all but 5 by one who coughs in it, none by one who coughs always", of(six + "reader 5 5;reader 5 1;").rule(5), 5);
        });
        says.promise(6, "BAD.", () -> bounds("rule", 0, 5, full()::rule));
    }

    private void work() {
        says.promise(7, "Of a WORK: 0 KIND, 1 FROM, 2 MINUTE, 3 POWER, 4 LASTS, 5 WIDE, 6 where it BURSTS, "
                + "7 where its STICK comes down,", () -> {
            RocketPrint x = full();
            x.blow(6);
            // star of 9 from 0 and 2, and 4 more; wheel of 4 from 10 and 2, 1 over the end.
            int[][] want = {{0, 0, 0, 9, 9, 9, 2, 6}, {1, 10, 50, 4, 8, 2, 11, 11}};
            for (int what = 0; what < 8; what++) {
                due("the first, " + what, x.work(0, what), want[0][what]);
                due("the last, " + what, x.work(5, what), want[1][what]);
            }
        });
        says.promise(7, "8 who READS it WHOLE (bits).", () -> {
            RocketPrint x = of("star 5 1 4;");
            due("no reader", x.work(0, 8), 0);
            x.come(0, 0);
            due("5 off", x.work(0, 8), 0);
            x.come(1, 0);
            due("4 off", x.work(0, 8), 2);
            x.come(9, 5);
            due("coughs in 5", x.work(0, 8), 6);
            x.come(5, 4);
            due("coughs in 4", x.work(0, 8), 6);
            x.move(0, 0, 5);
            x.move(3, 1, 6);
            due("all four", x.work(0, 8), 15);
            x.damp(4);
            due("does not GO UP", x.work(0, 8), 0);
        });
        says.promise(7, "BAD.", () -> {
            RocketPrint x = full();
            for (int what = 0; what <= 8; what++) {
                int it = what;
                bounds("work(v, " + what + ")", 0, 5, w -> x.work(w, it));
            }
            bounds("work(5, v)", 0, 8, what -> x.work(5, what));
            noneIsThere("work", w -> new RocketPrint().work(w, 0));
            x.burn(5);
            due("one that was burnt", x.work(5, 0), BAD);
        });
    }

    private void reader() {
        says.promise(8, "Of a READER: 0 AT, 1 COUGHS,", () -> {
            RocketPrint x = of("reader 0 9;reader 5 5;reader 5 5;reader 11 0;");
            due("AT of the first", x.reader(0, 0), 0);
            due("COUGHS of the first", x.reader(0, 1), 9);
            due("AT of the last", x.reader(3, 0), 11);
            due("COUGHS of the last", x.reader(3, 1), 0);
        });
        says.promise(8, "2 WORKS that he READS WHOLE (bits),", () -> {
            RocketPrint x = of("star 5 1 1;star 5 2 1;star 5 3 1;star 5 4 1;star 5 5 1;star 5 6 1;reader 5 0;reader 5 5;reader 7 0;reader 5 6;");
            due("all six", x.reader(0, 2), 63);
            due("all but the one in 5", x.reader(1, 2), 47);
            due("none", x.reader(2, 2), 0);
            due("all but the one in 6", x.reader(3, 2), 31);
            due("of no WORKS", of("reader 5 0;").reader(0, 2), 0);
        });
        says.promise(8, "3 in how many minutes he READS.", () -> {
            RocketPrint x = lit("reader 5 0;reader 9 2;reader 10 0;reader 1 9;");
            due("in all", x.reader(0, 3), 77);
            due("in those that are odd, 4 off", x.reader(1, 3), 38);
            due("5 off", x.reader(2, 3), 0);
            due("in all but 9", x.reader(3, 3), 68);
            due("of no WORKS", of("reader 5 0;").reader(0, 3), 0);
        });
        says.promise(8, "BAD.", () -> {
            RocketPrint x = full();
            for (int what = 0; what <= 3; what++) {
                int it = what;
                bounds("reader(v, " + what + ")", 0, 3, r -> x.reader(r, it));
            }
            bounds("reader(3, v)", 0, 3, what -> x.reader(3, what));
            noneIsThere("reader", r -> new RocketPrint().reader(r, 0));
            x.leave(3);
            due("one who left", x.reader(3, 0), BAD);
        });
    }

    private void readsAndLooks() {
        says.promise(9, "In how many minutes a READER READS a WORK.", () -> {
            RocketPrint x = of("wheel 5 59 9;star 5 58 2;squib 5 0 1;reader 5 0;reader 5 9;reader 5 1;");
            due("59 to 76", x.reads(0, 0), 18);
            due("58, not 59", x.reads(0, 1), 1);
            due("LASTS 0", x.reads(0, 2), 0);
            due("but 63, 72", x.reads(1, 0), 16);
            due("coughs always", x.reads(2, 0), 0);
        });
        says.promise(9, "BAD.", () -> {
            RocketPrint x = full();
            bounds("reads(v, 5)", 0, 3, r -> x.reads(r, 5));
            bounds("reads(3, v)", 0, 5, w -> x.reads(3, w));
            noneIsThere("reads(v, 0), no READER", r -> of("star 0 0 1;").reads(r, 0));
            noneIsThere("reads(0, v), no WORK", w -> of("reader 0 0;").reads(0, w));
        });
        says.promise(10, "At which WORK a READER LOOKS in a minute (0 to 79).", () -> {
            RocketPrint x = of("star 5 0 1;star 5 0 2;star 5 0 3;star 5 0 4;star 5 0 5;wheel 5 59 9;reader 5 0;");
            for (int m = 0; m <= 4; m++) {
                due("looks(0, " + m + ")", x.looks(0, m), m);
            }
            due("the last of six", x.looks(0, 59), 5);
            due("the last minute that may be", x.looks(0, 76), 5);
        });
        says.promise(10, "BAD;", () -> {
            RocketPrint x = full();
            bounds("looks(v, 0)", 0, 3, r -> x.looks(r, 0));
            bounds("looks(3, v)", 0, 79, m -> x.looks(3, m));
            noneIsThere("looks", r -> new RocketPrint().looks(r, 0));
        });
        says.promise(10, "NONE: at none.", () -> {
            RocketPrint x = of("star 5 10 2;reader 5 0;reader 8 0;reader 5 5;");
            due("not UP yet", x.looks(0, 9), NONE);
            due("UP", x.looks(0, 10), 0);
            due("no longer UP", x.looks(0, 12), NONE);
            due("too far", x.looks(1, 10), NONE);
            due("coughs", x.looks(2, 10), NONE);
            due("does not cough", x.looks(2, 11), 0);
            due("in 77 none can be", lit("reader 5 0;").looks(0, 77), NONE);
            due("of no WORKS, in 79", of("reader 5 0;").looks(0, 79), NONE);
        });
    }

    private void sky() {
        says.promise(11, "Which WORKS are UP in a minute (0 to 79; bits).", () -> {
            RocketPrint x = of("star 0 0 1;star 1 0 2;star 2 0 3;star 3 0 4;star 4 0 5;star 5 0 6;");
            int[] want = {63, 62, 60, 56, 48, 32, 0};
            for (int m = 0; m < want.length; m++) {
                due("sky(" + m + ")", x.sky(m), want[m]);
            }
            due("sky(79)", x.sky(79), 0);
            due("in 76", lit("").sky(76), 16);
            due("in 77", lit("").sky(77), 0);
            x.damp(5);
            due("one alone is above DAMP", x.sky(0), 32);
            due("of no WORKS", new RocketPrint().sky(0), 0);
        });
        says.promise(11, "BAD.", () -> {
            bounds("sky", 0, 79, full()::sky);
            bounds("sky of none", 0, 79, new RocketPrint()::sky);
        });
    }

    private void alter() {
        says.promise(12, "KIND, FROM, MINUTE, POWER (what 0 to 3) of a WORK becomes v: what it was.", () -> {
            int[][] ends = {{0, 3}, {0, 11}, {0, 59}, {1, 9}};
            for (int w : new int[] {0, 5}) {
                RocketPrint x = full();
                for (int what = 0; what < 4; what++) {
                    int was = x.work(w, what);
                    for (int v = ends[what][0]; v <= ends[what][1]; v++) {
                        due("alter(" + w + ", " + what + ", " + v + ")", x.alter(w, what, v), was);
                        due("work(" + w + ", " + what + ")", x.work(w, what), v);
                        was = v;
                    }
                }
                due("not of another", x.work(w == 0 ? 1 : 4, 3), w == 0 ? 8 : 5);
            }
        });
        says.promise(12, "BAD.", () -> {
            RocketPrint x = full();
            bounds("alter(v, 3, 1)", 0, 5, w -> x.alter(w, 3, 1));
            bounds("alter(5, v, 1)", 0, 3, what -> x.alter(5, what, 1));
            bounds("alter(5, 0, v)", 0, 3, v -> x.alter(5, 0, v));
            bounds("alter(5, 1, v)", 0, 11, v -> x.alter(5, 1, v));
            bounds("alter(5, 2, v)", 0, 59, v -> x.alter(5, 2, v));
            bounds("alter(5, 3, v)", 1, 9, v -> x.alter(5, 3, v));
            noneIsThere("alter", w -> new RocketPrint().alter(w, 3, 1));
        });
    }

    private void move() {
        says.promise(13, "AT, COUGHS (what 0, 1) of a READER becomes v: what it was.", () -> {
            int[] most = {11, 9};
            for (int r : new int[] {0, 3}) {
                RocketPrint x = full();
                for (int what = 0; what < 2; what++) {
                    int was = x.reader(r, what);
                    for (int v = 0; v <= most[what]; v++) {
                        due("move(" + r + ", " + what + ", " + v + ")", x.move(r, what, v), was);
                        due("reader(" + r + ", " + what + ")", x.reader(r, what), v);
                        was = v;
                    }
                }
                due("not of another", x.reader(r == 0 ? 1 : 2, 0), r == 0 ? 4 : 7);
            }
        });
        says.promise(13, "BAD.", () -> {
            RocketPrint x = full();
            bounds("move(v, 1, 1)", 0, 3, r -> x.move(r, 1, 1));
            bounds("move(3, v, 1)", 0, 1, what -> x.move(3, what, 1));
            bounds("move(3, 0, v)", 0, 11, v -> x.move(3, 0, v));
            bounds("move(3, 1, v)", 0, 9, v -> x.move(3, 1, v));
            noneIsThere("move", r -> new RocketPrint().move(r, 0, 0));
        });
    }

    private void air() {
        says.promise(14, "WIND becomes v: what it was.", () -> {
            RocketPrint x = new RocketPrint();
            int was = 4;
            for (int v = 0; v <= 8; v++) {
                due("blow(" + v + ")", x.blow(v), was);
                due("WIND", x.rule(2), v);
                due("DAMP is as it was", x.rule(3), 0);
                was = v;
            }
        });
        says.promise(14, "BAD.", () -> bounds("blow", 0, 8, new RocketPrint()::blow));
        says.promise(15, "DAMP becomes v: what it was.", () -> {
            RocketPrint x = new RocketPrint();
            int was = 0;
            for (int v = 9; v >= 0; v--) {
                due("damp(" + v + ")", x.damp(v), was);
                due("DAMP", x.rule(3), v);
                due("WIND is as it was", x.rule(2), 4);
                was = v;
            }
        });
        says.promise(15, "BAD.", () -> bounds("damp", 0, 9, new RocketPrint()::damp));
    }

    private void write() {
        says.promise(16, "A WORK more: how many there are.", () -> {
            RocketPrint x = new RocketPrint();
            int[][] ends = {{0, 0, 0, 1}, {3, 11, 59, 9}};
            for (int w = 0; w < 6; w++) {
                int[] it = ends[w % 2];
                due("write", x.write(it[0], it[1], it[2], it[3]), w + 1);
                for (int what = 0; what < 4; what++) {
                    due("work(" + w + ", " + what + ")", x.work(w, what), it[what]);
                }
            }
        });
        says.promise(16, "BAD;", () -> {
            RocketPrint x = new RocketPrint();
            bounds("write(v, 0, 0, 1)", 0, 3, v -> x.write(v, 0, 0, 1));
            bounds("write(0, v, 0, 1)", 0, 11, v -> x.write(0, v, 0, 1));
            bounds("write(0, 0, v, 1)", 0, 59, v -> x.write(0, 0, v, 1));
            due("six came", x.rule(0), 6);
            bounds("write(0, 0, 0, v), though FULL", 1, 9, v -> x.write(0, 0, 0, v));
        });
        says.promise(16, "FULL.", () -> {
            RocketPrint x = full();
            due("the 7th", x.write(0, 0, 0, 1), FULL);
            due("the 7th", x.write(3, 11, 59, 9), FULL);
            due("there are", x.rule(0), 6);
            due("the last is as it was", x.work(5, 2), 50);
            x.burn(5);
            due("there is room for one", x.write(0, 0, 0, 1), 6);
            due("and no more", x.write(0, 0, 0, 1), FULL);
        });
    }

    private void come() {
        says.promise(17, "A READER more: how many there are.", () -> {
            RocketPrint x = new RocketPrint();
            int[][] ends = {{0, 9}, {11, 0}};
            for (int r = 0; r < 4; r++) {
                due("come", x.come(ends[r % 2][0], ends[r % 2][1]), r + 1);
                due("AT", x.reader(r, 0), ends[r % 2][0]);
                due("COUGHS", x.reader(r, 1), ends[r % 2][1]);
            }
        });
        says.promise(17, "BAD;", () -> {
            RocketPrint x = new RocketPrint();
            bounds("come(v, 0)", 0, 11, v -> x.come(v, 0));
            bounds("come(0, v)", 0, 9, v -> x.come(0, v));
            due("four came", x.rule(1), 4);
            bounds("come(v, 0), though FULL", 0, 11, v -> x.come(v, 0));
        });
        says.promise(17, "FULL.", () -> {
            RocketPrint x = full();
            due("the 5th", x.come(0, 0), FULL);
            due("the 5th", x.come(11, 9), FULL);
            due("there are", x.rule(1), 4);
            due("the last is as he was", x.reader(3, 0), 10);
            x.leave(3);
            due("there is room for one", x.come(0, 0), 4);
            due("and no more", x.come(0, 0), FULL);
        });
    }

    private void burn() {
        says.promise(18, "WORKS are the first n alone: how many there were.", () -> {
            due("burn(0) of none", new RocketPrint().burn(0), 0);
            for (int n = 0; n <= 6; n++) {
                RocketPrint x = full();
                due("burn(" + n + ")", x.burn(n), 6);
                due("there are", x.rule(0), n);
                for (int w = 0; w < 6; w++) {
                    due("MINUTE of " + w, x.work(w, 2), w < n ? 10 * w : BAD);
                }
                due("READERS are as they were", x.rule(1), 4);
            }
        });
        says.promise(18, "BAD (n above that, too).", () -> {
            for (int v : outside(0, 0)) {
                due("burn(" + v + ") of none", new RocketPrint().burn(v), BAD);
            }
            RocketPrint x = full();
            bounds("burn of 6", 0, 6, x::burn);
            RocketPrint y = full();
            y.burn(3);
            bounds("burn of 3", 0, 3, y::burn);
        });
    }

    private void leave() {
        says.promise(19, "READERS are the first n alone: how many there were.", () -> {
            due("leave(0) of none", new RocketPrint().leave(0), 0);
            for (int n = 0; n <= 4; n++) {
                RocketPrint x = full();
                due("leave(" + n + ")", x.leave(n), 4);
                due("there are", x.rule(1), n);
                for (int r = 0; r < 4; r++) {
                    due("AT of " + r, x.reader(r, 0), r < n ? 3 * r + 1 : BAD);
                }
                due("WORKS are as they were", x.rule(0), 6);
            }
        });
        says.promise(19, "BAD (n above that, too).", () -> {
            for (int v : outside(0, 0)) {
                due("leave(" + v + ") of none", new RocketPrint().leave(v), BAD);
            }
            RocketPrint x = full();
            bounds("leave of 4", 0, 4, x::leave);
            RocketPrint y = full();
            y.leave(2);
            bounds("leave of 2", 0, 2, y::leave);
        });
    }
}
