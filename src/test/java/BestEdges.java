/** Who looks when, what is best, damp ones: promises 20 to 31. */
final class BestEdges extends Edges {
    BestEdges(Sentences says) {
        super(says);
    }

    @Override
    void all() {
        first();
        dark();
        peak();
        when();
        stand();
        swap();
        lose();
        need();
        dry();
        kind();
        luck();
        mean();
    }

    /** What 0 and 1 of a call. */
    private void both(String call, int which, int amount, int wantWhich, int wantAmount) {
        due(call + ", what 0", which, wantWhich);
        due(call + ", what 1", amount, wantAmount);
    }

    private void first() {
        says.promise(20, "The first minute in which a READER READS.", () -> {
            due("in 0", of("star 5 0 1;reader 5 0;").first(0), 0);
            due("in 59, the last that may be", of("wheel 5 59 9;reader 5 0;").first(0), 59);
            due("coughs in 58", of("star 5 58 2;reader 5 2;").first(0), 59);
            due("coughs in 0", of("star 5 0 2;reader 5 9;").first(0), 1);
            RocketPrint x = of("star 5 30 1;star 5 7 1;star 0 3 1;reader 5 0;reader 5 7;reader 1 0;reader 0 3;");
            int[] want = {7, 30, 3, NONE};
            for (int r = 0; r < 4; r++) {
                due("first(" + r + ")", x.first(r), want[r]);
            }
        });
        says.promise(20, "BAD;", () -> {
            bounds("first", 0, 3, full()::first);
            noneIsThere("first", r -> of("star 5 0 1;").first(r));
        });
        says.promise(20, "NONE: none.", () -> {
            due("no WORK", of("reader 5 0;").first(0), NONE);
            due("too far", of("star 5 0 1;reader 7 0;").first(0), NONE);
            due("coughs always", of("star 5 0 9;reader 5 1;").first(0), NONE);
            due("coughs in that minute", of("star 5 9 1;reader 5 9;").first(0), NONE);
            due("too damp", of("star 5 0 9;reader 5 0;damp 9;").first(0), NONE);
            due("LASTS 0", of("squib 5 0 1;reader 5 0;").first(0), NONE);
        });
    }

    private void dark() {
        says.promise(21, "In how many minutes (of 80) nobody READS.", () -> {
            due("no READER, no WORK", new RocketPrint().dark(), 80);
            due("no READER", lit("").dark(), 80);
            due("no WORK", of("reader 5 0;").dark(), 80);
            due("the least that may be", lit("reader 5 0;").dark(), 3);
            due("one who coughs always", lit("reader 5 1;").dark(), 80);
            due("one who coughs by 2", lit("reader 5 2;").dark(), 42);
            due("both cough in 0, 6 .. 72", lit("reader 5 2;reader 5 3;").dark(), 16);
            due("in minute 0", of("star 5 0 1;reader 5 0;").dark(), 79);
            due("too damp", of("star 5 0 9;reader 5 0;damp 9;").dark(), 80);
        });
    }

    private void peak() {
        says.promise(22, "The minute in which most READERS LOOK at a WORK, of several the first (what 0), how many (1).", () -> {
            RocketPrint x = lit("reader 5 0;".repeat(4));
            both("from 0 on, all four", x.peak(0, 0), x.peak(0, 1), 0, 4);
            both("the last, behind another", x.peak(4, 0), x.peak(4, 1), 72, 4);
            RocketPrint y = of("wheel 5 59 8;wheel 5 59 9;reader 5 3;");
            both("in 76, the last that may be", y.peak(1, 0), y.peak(1, 1), 76, 1);
            RocketPrint z = of("star 5 10 5;reader 5 5;reader 5 2;reader 5 0;reader 5 4;");
            // 10: two; 11: four; 12: two; 13: four; 14: three.
            both("the first of two", z.peak(0, 0), z.peak(0, 1), 11, 4);
            z.move(0, 1, 9);
            z.move(1, 1, 0);
            z.move(3, 1, 0);
            both("all cough elsewhere", z.peak(0, 0), z.peak(0, 1), 10, 4);
        });
        says.promise(22, "BAD;", () -> {
            RocketPrint x = full();
            bounds("peak(v, 0)", 0, 5, w -> x.peak(w, 0));
            bounds("peak(v, 1)", 0, 5, w -> x.peak(w, 1));
            bounds("peak(5, v)", 0, 1, what -> x.peak(5, what));
            noneIsThere("peak", w -> of("reader 0 0;").peak(w, 0));
        });
        says.promise(22, "NONE: none ever does.", () -> {
            String[] none = {"star 5 0 1;", "star 5 0 1;reader 7 0;", "star 5 0 9;reader 5 1;", "star 5 0 9;reader 5 0;damp 9;",
                "squib 5 0 1;reader 5 0;"};
            for (String text : none) {
                RocketPrint x = of(text);
                both(text, x.peak(0, 0), x.peak(0, 1), NONE, NONE);
            }
            RocketPrint y = of("star 5 0 9;star 5 0 9;reader 5 0;");
            both("one behind another", y.peak(1, 0), y.peak(1, 1), NONE, NONE);
        });
    }

    private void when() {
        says.promise(23, "The MINUTE of a WORK by which most READERS READ it WHOLE, of several the first (what 0), how many (1).", () -> {
            RocketPrint x = of("star 5 7 3;reader 5 0;reader 5 0;reader 5 0;reader 5 0;");
            both("0, the first of all", x.when(0, 0), x.when(0, 1), 0, 4);
            x.move(3, 1, 4);
            both("1 to 3", x.when(0, 0), x.when(0, 1), 1, 4);
            x.move(2, 1, 3);
            both("none is free of 3 for so long", x.when(0, 0), x.when(0, 1), 1, 3);
            due("MINUTE is as it was", x.work(0, 2), 7);
            RocketPrint y = of("wheel 5 41 9;wheel 5 23 9;wheel 5 5 9;star 5 0 9;reader 5 0;");
            both("59, the last that may be", y.when(3, 0), y.when(3, 1), 59, 1);
            RocketPrint z = of("wheel 5 42 9;wheel 5 24 9;wheel 5 6 9;star 5 30 9;reader 5 0;");
            both("60 would do, but may not be", z.when(3, 0), z.when(3, 1), 0, 0);
            RocketPrint u = of("star 5 30 1;");
            both("no READER", u.when(0, 0), u.when(0, 1), 0, 0);
            RocketPrint v = of("star 5 30 1;reader 5 0;damp 1;");
            both("too damp", v.when(0, 0), v.when(0, 1), 0, 0);
        });
        says.promise(23, "BAD.", () -> {
            RocketPrint x = full();
            bounds("when(v, 0)", 0, 5, w -> x.when(w, 0));
            bounds("when(v, 1)", 0, 5, w -> x.when(w, 1));
            bounds("when(5, v)", 0, 1, what -> x.when(5, what));
            noneIsThere("when", w -> of("reader 0 0;").when(w, 0));
        });
    }

    private void stand() {
        says.promise(24, "AT which PLACE a READER had better be so that he READS in most minutes, of several the first (what 0), "
                + "in how many (1).", () -> {
            RocketPrint x = of("star 0 0 1;wheel 0 5 1;reader 11 0;");
            both("0, where both are seen", x.stand(0, 0), x.stand(0, 1), 0, 3);
            due("AT is as it was", x.reader(0, 0), 11);
            RocketPrint y = of("star 11 0 1;wheel 11 5 1;reader 0 0;");
            both("11, where both are seen", y.stand(0, 0), y.stand(0, 1), 11, 3);
            RocketPrint z = of("star 6 0 3;reader 0 0;reader 5 0;");
            both("3, the first of 3 to 9", z.stand(0, 0), z.stand(0, 1), 3, 3);
            both("as good as where he is", z.stand(1, 0), z.stand(1, 1), 3, 3);
            RocketPrint u = of("reader 7 0;");
            both("no WORK", u.stand(0, 0), u.stand(0, 1), 0, 0);
            RocketPrint v = lit("reader 7 1;reader 7 9;");
            both("coughs always", v.stand(0, 0), v.stand(0, 1), 0, 0);
            both("4 off, coughs by 9", v.stand(1, 0), v.stand(1, 1), 1, 68);
        });
        says.promise(24, "BAD.", () -> {
            RocketPrint x = full();
            bounds("stand(v, 0)", 0, 3, r -> x.stand(r, 0));
            bounds("stand(v, 1)", 0, 3, r -> x.stand(r, 1));
            bounds("stand(3, v)", 0, 1, what -> x.stand(3, what));
            noneIsThere("stand", r -> of("star 0 0 1;").stand(r, 0));
        });
    }

    private void swap() {
        says.promise(25, "Two WORKS that are to change MINUTES so that minutes in which READERS READ, summed, are most,", () -> {
            // Two that are UP at once: 9 minutes. Changed with that at 5 it is 13, with that at 20 it is 18.
            RocketPrint x = of("star 11 5 1;star 0 1 9;star 0 1 9;star 11 20 1;reader 0 0;");
            due("as it is", x.rule(4), 9);
            both("with that at 20", x.swap(0), x.swap(1), 13, 18);
            due("MINUTE is as it was", x.work(1, 2), 1);
            due("MINUTE is as it was", x.work(3, 2), 20);
            x.come(0, 0);
            both("summed", x.swap(0), x.swap(1), 13, 36);
        });
        says.promise(25, "more than as it is:", () -> {
            // A star is lost to one who coughs in 9, and so is the other when they are changed.
            RocketPrint x = of("star 0 9 1;star 0 20 1;reader 0 9;");
            both("as many", x.swap(0), x.swap(1), NONE, NONE);
            x.alter(1, 1, 11);
            both("one more", x.swap(0), x.swap(1), 1, 1);
            x.alter(0, 2, 20);
            x.alter(1, 2, 9);
            both("one less", x.swap(0), x.swap(1), NONE, NONE);
        });
        says.promise(25, "10 times the lesser and the greater, of several the least (what 0), how many (1).", () -> {
            // He coughs in 9 and 18; all but the one in 9 are out of his sight.
            String far = "star 11 18 1;";
            RocketPrint x = of("star 0 9 1;star 11 20 1;" + far.repeat(4) + "reader 0 9;");
            both("the first two", x.swap(0), x.swap(1), 1, 1);
            RocketPrint y = of(far.repeat(4) + "star 0 9 1;star 11 20 1;reader 0 9;");
            both("the last two", y.swap(0), y.swap(1), 45, 1);
            RocketPrint z = of("star 11 20 1;" + far.repeat(4) + "star 0 9 1;reader 0 9;");
            both("the first and the last", z.swap(0), z.swap(1), 5, 1);
            RocketPrint u = of(far + "star 11 20 1;star 11 20 1;star 0 9 1;star 11 20 1;reader 0 9;");
            both("13 ahead of 23 and 34", u.swap(0), u.swap(1), 13, 1);
            // Two are lost in 9 and 18: each change makes one of them read, none makes both.
            RocketPrint v = of("star 0 9 1;star 11 20 1;star 0 18 1;star 11 21 1;reader 0 9;");
            both("one change by itself", v.swap(0), v.swap(1), 1, 1);
        });
        says.promise(25, "BAD;", () -> {
            bounds("swap", 0, 1, full()::swap);
            bounds("swap of none", 0, 1, new RocketPrint()::swap);
        });
        says.promise(25, "NONE: by none.", () -> {
            String[] none = {"", "reader 0 0;", "star 0 0 1;reader 0 0;", "star 0 5 1;star 0 5 2;reader 0 0;", "star 0 9 1;star 11 20 1;",
                "star 0 9 1;star 11 20 1;reader 0 1;"};
            for (String text : none) {
                RocketPrint x = of(text);
                both("'" + text + "'", x.swap(0), x.swap(1), NONE, NONE);
            }
        });
    }

    private void lose() {
        says.promise(26, "The WORK that had better not be put up so that WORKS are READ WHOLE most times,", () -> {
            // The first hides two, and is READ WHOLE itself; the fourth hides two, and is not: they cough in 18.
            RocketPrint x = of("star 5 1 8;star 5 2 1;star 5 4 1;star 5 10 9;star 5 11 1;star 5 13 1;reader 5 9;reader 5 9;");
            due("as it is", x.rule(5), 2);
            both("the fourth", x.lose(0), x.lose(1), 3, 6);
            due("it is there yet", x.rule(0), 6);
            due("as it was", x.rule(5), 2);
        });
        says.promise(26, "more than as it is,", () -> {
            RocketPrint x = of("star 5 0 9;star 5 3 1;reader 5 0;");
            due("as it is", x.rule(5), 1);
            both("as many", x.lose(0), x.lose(1), NONE, NONE);
            x.write(0, 5, 5, 1);
            both("one more", x.lose(0), x.lose(1), 0, 2);
            x.burn(1);
            both("one less", x.lose(0), x.lose(1), NONE, NONE);
        });
        says.promise(26, "of several the first (what 0), how many times (1).", () -> {
            RocketPrint x = of("star 4 3 1;star 4 6 1;star 11 0 1;star 11 0 1;star 11 0 1;star 5 0 9;reader 5 0;");
            both("the last of six", x.lose(0), x.lose(1), 5, 2);
            // Two that hide two each.
            RocketPrint y = of("star 5 0 9;star 5 3 1;star 5 6 1;star 5 20 9;star 5 23 1;star 5 26 1;reader 5 0;");
            both("the first of two", y.lose(0), y.lose(1), 0, 3);
        });
        says.promise(26, "BAD;", () -> {
            bounds("lose", 0, 1, full()::lose);
            bounds("lose of none", 0, 1, new RocketPrint()::lose);
        });
        says.promise(26, "NONE: none.", () -> {
            String[] none = {"", "reader 5 0;", "star 5 0 9;star 5 3 1;star 5 6 1;", "star 5 0 1;reader 5 0;",
                "star 5 0 9;star 5 3 1;star 5 6 1;reader 5 0;damp 9;"};
            for (String text : none) {
                RocketPrint x = of(text);
                both("'" + text + "'", x.lose(0), x.lose(1), NONE, NONE);
            }
        });
    }

    private void need() {
        says.promise(27, "The least POWER of a WORK by which a READER READS it WHOLE.", () -> {
            for (int at = 0; at <= 11; at++) {
                String reader = "reader " + at + " 0;";
                due("star " + at + " off", of("star 0 0 5;" + reader).need(0, 0), at > 9 ? NONE : Math.max(1, at));
                due("fountain " + at + " off", of("fountain 0 0 5;" + reader).need(0, 0), at > 9 ? NONE : Math.max(1, at));
                due("wheel " + at + " off", of("wheel 0 0 5;" + reader).need(0, 0), at > 4 ? NONE : Math.max(1, 2 * at));
                due("squib " + at + " off, LASTS 1 at least", of("squib 0 0 5;" + reader).need(0, 0), Math.max(2, at - 2));
            }
            for (int damp = 0; damp <= 9; damp++) {
                due("DAMP " + damp, of("star 5 0 5;reader 5 0;damp " + damp + ";").need(0, 0), damp == 9 ? NONE : damp + 1);
            }
            RocketPrint x = of("star 5 0 5;star 5 4 5;reader 5 0;");
            due("a greater POWER would not do for the second; a lesser neither", x.need(1, 0), NONE);
            due("POWER is as it was", x.work(1, 3), 5);
            x.alter(1, 2, 5);
            due("it begins when the first has ended", x.need(1, 0), 1);
        });
        says.promise(27, "BAD;", () -> {
            RocketPrint x = full();
            bounds("need(v, 3)", 0, 5, w -> x.need(w, 3));
            bounds("need(5, v)", 0, 3, r -> x.need(5, r));
            noneIsThere("need, no WORK", w -> of("reader 0 0;").need(w, 0));
            noneIsThere("need, no READER", r -> of("star 0 0 1;").need(0, r));
        });
        says.promise(27, "NONE: by none.", () -> {
            due("coughs always", of("star 5 1 1;reader 5 1;").need(0, 0), NONE);
            due("coughs in its first minute", of("star 5 9 1;reader 5 9;").need(0, 0), NONE);
            due("coughs behind it", of("star 5 9 1;reader 5 5;").need(0, 0), 1);
            // 3 off it must last 3 minutes, 1 to 3; 4 off it lasts 1 to 4.
            due("coughs in 4, 3 off", of("star 5 1 1;reader 8 4;").need(0, 0), 3);
            due("coughs in 4, 4 off", of("star 5 1 1;reader 9 4;").need(0, 0), NONE);
            due("10 off", of("star 0 1 1;reader 10 0;").need(0, 0), NONE);
            due("too damp", of("star 5 1 1;reader 5 0;damp 9;").need(0, 0), NONE);
        });
    }

    private void dry() {
        says.promise(28, "The greatest DAMP by which a READER READS anything.", () -> {
            for (int power = 1; power <= 9; power++) {
                due("POWER " + power, of("star 5 0 " + power + ";reader 5 0;damp 9;").dry(0), power - 1);
            }
            RocketPrint x = of("star 5 0 4;star 0 0 9;star 11 0 6;reader 11 0;reader 10 0;damp 3;");
            due("the one of 6", x.dry(0), 5);
            x.leave(1);
            x.move(0, 0, 9);
            due("the one of 9, 9 off", x.dry(0), 8);
            due("DAMP is as it was", x.rule(3), 3);
        });
        says.promise(28, "BAD;", () -> {
            bounds("dry", 0, 3, full()::dry);
            noneIsThere("dry", r -> of("star 5 0 9;").dry(r));
        });
        says.promise(28, "NONE: by none.", () -> {
            due("no WORK", of("reader 5 0;").dry(0), NONE);
            due("too far", of("star 5 0 1;reader 7 0;").dry(0), NONE);
            due("coughs always", of("star 5 0 9;reader 5 1;").dry(0), NONE);
            due("LASTS 0", of("squib 5 0 1;reader 5 0;").dry(0), NONE);
            due("0 is not none", of("star 5 0 1;reader 5 0;").dry(0), 0);
        });
    }

    private void kind() {
        says.promise(29, "The KIND of a WORK by which READERS READ it in most minutes, summed, of several the first (what 0), "
                + "in how many (1).", () -> {
            RocketPrint x = of("squib 5 0 9;reader 5 0;reader 5 0;reader 5 0;reader 5 0;");
            both("wheel, 18 by all four", x.kind(0, 0), x.kind(0, 1), 1, 72);
            due("KIND is as it was", x.work(0, 0), 3);
            RocketPrint y = of("wheel 0 0 9;reader 9 0;reader 9 0;");
            both("star, 9 off", y.kind(0, 0), y.kind(0, 1), 0, 18);
            RocketPrint z = of("wheel 0 0 9;reader 11 0;");
            both("squib, 11 off", z.kind(0, 0), z.kind(0, 1), 3, 4);
            RocketPrint u = of("squib 5 0 4;reader 5 0;reader 8 0;");
            // star 4 and 4, wheel 8 and 0
            both("star, the first of two", u.kind(0, 0), u.kind(0, 1), 0, 8);
            u.leave(0);
            both("no READER", u.kind(0, 0), u.kind(0, 1), 0, 0);
            RocketPrint v = of("squib 5 0 4;reader 5 0;damp 4;");
            both("too damp", v.kind(0, 0), v.kind(0, 1), 0, 0);
        });
        says.promise(29, "BAD.", () -> {
            RocketPrint x = full();
            bounds("kind(v, 0)", 0, 5, w -> x.kind(w, 0));
            bounds("kind(v, 1)", 0, 5, w -> x.kind(w, 1));
            bounds("kind(5, v)", 0, 1, what -> x.kind(5, what));
            noneIsThere("kind", w -> of("reader 0 0;").kind(w, 0));
        });
    }

    private void luckIs(RocketPrint x, int v, int r, int w, long top, long bottom) {
        fraction("luck(" + v + ", " + r + ", " + w + ")", x.luck(v, r, w, 0), x.luck(v, r, w, 1), top, bottom);
    }

    private void luck() {
        says.promise(30, "Each WORK is a damp one by v out of ten (0 to 10), by itself (it does not GO UP):", () -> {
            int[][] one = {{1, 1}, {9, 10}, {4, 5}, {7, 10}, {3, 5}, {1, 2}, {2, 5}, {3, 10}, {1, 5}, {1, 10}, {0, 1}};
            int[][] two = {{0, 1}, {9, 100}, {4, 25}, {21, 100}, {6, 25}, {1, 4}, {6, 25}, {21, 100}, {4, 25}, {9, 100}, {0, 1}};
            RocketPrint x = of("star 5 0 3;star 5 0 4;reader 5 0;");
            for (int v = 0; v <= 10; v++) {
                luckIs(x, v, 0, 0, one[v][0], one[v][1]);
                luckIs(x, v, 0, 1, two[v][0], two[v][1]);
            }
            x.damp(3);
            // DAMP is what it is: the first does not GO UP anyhow, so it hides nothing.
            for (int v = 0; v <= 10; v++) {
                luckIs(x, v, 0, 0, 0, 1);
                luckIs(x, v, 0, 1, one[v][0], one[v][1]);
            }
            x.damp(4);
            luckIs(x, 0, 0, 1, 0, 1);
        });
        says.promise(30, "that a READER READS a WORK WHOLE: 0, 1.", () -> {
            RocketPrint x = of("star 5 1 5;".repeat(6) + "reader 5 0;reader 5 6;reader 5 5;reader 11 0;");
            luckIs(x, 9, 0, 5, 59049, 1000000);
            luckIs(x, 1, 0, 5, 9, 1000000);
            luckIs(x, 9, 1, 5, 59049, 1000000);
            luckIs(x, 9, 2, 5, 0, 1);
            luckIs(x, 9, 3, 5, 0, 1);
            luckIs(x, 0, 0, 0, 1, 1);
            luckIs(x, 0, 0, 1, 0, 1);
            luckIs(x, 10, 0, 5, 0, 1);
            luckIs(of("squib 5 1 1;reader 5 0;"), 0, 0, 0, 0, 1);
            // One that ends when it begins, and one that begins when it has ended, hide nothing.
            RocketPrint y = of("star 5 0 5;star 5 10 5;star 5 5 5;reader 5 0;");
            luckIs(y, 5, 0, 2, 1, 2);
            y.alter(0, 2, 1);
            luckIs(y, 5, 0, 2, 1, 4);
            y.alter(1, 2, 9);
            luckIs(y, 5, 0, 2, 1, 8);
            // The wheel is nearer, but 0 WIDE: he is 1 off.
            luckIs(of("wheel 5 0 1;star 8 0 3;reader 6 0;"), 5, 0, 1, 1, 2);
            luckIs(of("wheel 5 0 1;star 8 0 3;reader 5 0;"), 5, 0, 1, 1, 4);
        });
        says.promise(30, "BAD.", () -> {
            RocketPrint x = full();
            for (int what = 0; what <= 1; what++) {
                int it = what;
                bounds("luck(v, 0, 0, " + what + ")", 0, 10, v -> x.luck(v, 0, 0, it));
                bounds("luck(5, v, 5, " + what + ")", 0, 3, r -> x.luck(5, r, 5, it));
                bounds("luck(5, 3, v, " + what + ")", 0, 5, w -> x.luck(5, 3, w, it));
            }
            bounds("luck(5, 3, 5, v)", 0, 1, what -> x.luck(5, 3, 5, what));
            noneIsThere("luck, no READER", r -> of("star 0 0 1;").luck(5, r, 0, 0));
            noneIsThere("luck, no WORK", w -> of("reader 0 0;").luck(5, 0, w, 0));
        });
    }

    private void meanIs(RocketPrint x, int v, long top, long bottom) {
        fraction("mean(" + v + ")", x.mean(v, 0), x.mean(v, 1), top, bottom);
    }

    private void mean() {
        says.promise(31, "Likewise, the mean of minutes in which READERS READ, summed: 0, 1.", () -> {
            RocketPrint x = lit("reader 5 0;".repeat(4));
            meanIs(x, 0, 308, 1);
            // Of 77 minutes 13 have two WORKS: 64 halves and 13 times three quarters, by four.
            meanIs(x, 5, 167, 1);
            meanIs(x, 10, 0, 1);
            x.leave(1);
            meanIs(x, 5, 167, 4);
            x.damp(9);
            meanIs(x, 0, 0, 1);
            RocketPrint y = of("star 5 0 1;".repeat(6) + "reader 5 0;");
            meanIs(y, 0, 1, 1);
            meanIs(y, 9, 468559, 1000000);
            meanIs(y, 1, 999999, 1000000);
            y.move(0, 1, 9);
            meanIs(y, 9, 0, 1);
            // The wheel, UP in 0 and 1, is 0 WIDE: one is 1 off it, the other is not; both see the star, UP in 0 to 2.
            meanIs(of("wheel 5 0 1;star 8 0 3;reader 6 0;"), 5, 3, 2);
            meanIs(of("wheel 5 0 1;star 8 0 3;reader 5 0;"), 5, 2, 1);
            meanIs(new RocketPrint(), 5, 0, 1);
            meanIs(of("star 5 0 9;"), 5, 0, 1);
            meanIs(of("reader 5 0;"), 5, 0, 1);
        });
        says.promise(31, "BAD.", () -> {
            RocketPrint x = full();
            bounds("mean(v, 0)", 0, 10, v -> x.mean(v, 0));
            bounds("mean(v, 1)", 0, 10, v -> x.mean(v, 1));
            bounds("mean(5, v)", 0, 1, what -> x.mean(5, what));
            bounds("mean of none", 0, 10, v -> new RocketPrint().mean(v, 0));
        });
    }
}
