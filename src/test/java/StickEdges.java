import java.math.BigInteger;

/** SEEN, what is told from sticks, nights by a seed: promises 32 to 38. */
final class StickEdges extends Edges {
    /** Where the STICK of a star of 1 from 5 comes down, by WIND: everywhere else. */
    private static final int[] STICKS = {0, 2, 3, 4, 5, 6, 7, 8, 10};

    StickEdges(Sentences says) {
        super(says);
    }

    @Override
    void all() {
        seen();
        seeAndForget();
        winds();
        froms();
        kinds();
        ask();
        drift();
    }

    private void seen() {
        says.term("SEEN (6): the STICK of a WORK came down at a PLACE", () -> {
            RocketPrint x = full();
            for (int n = 1; n <= 6; n++) {
                due("see, " + n, x.see(n - 1, 11), n);
            }
            due("see, 7", x.see(0, 0), FULL);
            RocketPrint y = of("star 5 0 1;star 5 0 1;");
            y.see(0, 8);
            due("one by itself", y.winds(), 1 << 7);
            y.see(0, 8);
            due("twice the same", y.winds(), 1 << 7);
            due("which are two", y.count(0), 2);
            y.see(1, 8);
            due("of another, as well", y.winds(), 1 << 7);
            y.see(1, 7);
            due("at two PLACES it can not be", y.winds(), 0);
        });
        says.term("(not so, if there is no such WORK any longer).", () -> {
            RocketPrint x = of("star 5 0 1;star 5 0 1;");
            x.see(1, 5);
            due("as SEEN", x.winds(), 1 << 4);
            x.burn(1);
            due("no WIND", x.winds(), 0);
            due("no PLACE", x.froms(0), 0);
            due("no KIND", x.kinds(0), 0);
            due("nothing to ask", x.ask(0), NONE);
            due("it is SEEN yet", x.count(0), 1);
            due("nor can it be SEEN again", x.see(1, 5), BAD);
            x.write(0, 5, 30, 1);
            due("there is such a WORK again", x.winds(), 1 << 4);
            x.keep(0);
            x.burn(0);
            due("none at all", x.winds(), 0);
            x.back(0);
            due("all as it was", x.winds(), 1 << 4);
            x.burn(1);
            x.forget(0);
            due("nothing is SEEN", x.winds(), 511);
        });
    }

    private void seeAndForget() {
        says.promise(32, "SEEN: the STICK of a WORK came down at PLACE p: how many are.", () -> {
            RocketPrint x = full();
            int[][] ends = {{0, 0}, {5, 11}, {5, 0}, {0, 11}, {3, 3}, {3, 3}};
            for (int i = 0; i < 6; i++) {
                due("see", x.see(ends[i][0], ends[i][1]), i + 1);
                due("SEEN", x.count(0), i + 1);
            }
            for (int p = 0; p <= 11; p++) {
                RocketPrint y = of("star " + p + " 0 1;");
                due("see at " + p, y.see(0, p), 1);
                due("no wind, for one", y.winds() >> 4 & 1, 1);
            }
        });
        says.promise(32, "BAD;", () -> {
            RocketPrint x = full();
            bounds("see(v, 0)", 0, 5, w -> x.see(w, 0));
            bounds("see(5, v)", 0, 11, p -> x.see(5, p));
            due("four are SEEN", x.count(0), 4);
            x.see(0, 0);
            x.see(0, 0);
            bounds("see(0, v), though FULL", 0, 11, p -> x.see(0, p));
            noneIsThere("see", w -> new RocketPrint().see(w, 0));
        });
        says.promise(32, "FULL.", () -> {
            RocketPrint x = of("star 5 0 1;");
            for (int n = 1; n <= 6; n++) {
                due("see", x.see(0, 5), n);
            }
            due("see, 7", x.see(0, 0), FULL);
            due("SEEN", x.count(0), 6);
            due("none came", x.winds(), 1 << 4);
            x.forget(5);
            due("there is room for one", x.see(0, 5), 6);
            due("and no more", x.see(0, 5), FULL);
        });
        says.promise(33, "SEEN are the first n alone: how many there were.", () -> {
            due("forget(0) of none", new RocketPrint().forget(0), 0);
            for (int n = 0; n <= 6; n++) {
                RocketPrint x = of("star 5 0 1;");
                for (int i = 0; i < 6; i++) {
                    x.see(0, i < 3 ? 8 : 7);
                }
                due("forget(" + n + ")", x.forget(n), 6);
                due("SEEN", x.count(0), n);
                due("the first", x.winds(), n == 0 ? 511 : n <= 3 ? 1 << 7 : 0);
            }
        });
        says.promise(33, "BAD (n above that, too).", () -> {
            for (int v : outside(0, 0)) {
                due("forget(" + v + ") of none", new RocketPrint().forget(v), BAD);
            }
            RocketPrint x = full();
            for (int i = 0; i < 6; i++) {
                x.see(0, 0);
            }
            bounds("forget of 6", 0, 6, x::forget);
            x.see(0, 0);
            bounds("forget of 1", 0, 1, x::forget);
        });
    }

    private void winds() {
        says.promise(34, "WINDS (bits 0 to 8) by which, all else as it is, all is as SEEN.", () -> {
            due("nothing is SEEN, nothing is there", new RocketPrint().winds(), 511);
            due("nothing is SEEN", full().winds(), 511);
            for (int p = 0; p <= 11; p++) {
                RocketPrint x = of("star 5 0 1;wind 7;damp 9;");
                x.see(0, p);
                int bits = 0;
                for (int wind = 0; wind <= 8; wind++) {
                    bits |= STICKS[wind] == p ? 1 << wind : 0;
                }
                due("SEEN at " + p, x.winds(), bits);
                due("WIND is as it was", x.rule(2), 7);
            }
            RocketPrint y = of("wheel 0 0 9;wheel 11 0 9;");
            y.see(0, 0);
            due("at 0, by WIND 0 to 4", y.winds(), 31);
            y.see(1, 11);
            due("at 11, by WIND 4 to 8", y.winds(), 16);
            y.forget(0);
            y.see(1, 11);
            due("at 11, by WIND 4 to 8", y.winds(), 496);
        });
    }

    private void froms() {
        says.promise(35, "PLACES FROM which a WORK may have been put up (bits 0 to 11), all else as it is, so that all is as SEEN.", () -> {
            due("nothing is SEEN", full().froms(5), 4095);
            for (int p = 0; p <= 11; p++) {
                RocketPrint x = of("star 5 0 1;star 5 0 1;");
                x.see(0, p);
                due("no wind, at " + p, x.froms(0), 1 << p);
                due("of the other, which is not SEEN", x.froms(1), p == 5 ? 4095 : 0);
                due("FROM is as it was", x.work(0, 1), 5);
                // By 8: 5 more than FROM, 11 from 6 on. By 0: 5 less, 0 up to 5.
                x.blow(8);
                due("by 8, at " + p, x.froms(0), p < 5 ? 0 : p == 11 ? 4032 : 1 << p - 5);
                x.blow(0);
                due("by 0, at " + p, x.froms(0), p > 6 ? 0 : p == 0 ? 63 : 1 << p + 5);
            }
            RocketPrint y = of("star 5 0 1;star 5 0 1;");
            y.see(0, 3);
            y.see(1, 4);
            due("another is not as SEEN", y.froms(0), 0);
            y.alter(1, 1, 4);
            due("now it is", y.froms(0), 8);
        });
        says.promise(35, "BAD.", () -> {
            bounds("froms", 0, 5, full()::froms);
            noneIsThere("froms", new RocketPrint()::froms);
        });
    }

    private void kinds() {
        says.promise(36, "KINDS of a WORK (bits) by which, all else as it is, all is as SEEN.", () -> {
            due("nothing is SEEN", full().kinds(5), 15);
            // Of 5, by BLOW 1: star 5 by 4, wheel 10 by 4, fountain 3 by 4, squib 2 by 4 further than 6.
            int[] want = {0, 0, 0, 0, 0, 0, 12, 1, 2, 0, 0, 0};
            for (int p = 0; p <= 11; p++) {
                RocketPrint x = of("squib 5 0 5;star 0 0 1;wind 5;");
                x.see(0, p);
                due("at " + p, x.kinds(0), want[p]);
                due("of the other, which is not SEEN", x.kinds(1), p == 6 ? 15 : 0);
                due("KIND is as it was", x.work(0, 0), 3);
            }
            RocketPrint y = of("star 11 0 9;wind 8;");
            y.see(0, 11);
            due("all four at the end", y.kinds(0), 15);
            RocketPrint z = of("star 5 0 1;wind 8;");
            // LASTS 1, 2, 1, 0: 10, 11, 10, 9
            int[] bits = {8, 5, 2};
            for (int i = 0; i < 3; i++) {
                z.forget(0);
                z.see(0, 9 + i);
                due("at " + (9 + i), z.kinds(0), bits[i]);
            }
        });
        says.promise(36, "BAD.", () -> {
            bounds("kinds", 0, 5, full()::kinds);
            noneIsThere("kinds", new RocketPrint()::kinds);
        });
    }

    private void asks(String call, RocketPrint x, int which, int left) {
        due(call + ", ask(0)", x.ask(0), which);
        due(call + ", ask(1)", x.ask(1), left);
    }

    private void ask() {
        // From 0 a star of 1 is at 0 by five WINDS; from 5 one of 4 is at 0 by two, and at 11 by two.
        String five = "star 0 0 1;";
        String two = "star 5 0 4;";
        String one = "star 5 0 1;";
        says.promise(37, "The WORK whose STICK is to be looked for so that of winds() fewest are left at the worst,", () -> {
            asks("five", of(five), 0, 5);
            asks("five, two", of(five + two), 1, 2);
            asks("two, five", of(two + five), 0, 2);
            asks("five, two, one", of(five + two + one), 2, 1);
            asks("the last of six", of(five.repeat(5) + one), 5, 1);
            RocketPrint x = of(one + five + two);
            // Left by what is SEEN: 0 to 4. Those at 0 by the first two tell nothing more.
            x.see(1, 0);
            due("winds()", x.winds(), 31);
            asks("of those that are left", x, 0, 1);
            x.alter(0, 1, 0);
            asks("of those that are left", x, 2, 2);
            // 4 to 8 are left; the second would be at 0 by 0 to 4, of which 4 alone is left.
            RocketPrint y = of("star 11 0 1;star 0 0 1;");
            y.see(0, 11);
            due("winds()", y.winds(), 496);
            asks("of those that are left", y, 1, 1);
        });
        says.promise(37, "fewer than now,", () -> {
            RocketPrint x = of(five + two);
            x.see(1, 0);
            due("winds()", x.winds(), 3);
            asks("two are left and none tells them apart", x, NONE, NONE);
            x.write(0, 5, 0, 1);
            asks("one does", x, 2, 1);
            x.see(2, 2);
            due("winds()", x.winds(), 2);
            asks("one is left", x, NONE, NONE);
        });
        says.promise(37, "the first (what 0), how many these are (1).", () -> {
            asks("six alike", of(one.repeat(6)), 0, 1);
            asks("the first of the best", of(five + two + one + one), 2, 1);
        });
        says.promise(37, "BAD;", () -> {
            bounds("ask", 0, 1, full()::ask);
            bounds("ask of none", 0, 1, new RocketPrint()::ask);
        });
        says.promise(37, "NONE: none.", () -> {
            asks("no WORK", new RocketPrint(), NONE, NONE);
            RocketPrint x = of(one);
            x.see(0, 1);
            due("winds()", x.winds(), 0);
            asks("no WIND is left", x, NONE, NONE);
            RocketPrint y = of(one);
            y.see(0, 5);
            asks("one WIND is left", y, NONE, NONE);
        });
    }

    private static final String NIGHT = "star 9 0 3;wheel 3 2 7;fountain 6 1 9;squib 0 4 5;star 5 9 1;reader 5 0;reader 0 3;reader 9 0;";
    private static final int[] SEEDS = {0, 1, -1, LOW, HIGH, LOW + 1, 1 << 30, 12345};

    /** Seeds by which the first night gets what is told, with bit 31 and the lowest bits as they may be. */
    private static int seedOf(int got, int rest) {
        BigInteger all = BigInteger.ONE.shiftLeft(32);
        BigInteger next = BigInteger.valueOf((got << 16 | rest) & 0xffffffffL);
        return next.subtract(BigInteger.valueOf(12345)).multiply(BigInteger.valueOf(1103515245).modInverse(all)).mod(all).intValue();
    }

    private void drift() {
        says.promise(38, "By itself (as it would be; nothing is changed),", () -> {
            RocketPrint x = of(NIGHT + "wind 7;damp 8;");
            int minutes = x.rule(4);
            for (int seed : SEEDS) {
                int was = x.drift(seed, 60, 1);
                due("asked again", x.drift(seed, 60, 1), was);
                due("WIND", x.rule(2), 7);
                due("DAMP", x.rule(3), 8);
                due("minutes", x.rule(4), minutes);
            }
            due("WORKS", x.rule(0), 5);
            due("READERS", x.rule(1), 3);
            // WIND 0 and DAMP 0 in the night that follows seed 0: what there is is what has just been changed.
            RocketPrint y = new RocketPrint();
            y.write(0, 9, 0, 3);
            due("no READER", y.drift(0, 1, 1), 0);
            y.come(5, 0);
            due("one READER", y.drift(0, 1, 1), 3);
            y.alter(0, 3, 5);
            due("a POWER of 5", y.drift(0, 1, 1), 5);
            y.keep(0);
            y.move(0, 1, 1);
            due("who coughs always", y.drift(0, 1, 1), 0);
            y.back(0);
            due("as it was", y.drift(0, 1, 0), 1);
            y.burn(0);
            due("no WORK", y.drift(0, 1, 0), 0);
        });
        says.promise(38, "n NIGHTS (1 to 60) by a seed:", () -> {
            RocketPrint x = lit("reader 5 0;");
            x.alter(0, 3, 9);
            bounds("drift(0, v, 0)", 1, 60, n -> x.drift(0, n, 0));
            bounds("drift(0, v, 1)", 1, 60, n -> x.drift(0, n, 1));
            for (int seed : SEEDS) {
                holds("any seed is taken", x.drift(seed, 60, 1) >= 0);
            }
        });
        says.promise(38, "ahead of each the seed becomes seed times 1103515245 and 12345; bits 16 to 30 of it are got:", this::seeds);
        says.promise(38, "WIND is got modulo 9, DAMP is got by 16 (down) modulo 10:", () -> {
            int[] gots = {0, 8, 9, 15, 16, 159, 160, 32767};
            int[] winds = {0, 8, 0, 6, 7, 6, 7, 7};
            int[] damps = {0, 0, 0, 0, 1, 9, 0, 7};
            for (int i = 0; i < gots.length; i++) {
                RocketPrint x = of(NIGHT);
                RocketPrint y = of(NIGHT);
                y.blow(winds[i]);
                y.damp(damps[i]);
                for (int rest : new int[] {0, 65535, LOW, LOW + 65535}) {
                    int seed = seedOf(gots[i], rest);
                    due("WHOLE, got " + gots[i], x.drift(seed, 1, 0), y.rule(5));
                    due("minutes, got " + gots[i], x.drift(seed, 1, 1), y.rule(4));
                }
            }
            // Each WIND and each DAMP by itself: a wheel of 9 and a READER tell in how many minutes.
            for (int damp = 0; damp <= 9; damp++) {
                for (int power = 1; power <= 9; power++) {
                    RocketPrint z = of("wheel 5 0 " + power + ";reader 5 0;");
                    int got = 16 * damp + (13 + 2 * damp) % 9;
                    due("WIND 4, DAMP " + damp + ", POWER " + power, z.drift(seedOf(got, 0), 1, 1), power > damp ? 2 * power : 0);
                }
            }
            for (int wind = 0; wind <= 8; wind++) {
                for (int at = 0; at <= 11; at++) {
                    RocketPrint z = of("wheel 5 0 1;reader " + at + " 0;");
                    due("WIND " + wind + ", AT " + at, z.drift(seedOf(wind, 0), 1, 1), at == wind + 1 ? 2 : 0);
                }
            }
        });
        says.promise(38, "how many times a READER READS a WORK WHOLE in all of them (what 0), minutes in which READERS READ, "
                + "summed over all of them (1).", () -> {
            for (int seed : new int[] {7, -3, LOW, HIGH}) {
                sums(seed);
            }
            due("WHOLE, of none", new RocketPrint().drift(1, 60, 0), 0);
            due("minutes, of none", new RocketPrint().drift(1, 60, 1), 0);
            due("minutes, of no READER", of("star 5 0 9;").drift(1, 60, 1), 0);
        });
        says.promise(38, "BAD.", () -> {
            RocketPrint x = full();
            for (int seed : SEEDS) {
                bounds("drift(" + seed + ", v, 0)", 1, 60, n -> x.drift(seed, n, 0));
                bounds("drift(" + seed + ", 1, v)", 0, 1, what -> x.drift(seed, 1, what));
            }
            due("both", x.drift(0, 0, 2), BAD);
        });
    }

    /** Each night's seed is told without any bound, and only then are its bits got. */
    private void seeds() {
        for (int first : SEEDS) {
            BigInteger seed = BigInteger.valueOf(first);
            RocketPrint x = of(NIGHT);
            RocketPrint y = of(NIGHT);
            int sum = 0;
            for (int n = 1; n <= 60; n++) {
                seed = seed.multiply(BigInteger.valueOf(1103515245)).add(BigInteger.valueOf(12345));
                int got = seed.shiftRight(16).mod(BigInteger.valueOf(32768)).intValue();
                y.blow(got % 9);
                y.damp(got / 16 % 10);
                sum += y.rule(4);
                due("drift(" + first + ", " + n + ", 1)", x.drift(first, n, 1), sum);
            }
        }
    }

    /** n NIGHTS and the next one of all are n and 1 more. */
    private void sums(int first) {
        RocketPrint x = of(NIGHT);
        RocketPrint y = of(NIGHT);
        int seed = first;
        int wholes = 0;
        int minutes = 0;
        for (int n = 1; n <= 60; n++) {
            wholes += y.drift(seed, 1, 0);
            minutes += y.drift(seed, 1, 1);
            seed = seed * 1103515245 + 12345;
            due("drift(" + first + ", " + n + ", 0)", x.drift(first, n, 0), wholes);
            due("drift(" + first + ", " + n + ", 1)", x.drift(first, n, 1), minutes);
        }
    }
}
