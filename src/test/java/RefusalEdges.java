import java.util.ArrayList;
import java.util.List;

/** What is refused changes nothing, nor does a question: told by objects that are made alike. */
final class RefusalEdges extends Edges {
    private static final int[] ANY = {LOW, HIGH};

    private interface Asked {
        long of(RocketPrint x, int[] a);
    }

    /** A call and the bounds of each of its numbers. */
    private record Call(String name, Asked asked, int[]... bounds) {
        String told(int[] a) {
            StringBuilder out = new StringBuilder(name).append('(');
            for (int i = 0; i < a.length; i++) {
                out.append(i == 0 ? "" : ", ").append(a[i]);
            }
            return out.append(')').toString();
        }
    }

    private enum Stage { NEW, SOME, FULL }

    RefusalEdges(Sentences says) {
        super(says);
    }

    @Override
    void all() {
        says.term("what is refused changes nothing (but THE TAPE, as told).", () -> {
            for (Stage stage : Stage.values()) {
                List<Long> as = Probe.of(made(stage));
                // What made it took some 230 calls at most.
                holds("an object is used for 512 calls at most, not " + as.size(), as.size() < 270);
                for (Call call : calls(stage)) {
                    outOfBounds(stage, call, as);
                }
                refusedElse(stage, as);
                questions(stage, as);
                refusedTexts(stage);
            }
        });
    }

    private static RocketPrint made(Stage stage) {
        return stage == Stage.NEW ? new RocketPrint() : stage == Stage.SOME ? some() : fullOfAll();
    }

    private static RocketPrint some() {
        RocketPrint x = new RocketPrint();
        tell(x, "star 1 2 3;wheel 4 5 6;reader 7 8;reader 4 1;wind 5;damp 2;");
        tell(x, "!");
        x.keep(1);
        x.alter(0, 1, 5);
        x.see(0, x.work(0, 7));
        x.see(1, 7);
        x.sheet(0, 0, 9);
        x.lay(0, 3, 4);
        x.sheet(2, 1, 40);
        x.lay(2, 1, 7);
        x.lay(2, 3, 9);
        x.lay(2, 39, 3);
        x.read(3, 0, 0, 1);
        feedAll(x, "wind 7;");
        return x;
    }

    private static RocketPrint fullOfAll() {
        RocketPrint x = full();
        x.keep(0);
        x.blow(6);
        x.alter(5, 1, 3);
        x.keep(1);
        x.damp(3);
        for (int w = 0; w < 6; w++) {
            x.see(w, x.work(w, 7));
        }
        for (int k = 0; k < 4; k++) {
            x.sheet(k, k % 3, 40);
            for (int f = 0; f < 40; f += 12) {
                x.lay(k, f + 1, k + f / 12);
                x.lay(k, f + 3, 9 - f / 12);
            }
        }
        x.read(0, 1, 0, 1);
        feedAll(x, "squib 1 2 3;damp 7;" + " ".repeat(140) + " ");
        return x;
    }

    private static int[] to(int least, int most) {
        return new int[] {least, most};
    }

    private static List<Call> calls(Stage stage) {
        RocketPrint x = made(stage);
        int[] w = to(0, x.rule(0) - 1);
        int[] r = to(0, x.rule(1) - 1);
        int[] two = to(0, 1);
        int[] place = to(0, 11);
        List<Call> all = new ArrayList<>();
        all.add(new Call("feed", (o, a) -> o.feed(a[0]), to(0, 127)));
        all.add(new Call("end", (o, a) -> o.end(a[0]), to(0, x.count(2))));
        all.add(new Call("rule", (o, a) -> o.rule(a[0]), to(0, 5)));
        all.add(new Call("work", (o, a) -> o.work(a[0], a[1]), w, to(0, 8)));
        all.add(new Call("reader", (o, a) -> o.reader(a[0], a[1]), r, to(0, 3)));
        all.add(new Call("reads", (o, a) -> o.reads(a[0], a[1]), r, w));
        all.add(new Call("looks", (o, a) -> o.looks(a[0], a[1]), r, to(0, 79)));
        all.add(new Call("sky", (o, a) -> o.sky(a[0]), to(0, 79)));
        all.add(new Call("alter to 1", (o, a) -> o.alter(a[0], a[1], 1), w, to(0, 3)));
        all.add(new Call("alter KIND", (o, a) -> o.alter(a[0], 0, a[1]), w, to(0, 3)));
        all.add(new Call("alter FROM", (o, a) -> o.alter(a[0], 1, a[1]), w, place));
        all.add(new Call("alter MINUTE", (o, a) -> o.alter(a[0], 2, a[1]), w, to(0, 59)));
        all.add(new Call("alter POWER", (o, a) -> o.alter(a[0], 3, a[1]), w, to(1, 9)));
        all.add(new Call("move to 1", (o, a) -> o.move(a[0], a[1], 1), r, two));
        all.add(new Call("move AT", (o, a) -> o.move(a[0], 0, a[1]), r, place));
        all.add(new Call("move COUGHS", (o, a) -> o.move(a[0], 1, a[1]), r, to(0, 9)));
        all.add(new Call("blow", (o, a) -> o.blow(a[0]), to(0, 8)));
        all.add(new Call("damp", (o, a) -> o.damp(a[0]), to(0, 9)));
        all.add(new Call("write", (o, a) -> o.write(a[0], a[1], a[2], a[3]), to(0, 3), place, to(0, 59), to(1, 9)));
        all.add(new Call("come", (o, a) -> o.come(a[0], a[1]), place, to(0, 9)));
        all.add(new Call("burn", (o, a) -> o.burn(a[0]), to(0, x.rule(0))));
        all.add(new Call("leave", (o, a) -> o.leave(a[0]), to(0, x.rule(1))));
        all.add(new Call("see", (o, a) -> o.see(a[0], a[1]), w, place));
        all.add(new Call("forget", (o, a) -> o.forget(a[0]), to(0, x.count(0))));
        all.add(new Call("keep", (o, a) -> o.keep(a[0]), two));
        all.add(new Call("back", (o, a) -> o.back(a[0]), two));
        all.add(new Call("sheet", (o, a) -> o.sheet(a[0], a[1], a[2]), to(0, 3), to(0, 2), to(LOW, 40)));
        all.add(new Call("lay", (o, a) -> o.lay(a[0], a[1], a[2]), to(0, 3), ANY, ANY));
        all.add(new Call("read", (o, a) -> o.read(a[0], a[1], a[2], a[3]), to(0, 3), to(0, 2), ANY, to(0, 10)));
        all.add(new Call("count", (o, a) -> o.count(a[0]), to(0, 5)));
        all.addAll(askedOnly(w, r, two));
        return all;
    }

    /** Calls that tell what would be, and change nothing whatever they answer. */
    private static List<Call> askedOnly(int[] w, int[] r, int[] two) {
        return List.of(
                new Call("first", (o, a) -> o.first(a[0]), r),
                new Call("peak", (o, a) -> o.peak(a[0], a[1]), w, two),
                new Call("when", (o, a) -> o.when(a[0], a[1]), w, two),
                new Call("stand", (o, a) -> o.stand(a[0], a[1]), r, two),
                new Call("swap", (o, a) -> o.swap(a[0]), two),
                new Call("lose", (o, a) -> o.lose(a[0]), two),
                new Call("need", (o, a) -> o.need(a[0], a[1]), w, r),
                new Call("dry", (o, a) -> o.dry(a[0]), r),
                new Call("kind", (o, a) -> o.kind(a[0], a[1]), w, two),
                new Call("luck", (o, a) -> o.luck(a[0], a[1], a[2], a[3]), to(0, 10), r, w, two),
                new Call("mean", (o, a) -> o.mean(a[0], a[1]), to(0, 10), two),
                new Call("froms", (o, a) -> o.froms(a[0]), w),
                new Call("kinds", (o, a) -> o.kinds(a[0]), w),
                new Call("ask", (o, a) -> o.ask(a[0]), two),
                new Call("drift", (o, a) -> o.drift(a[0], a[1], a[2]), ANY, to(1, 60), two));
    }

    /** Each number out of its bounds, while the others are at the one end of theirs, and at the other. */
    private void outOfBounds(Stage stage, Call call, List<Long> as) {
        for (int i = 0; i < call.bounds().length; i++) {
            if (call.bounds()[i] == ANY) {
                continue;
            }
            for (int end = 0; end < 2; end++) {
                int[] a = new int[call.bounds().length];
                for (int j = 0; j < a.length; j++) {
                    a[j] = call.bounds()[j][end];
                }
                int least = call.bounds()[i][0];
                for (int v : outside(least, call.bounds()[i][1])) {
                    // Where all down to the lowest int is taken, nothing is below it.
                    if (least != LOW || v > call.bounds()[i][1]) {
                        a[i] = v;
                        unchanged(stage, call, a, BAD, as);
                    }
                }
            }
        }
    }

    private void unchanged(Stage stage, Call call, int[] a, long want, List<Long> as) {
        RocketPrint x = made(stage);
        due(call.told(a), call.asked().of(x, a), want);
        holds(call.told(a) + " changes nothing of what is " + stage, Probe.of(x).equals(as));
    }

    private void refused(Stage stage, String name, Asked asked, long want, List<Long> as) {
        unchanged(stage, new Call(name, asked), new int[0], want, as);
    }

    /** Refused by STATE, FULL, a FAULT of the machine, or because write() refuses a WORK. */
    private void refusedElse(Stage stage, List<Long> as) {
        for (int n : new int[] {-1, LOW}) {
            refused(stage, "sheet, SIZE", (x, a) -> x.sheet(2, 2, n), -14, as);
        }
        if (stage == Stage.NEW) {
            refused(stage, "back(0)", (x, a) -> x.back(0), STATE, as);
            refused(stage, "back(1)", (x, a) -> x.back(1), STATE, as);
            refused(stage, "lay, NULL", (x, a) -> x.lay(0, 0, 1), -11, as);
        }
        if (stage == Stage.SOME) {
            refused(stage, "back(0)", (x, a) -> x.back(0), STATE, as);
            refused(stage, "lay, NULL", (x, a) -> x.lay(1, 0, 1), -11, as);
            refused(stage, "lay, INDEX", (x, a) -> x.lay(0, 9, 1), -12, as);
            refused(stage, "lay, INDEX", (x, a) -> x.lay(0, -1, 1), -12, as);
            refused(stage, "read, the second has POWER 0", (x, a) -> x.read(0, 0, 0, 2), -21, as);
            refused(stage, "read, the first has POWER 0", (x, a) -> x.read(2, 1, 4, 9), -20, as);
        }
        if (stage == Stage.FULL) {
            refused(stage, "feed", (x, a) -> x.feed(';'), FULL, as);
            refused(stage, "write", (x, a) -> x.write(1, 1, 1, 1), FULL, as);
            refused(stage, "come", (x, a) -> x.come(1, 1), FULL, as);
            refused(stage, "see", (x, a) -> x.see(1, 1), FULL, as);
            refused(stage, "lay, INDEX", (x, a) -> x.lay(3, 40, 1), -12, as);
            refused(stage, "lay, INDEX", (x, a) -> x.lay(0, -1, 1), -12, as);
            refused(stage, "read, there are six", (x, a) -> x.read(0, 0, 0, 1), -20, as);
        }
    }

    private void questions(Stage stage, List<Long> as) {
        RocketPrint made = made(stage);
        int[] w = to(0, made.rule(0) - 1);
        int[] r = to(0, made.rule(1) - 1);
        for (Call call : askedOnly(w, r, to(0, 1))) {
            for (int end = 0; end < 2; end++) {
                int[] a = new int[call.bounds().length];
                for (int j = 0; j < a.length; j++) {
                    a[j] = call.bounds()[j][end];
                }
                RocketPrint x = made(stage);
                call.asked().of(x, a);
                holds(call.told(a) + ", asked, changes nothing of what is " + stage, Probe.of(x).equals(as));
            }
        }
        RocketPrint x = made(stage);
        x.dark();
        x.winds();
        x.fault();
        x.torn();
        holds("dark(), winds(), fault(), torn() change nothing of what is " + stage, Probe.of(x).equals(as));
    }

    /** Of a text that is refused THE TAPE is empty, and its FAULT is told; all else stays. */
    private void refusedTexts(Stage stage) {
        String[] texts = {"?", "wind 1;damp 1;wind", "star 0 0 1;reader 0 0;squib 12", "damp 5;wind 8", "star 0 0 1;".repeat(6) + "star"};
        int[] faults = {1, 4, 3, 2, 5};
        for (int i = 0; i < texts.length; i++) {
            RocketPrint like = made(stage);
            like.end(0);
            // The same FAULT, of a text that begins no line that could be taken.
            String[] alike = {"!", "wind 0;wind", "wind 9", "x", "star 0 0 1;".repeat(6) + "wheel"};
            holds("is refused", tell(like, alike[i]) <= -10);
            RocketPrint x = made(stage);
            x.end(0);
            holds("is refused", tell(x, texts[i]) <= -10);
            due("fault()", x.fault(), faults[i]);
            due("THE TAPE is empty", x.count(2), 0);
            List<Long> was = Probe.of(made(stage));
            List<Long> is = Probe.of(x);
            holds("'" + texts[i] + "' leaves what is " + stage + " as another does", is.equals(Probe.of(like)));
            // Ahead of it stand fault(), torn(), SEEN, IMAGES, bytes; behind it what THE TAPE tells.
            int night = 5;
            int tape = is.size() - 8;
            holds("'" + texts[i] + "' leaves what is " + stage, is.subList(night, tape).equals(was.subList(night, tape)));
            holds("'" + texts[i] + "' leaves torn(), SEEN, IMAGES", is.subList(1, 4).equals(was.subList(1, 4)));
        }
    }
}
