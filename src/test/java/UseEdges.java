import java.util.List;

/** An object to the last of its 512 calls, and several beside one another. */
final class UseEdges extends Edges {
    private static final int CALLS = 512, TOLD_BY = 5, KINDS = 12, QUESTIONS = 25;

    UseEdges(Sentences says) {
        super(says);
    }

    @Override
    void all() {
        says.use("An object is used for at most 512 calls after it has been made;", () -> {
            toTheLastCall();
            theLastIsAnyCall();
            askedBehindAnother();
        });
        says.use("what later calls answer is free.", () -> {
            RocketPrint x = full();
            for (int i = 0; i < 4 * CALLS; i++) {
                x.drift(i, 1, i & 1);
                x.text();
            }
            // Which answer is free; but LANGUAGE.md, rule 7, has no call that throws.
            holds("it came to here", true);
        });
        says.promise(1, "No WORKS, no READERS;", this::besideOneAnother);
    }

    /** What leaves all as it was is called over and over: the calls that are left tell what they tell of a new one. */
    private void toTheLastCall() {
        List<Long> due = Probe.of(told());
        RocketPrint x = told();
        int left = CALLS - TOLD_BY - due.size();
        holds("there are calls to spend", left > 100);
        for (int i = 0; i < left; i++) {
            spend(x, i, left - i);
        }
        holds("all is as it was, to the last of 512 calls", Probe.of(x).equals(due));
    }

    private static RocketPrint told() {
        RocketPrint x = new RocketPrint();
        x.write(0, 3, 2, 5);
        x.write(1, 8, 4, 6);
        x.come(5, 3);
        x.keep(0);
        x.see(0, 3);
        return x;
    }

    /** One call; those that change are in pairs, of which the second undoes the first. */
    private static void spend(RocketPrint x, int i, int left) {
        switch (left == 1 && i % 2 == 0 ? 0 : i % 24) {
            case 2 -> x.alter(0, 1, 9);
            case 3 -> x.alter(0, 1, 3);
            case 4 -> x.move(0, 1, 7);
            case 5 -> x.move(0, 1, 3);
            case 6 -> x.write(3, 1, 1, 1);
            case 7 -> x.burn(2);
            case 8 -> x.come(1, 1);
            case 9 -> x.leave(1);
            case 10 -> x.see(1, 1);
            case 11 -> x.forget(1);
            case 12 -> x.feed('w');
            case 13 -> x.end(0);
            case 14 -> x.damp(9);
            case 15 -> x.back(0);
            case 16 -> x.blow(1);
            case 17 -> x.blow(4);
            case 18 -> x.drift(i, 60, 1);
            case 19 -> x.mean(3, 0);
            case 20 -> x.when(1, 0);
            case 21 -> x.read(2, 1, 0, 0);
            case 22 -> x.write(4, 0, 0, 1);
            case 23 -> x.lay(0, 0, 1);
            default -> x.dark();
        }
    }

    private void theLastIsAnyCall() {
        for (int kind = 0; kind < KINDS; kind++) {
            RocketPrint x = told();
            for (int i = TOLD_BY; i < CALLS - 1; i++) {
                x.looks(0, i % 80);
            }
            due("the 512th call, of kind " + kind, lastCall(x, kind), lastCall(told(), kind));
        }
    }

    private static long lastCall(RocketPrint x, int kind) {
        return switch (kind) {
            case 0 -> x.rule(4);
            case 1 -> x.rule(5);
            case 2 -> x.write(1, 1, 1, 1);
            case 3 -> x.come(1, 1);
            case 4 -> x.see(1, 1);
            case 5 -> x.winds();
            case 6 -> x.mean(7, 0);
            case 7 -> x.drift(-9, 60, 1);
            case 8 -> x.back(0);
            case 9 -> x.sheet(3, 2, 40);
            case 10 -> x.text();
            default -> x.feed('x');
        };
    }

    /** Whatever was asked or changed right ahead of it, a question is answered of what is told now. */
    private void askedBehindAnother() {
        for (int asked = 0; asked < QUESTIONS; asked++) {
            long want = question(asNow(), asked);
            for (int ahead = 0; ahead < QUESTIONS; ahead++) {
                RocketPrint x = asNow();
                question(x, ahead);
                due("question " + asked + " behind " + ahead, question(x, asked), want);
            }
            RocketPrint y = of("wheel 0 30 2;squib 9 31 5;fountain 4 8 3;reader 2 5;wind 2;damp 1;");
            for (int ahead = 0; ahead < QUESTIONS; ahead++) {
                question(y, ahead);
            }
            becomeNow(y);
            due("question " + asked + " behind what is changed", question(y, asked), want);
        }
    }

    private RocketPrint asNow() {
        return of("star 5 2 9;wheel 6 4 8;reader 6 0;reader 4 3;wind 5;");
    }

    private static void becomeNow(RocketPrint x) {
        x.burn(0);
        x.leave(0);
        x.damp(0);
        x.blow(5);
        x.write(0, 5, 2, 9);
        x.write(1, 6, 4, 8);
        x.come(6, 0);
        x.come(4, 3);
    }

    private static long question(RocketPrint x, int which) {
        return switch (which) {
            case 0 -> x.rule(4);
            case 1 -> x.rule(5);
            case 2 -> x.work(0, 8);
            case 3 -> x.reader(0, 2);
            case 4 -> x.reader(0, 3);
            case 5 -> x.reads(0, 0);
            case 6 -> x.looks(0, 4);
            case 7 -> x.sky(4);
            case 8 -> x.first(0);
            case 9 -> x.dark();
            case 10 -> x.peak(0, 0);
            case 11 -> x.when(0, 0);
            case 12 -> x.stand(0, 1);
            case 13 -> x.swap(1);
            case 14 -> x.lose(1);
            case 15 -> x.need(0, 0);
            case 16 -> x.dry(0);
            case 17 -> x.kind(0, 1);
            case 18 -> x.luck(3, 0, 0, 0);
            case 19 -> x.mean(3, 0);
            case 20 -> x.winds();
            case 21 -> x.froms(0);
            case 22 -> x.kinds(0);
            case 23 -> x.ask(0);
            default -> x.drift(5, 9, 1);
        };
    }

    /** What one is told, another knows nothing of. */
    private void besideOneAnother() {
        RocketPrint before = new RocketPrint();
        RocketPrint x = full();
        x.keep(0);
        x.see(0, 0);
        x.sheet(0, 0, 40);
        x.feed('x');
        List<Long> due = Probe.of(new RocketPrint());
        due("WORKS of a new one beside a full one", new RocketPrint().rule(0), 0);
        holds("a new one is as another, beside one that is told much", Probe.of(new RocketPrint()).equals(due));
        holds("one that was new all along is so still", Probe.of(before).equals(due));
        due("WORKS of the full one", x.rule(0), 6);
        due("READERS of the full one", x.rule(1), 4);
        due("SEEN of the full one", x.count(0), 1);
        due("IMAGES of the full one", x.count(1), 1);
        due("bytes of the full one", x.count(2), 1);
        due("CELLS of the full one", x.count(3), 40);
    }
}
