import java.util.Random;

/** Runs of calls by seeds, on RocketPrint and on the Model: all answers are the same. */
public final class ModelTest {
    private static final int RUNS = 1500;
    private static final int CALLS = 512;
    private static final String[] NAMES = {"star", "wheel", "fountain", "squib", "reader", "wind", "damp"};

    private final Check check = new Check();
    private Random random;
    private RocketPrint print;
    private Model model;
    private int run;
    private int calls;

    public static void main(String[] args) {
        ModelTest test = new ModelTest();
        for (int run = 0; run < RUNS && test.check.wrongs() < 20; run++) {
            test.oneRun(run);
        }
        test.check.finish();
    }

    private void oneRun(int seed) {
        run = seed;
        random = new Random(seed);
        print = new RocketPrint();
        model = new Model();
        calls = 0;
        if (random.nextInt(4) > 0) {
            people();
        }
        while (calls < CALLS && check.wrongs() < 20) {
            switch (random.nextInt(12)) {
                case 0 -> { if (random.nextInt(6) == 0) textFed(); }
                case 1, 2 -> change();
                case 3, 4 -> sheets();
                case 5, 6 -> sticks();
                case 7 -> { if (random.nextInt(3) == 0) seeded(); }
                default -> question();
            }
        }
    }

    private void same(String call, long got, long want) {
        calls++;
        check.due("run " + run + ", call " + calls + ": " + call, got, want);
    }

    /** Mostly within 0 to most, now and then beyond it. */
    private int about(int most) {
        int dice = random.nextInt(60);
        if (dice == 0) return random.nextInt();
        if (dice == 1) return -1 - random.nextInt(3);
        if (dice == 2) return most + 1 + random.nextInt(3);
        if (dice == 3) return random.nextBoolean() ? Integer.MAX_VALUE : Integer.MIN_VALUE;
        return random.nextInt(most + 1);
    }

    /** MINUTES near one another, so that WORKS meet. */
    private int minute() {
        return random.nextInt(3) > 0 ? random.nextInt(12) : about(59);
    }

    private void people() {
        int works = random.nextInt(7);
        int readers = random.nextInt(5);
        for (int i = 0; i < works; i++) write();
        for (int i = 0; i < readers; i++) come();
    }

    private void write() {
        int k = about(3);
        int p = about(11);
        int m = minute();
        int s = 1 + about(8);
        same("write(" + k + ", " + p + ", " + m + ", " + s + ")", print.write(k, p, m, s), model.write(k, p, m, s));
    }

    private void come() {
        int p = about(11);
        int c = random.nextInt(3) == 0 ? about(9) : 0;
        same("come(" + p + ", " + c + ")", print.come(p, c), model.come(p, c));
    }

    private void change() {
        int a = about(5);
        int b = about(3);
        int c = b == 2 ? minute() : about(9);
        int r = about(3);
        switch (random.nextInt(12)) {
            case 0, 1 -> same("alter(" + a + ", " + b + ", " + c + ")", print.alter(a, b, c), model.alter(a, b, c));
            case 2 -> {
                int what = about(1);
                same("move(" + r + ", " + what + ", " + c + ")", print.move(r, what, c), model.move(r, what, c));
            }
            case 3, 4 -> {
                int v = about(8);
                same("blow(" + v + ")", print.blow(v), model.blow(v));
            }
            case 5 -> {
                int v = about(random.nextInt(10));
                same("damp(" + v + ")", print.damp(v), model.damp(v));
            }
            case 6, 7 -> write();
            case 8 -> come();
            case 9 -> {
                if (random.nextInt(4) == 0) same("burn(" + a + ")", print.burn(a), model.burn(a));
            }
            case 10 -> {
                if (random.nextInt(4) == 0) same("leave(" + r + ")", print.leave(r), model.leave(r));
            }
            default -> images();
        }
    }

    private void images() {
        int k = about(1);
        if (random.nextBoolean()) {
            same("keep(" + k + ")", print.keep(k), model.keep(k));
        } else {
            same("back(" + k + ")", print.back(k), model.back(k));
        }
    }

    private void question() {
        int w = about(5);
        int r = about(3);
        int m = random.nextBoolean() ? about(25) : about(79);
        int what = about(1);
        switch (random.nextInt(19)) {
            case 0 -> { int x = about(5); same("rule(" + x + ")", print.rule(x), model.rule(x)); }
            case 1 -> { int x = about(8); same("work(" + w + ", " + x + ")", print.work(w, x), model.work(w, x)); }
            case 2 -> { int x = about(3); same("reader(" + r + ", " + x + ")", print.reader(r, x), model.reader(r, x)); }
            case 3 -> same("reads(" + r + ", " + w + ")", print.reads(r, w), model.reads(r, w));
            case 4 -> same("looks(" + r + ", " + m + ")", print.looks(r, m), model.looks(r, m));
            case 5 -> same("sky(" + m + ")", print.sky(m), model.sky(m));
            case 6 -> same("first(" + r + ")", print.first(r), model.first(r));
            case 7 -> same("dark()", print.dark(), model.dark());
            case 8 -> same("peak(" + w + ", " + what + ")", print.peak(w, what), model.peak(w, what));
            case 9 -> { if (random.nextInt(8) == 0) same("when(" + w + ", " + what + ")", print.when(w, what), model.when(w, what)); }
            case 10 -> same("stand(" + r + ", " + what + ")", print.stand(r, what), model.stand(r, what));
            case 11 -> { if (random.nextInt(4) == 0) same("swap(" + what + ")", print.swap(what), model.swap(what)); }
            case 12 -> same("lose(" + what + ")", print.lose(what), model.lose(what));
            case 13 -> same("need(" + w + ", " + r + ")", print.need(w, r), model.need(w, r));
            case 14 -> same("dry(" + r + ")", print.dry(r), model.dry(r));
            case 15 -> same("kind(" + w + ", " + what + ")", print.kind(w, what), model.kind(w, what));
            case 16 -> {
                int v = about(10);
                same("luck(" + v + ", " + r + ", " + w + ", " + what + ")", print.luck(v, r, w, what), model.luck(v, r, w, what));
            }
            case 17 -> {
                int v = about(10);
                if (random.nextInt(8) == 0) same("mean(" + v + ", " + what + ")", print.mean(v, what), model.mean(v, what));
            }
            default -> { int x = about(5); same("count(" + x + ")", print.count(x), model.count(x)); }
        }
    }

    private void sticks() {
        int w = about(5);
        int what = about(1);
        switch (random.nextInt(7)) {
            case 0 -> {
                // Where it came down by some WIND, so that not all is ruled out at once.
                int p = print.work(w, 7) >= 0 && random.nextInt(4) > 0 ? print.work(w, 7) : about(11);
                same("see(" + w + ", " + p + ")", print.see(w, p), model.see(w, p));
            }
            case 1 -> { int n = about(3); same("forget(" + n + ")", print.forget(n), model.forget(n)); }
            case 2 -> same("winds()", print.winds(), model.winds());
            case 3 -> same("froms(" + w + ")", print.froms(w), model.froms(w));
            case 4 -> same("kinds(" + w + ")", print.kinds(w), model.kinds(w));
            default -> same("ask(" + what + ")", print.ask(what), model.ask(what));
        }
    }

    private void seeded() {
        int seed = random.nextInt();
        int n = random.nextInt(4) == 0 ? about(60) : 1 + random.nextInt(3);
        int what = about(1);
        same("drift(" + seed + ", " + n + ", " + what + ")", print.drift(seed, n, what), model.drift(seed, n, what));
    }

    private void sheets() {
        int k = about(3);
        int lane = about(2);
        switch (random.nextInt(6)) {
            case 0 -> {
                int n = about(random.nextBoolean() ? 40 : 13);
                same("sheet(" + k + ", " + lane + ", " + n + ")", print.sheet(k, lane, n), model.sheet(k, lane, n));
            }
            case 1 -> fillSheet(k);
            case 2 -> {
                int i = about(12);
                int v = random.nextInt(3) == 0 ? random.nextInt() : about(9);
                same("lay(" + k + ", " + i + ", " + v + ")", print.lay(k, i, v), model.lay(k, i, v));
            }
            case 3 -> same("torn()", print.torn(), model.torn());
            default -> {
                int f = random.nextInt(3) > 0 ? 0 : about(12);
                int n = about(random.nextBoolean() ? 10 : 3);
                same("read(" + k + ", " + lane + ", " + f + ", " + n + ")", print.read(k, lane, f, n), model.read(k, lane, f, n));
                same("torn()", print.torn(), model.torn());
                same("rule(0)", print.rule(0), model.rule(0));
            }
        }
    }

    /** Numbers that tell WORKS once a lane has cut them. */
    private void fillSheet(int k) {
        int works = 1 + random.nextInt(4);
        int high = random.nextInt(3) == 0 ? 256 : random.nextInt(3) == 0 ? 65536 : 0;
        int[] most = {3, 11, 59, 8};
        for (int i = 0; i < 4 * works; i++) {
            int v = random.nextInt(most[i % 4] + 1) + (i % 4 == 3 ? 1 : 0) + high;
            same("lay(" + k + ", " + i + ", " + v + ")", print.lay(k, i, v), model.lay(k, i, v));
        }
    }

    private void textFed() {
        String text = random.nextInt(5) == 0 ? noise() : lines();
        if (random.nextInt(3) == 0) {
            text = spoilt(text);
        }
        for (int i = 0; i < text.length() && calls < CALLS; i++) {
            int c = text.charAt(i);
            same("feed(" + c + ")", print.feed(c), model.feed(c));
        }
        if (random.nextInt(8) == 0) {
            int n = about(text.length());
            same("end(" + n + ")", print.end(n), model.end(n));
        }
        if (random.nextInt(8) > 0) {
            same("text() of '" + text + "'", print.text(), model.text());
            same("fault()", print.fault(), model.fault());
            same("count(2)", print.count(2), model.count(2));
        }
    }

    private String lines() {
        StringBuilder out = new StringBuilder();
        int lines = random.nextInt(13);
        for (int i = 0; i < lines; i++) {
            int name = random.nextInt(3) == 0 ? random.nextInt(7) : random.nextInt(5);
            out.append(blanks(0)).append(NAMES[name]).append(blanks(0));
            int numbers = name < 4 ? 3 : name == 4 ? 2 : 1;
            for (int j = 0; j < numbers; j++) {
                int most = name == 5 ? 8 : name == 6 || j == numbers - 1 ? 9 : j == 1 ? 59 : 11;
                int least = name < 4 && j == 2 ? 1 : 0;
                out.append(least + random.nextInt(most - least + 1)).append(blanks(j < numbers - 1 ? 1 : 0));
            }
            out.append(';');
        }
        return out.append(blanks(0)).toString();
    }

    private String blanks(int least) {
        int more = random.nextInt(10);
        return " ".repeat(least + (more < 8 ? 0 : more - 7));
    }

    private String spoilt(String text) {
        StringBuilder out = new StringBuilder(text);
        int at = random.nextInt(out.length() + 1);
        switch (random.nextInt(4)) {
            case 0 -> out.insert(at, (char) random.nextInt(128));
            case 1 -> out.insert(at, " a0;9\0A".charAt(random.nextInt(7)));
            case 2 -> { if (at < out.length()) out.deleteCharAt(at); }
            default -> out.setLength(at);
        }
        return out.toString();
    }

    private String noise() {
        StringBuilder out = new StringBuilder();
        String[] parts = {"star", "wind", "damp", "reader", "squib", "a", ";", ";", " ", " ", "0", "1", "12", "100", "+", "Z", "\t"};
        int n = random.nextInt(12);
        for (int i = 0; i < n; i++) out.append(parts[random.nextInt(parts.length)]);
        return out.toString();
    }
}
