import java.util.ArrayList;
import java.util.List;

/** All that can be asked of an object, in the end by calls that spend it: two that are alike answer alike. */
final class Probe {
    private final RocketPrint x;
    private final List<Long> answers = new ArrayList<>();

    private Probe(RocketPrint x) {
        this.x = x;
    }

    static List<Long> of(RocketPrint x) {
        Probe probe = new Probe(x);
        probe.counts();
        probe.night();
        probe.seen();
        probe.images();
        probe.sheets();
        probe.tape();
        return probe.answers;
    }

    /** Every call is told, so there are as many answers as calls. */
    private long tell(long answer) {
        answers.add(answer);
        return answer;
    }

    private void counts() {
        tell(x.fault());
        tell(x.torn());
        for (int what = 0; what <= 5; what++) {
            tell(x.count(what));
        }
    }

    private void night() {
        long works = tell(x.rule(0));
        long readers = tell(x.rule(1));
        for (int what = 2; what <= 5; what++) {
            tell(x.rule(what));
        }
        for (int w = 0; w < works; w++) {
            for (int what = 0; what < 4; what++) {
                tell(x.work(w, what));
            }
        }
        for (int r = 0; r < readers; r++) {
            tell(x.reader(r, 0));
            tell(x.reader(r, 1));
        }
    }

    private void seen() {
        for (long n = tell(x.count(0)); n > 0; n--) {
            tell(x.winds());
            tell(x.froms(0));
            tell(x.forget((int) n - 1));
        }
    }

    private void images() {
        for (int k = 0; k < 2; k++) {
            if (tell(x.back(k)) >= 0) {
                night();
            }
        }
    }

    private void sheets() {
        for (int k = 0; k < 4; k++) {
            for (int lane = 0; lane < 3; lane++) {
                tell(x.burn(0));
                tell(x.read(k, lane, 0, 1));
                if (tell(x.torn()) != 3) {
                    sheet(k, lane);
                }
            }
        }
    }

    /** In the order of its CELLS, those behind the last WORK that is whole by where INDEX begins. */
    private void sheet(int k, int lane) {
        for (int f = 0; f < 40; f += 12) {
            tell(x.burn(0));
            tell(x.read(k, lane, f, 1));
            tell(x.work(0, 1));
            tell(x.work(0, 3));
        }
        tell(x.lay(k, 39, 0));
    }

    private void tape() {
        tell(x.text());
        tell(x.fault());
        night();
    }
}
