/** Fireworks publish: what is put up over the dyke, who reads it, and what may be told of it. */
public final class RocketPrint {
    public static final int BAD = -1, STATE = -2, FULL = -3, NONE = -4;

    private static final int PLACES = 12, MINUTES = 80, TAPE = 160;
    private static final int WORKS = 6, READERS = 4, SEEN = 6, IMAGES = 2;
    private static final int WINDS = 9, CALM = 4, DAMPS = 10;
    private static final int SHEETS = 4, LANES = 3, CELLS = 40;

    private static final int STAR = 0, WHEEL = 1, FOUNTAIN = 2, KINDS = 4;
    private static final int KIND = 0, FROM = 1, MINUTE = 2, POWER = 3, WORK_ROW = 4;
    private static final int AT = 0, COUGHS = 1, READER_ROW = 2;
    private static final int[] WORK_LEAST = {0, 0, 0, 1};
    private static final int[] WORK_MOST = {3, 11, 59, 9};
    private static final int[] READER_MOST = {11, 9};

    private static final int NULL_FAULT = 1, INDEX_FAULT = 2, CAST_FAULT = 3, SIZE_FAULT = 4;

    private final Night told = new Night();
    private final Show show = new Show();
    private final Best best = new Best();
    private final Tape tape = new Tape();
    private final Sticks sticks = new Sticks();
    private final Sheets sheets = new Sheets();
    private final Night firstImage = new Night();
    private final Night secondImage = new Night();
    private int keptImages;
    private int tornBy;

    public RocketPrint() {
    }

    // ---- the text, what there is

    public int feed(int c) {
        if (!within(c, 0, 127)) {
            return BAD;
        }
        if (tape.length >= TAPE) {
            return FULL;
        }
        tape.bytes[tape.length] = (byte) c;
        tape.length++;
        return tape.length;
    }

    public int end(int n) {
        if (!within(n, 0, tape.length)) {
            return BAD;
        }
        int had = tape.length;
        tape.length = n;
        return had;
    }

    public int text() {
        // The text is told to a draft, so that a FAULT leaves what was told before.
        Night draft = show.night;
        int lines = tape.tellTo(draft);
        tape.length = 0;
        if (tape.fault != 0) {
            return -10 - tape.place;
        }
        told.become(draft);
        sticks.seen = 0;
        keptImages = 0;
        return lines;
    }

    public int fault() {
        return tape.fault;
    }

    public int rule(int what) {
        switch (what) {
            case 0:
                return told.works;
            case 1:
                return told.readers;
            case 2:
                return told.wind;
            case 3:
                return told.damp;
            case 4:
                show.begin(told);
                return show.minutesOfAll();
            case 5:
                show.begin(told);
                return show.wholesOfAll();
            default:
                return BAD;
        }
    }

    public int work(int w, int what) {
        if (!told.hasWork(w)) {
            return BAD;
        }
        if (within(what, 0, WORK_ROW - 1)) {
            return told.ofWork(w, what);
        }
        switch (what) {
            case 4:
                return told.lastsOf(w);
            case 5:
                return told.wideOf(w);
            case 6:
                return told.burstOf(w);
            case 7:
                return told.stickOf(w);
            case 8:
                show.begin(told);
                return show.readersWhole(w);
            default:
                return BAD;
        }
    }

    public int reader(int r, int what) {
        if (!told.hasReader(r)) {
            return BAD;
        }
        if (within(what, 0, READER_ROW - 1)) {
            return told.ofReader(r, what);
        }
        if (!within(what, 2, 3)) {
            return BAD;
        }
        show.begin(told);
        return what == 2 ? show.worksWhole(r) : show.minutesOf(r);
    }

    public int reads(int r, int w) {
        if (!told.hasReader(r) || !told.hasWork(w)) {
            return BAD;
        }
        show.begin(told);
        return show.minutesAt(r, w);
    }

    public int looks(int r, int m) {
        if (!told.hasReader(r) || !within(m, 0, MINUTES - 1)) {
            return BAD;
        }
        show.begin(told);
        return show.lookedAt(r, m);
    }

    public int sky(int m) {
        if (!within(m, 0, MINUTES - 1)) {
            return BAD;
        }
        show.begin(told);
        int bits = 0;
        for (int w = 0; w < told.works; w++) {
            if (show.isUp(w, m)) {
                bits |= 1 << w;
            }
        }
        return bits;
    }

    // ---- what is changed

    public int alter(int w, int what, int v) {
        if (!told.hasWork(w) || !fitsWork(what, v)) {
            return BAD;
        }
        int was = told.ofWork(w, what);
        told.setWork(w, what, v);
        return was;
    }

    public int move(int r, int what, int v) {
        if (!told.hasReader(r) || !fitsReader(what, v)) {
            return BAD;
        }
        int was = told.ofReader(r, what);
        told.setReader(r, what, v);
        return was;
    }

    public int blow(int v) {
        if (!within(v, 0, WINDS - 1)) {
            return BAD;
        }
        int was = told.wind;
        told.wind = v;
        return was;
    }

    public int damp(int v) {
        if (!within(v, 0, DAMPS - 1)) {
            return BAD;
        }
        int was = told.damp;
        told.damp = v;
        return was;
    }

    public int write(int kind, int place, int minute, int power) {
        return told.addWork(kind, place, minute, power);
    }

    public int come(int place, int cough) {
        return told.addReader(place, cough);
    }

    public int burn(int n) {
        if (!within(n, 0, told.works)) {
            return BAD;
        }
        int were = told.works;
        told.works = n;
        return were;
    }

    public int leave(int n) {
        if (!within(n, 0, told.readers)) {
            return BAD;
        }
        int were = told.readers;
        told.readers = n;
        return were;
    }

    // ---- who looks when

    public int first(int r) {
        if (!told.hasReader(r)) {
            return BAD;
        }
        show.begin(told);
        for (int m = 0; m < MINUTES; m++) {
            if (show.lookedAt(r, m) >= 0) {
                return m;
            }
        }
        return NONE;
    }

    public int dark() {
        show.begin(told);
        int minutes = 0;
        for (int m = 0; m < MINUTES; m++) {
            if (!show.isRead(m)) {
                minutes++;
            }
        }
        return minutes;
    }

    public int peak(int w, int what) {
        if (!told.hasWork(w) || !within(what, 0, 1)) {
            return BAD;
        }
        show.begin(told);
        best.beginAbove(0);
        for (int m = 0; m < MINUTES; m++) {
            best.offer(m, show.lookersAt(w, m));
        }
        return best.answer(what);
    }

    // ---- what is best

    public int when(int w, int what) {
        if (!told.hasWork(w) || !within(what, 0, 1)) {
            return BAD;
        }
        show.begin(told);
        best.beginAbove(-1);
        for (int minute = 0; minute <= WORK_MOST[MINUTE]; minute++) {
            show.night.setWork(w, MINUTE, minute);
            show.settle();
            best.offer(minute, Integer.bitCount(show.readersWhole(w)));
        }
        return best.answer(what);
    }

    public int stand(int r, int what) {
        if (!told.hasReader(r) || !within(what, 0, 1)) {
            return BAD;
        }
        show.begin(told);
        best.beginAbove(-1);
        for (int place = 0; place < PLACES; place++) {
            show.night.setReader(r, AT, place);
            best.offer(place, show.minutesOf(r));
        }
        return best.answer(what);
    }

    public int swap(int what) {
        if (!within(what, 0, 1)) {
            return BAD;
        }
        show.begin(told);
        best.beginAbove(show.minutesOfAll());
        for (int lesser = 0; lesser < told.works; lesser++) {
            for (int greater = lesser + 1; greater < told.works; greater++) {
                best.offer(10 * lesser + greater, minutesIfSwapped(lesser, greater));
            }
        }
        return best.answer(what);
    }

    private int minutesIfSwapped(int lesser, int greater) {
        show.night.become(told);
        show.night.setWork(lesser, MINUTE, told.ofWork(greater, MINUTE));
        show.night.setWork(greater, MINUTE, told.ofWork(lesser, MINUTE));
        show.settle();
        return show.minutesOfAll();
    }

    public int lose(int what) {
        if (!within(what, 0, 1)) {
            return BAD;
        }
        show.begin(told);
        best.beginAbove(show.wholesOfAll());
        for (int w = 0; w < told.works; w++) {
            show.settle();
            show.putOut(w);
            best.offer(w, show.wholesOfAll());
        }
        return best.answer(what);
    }

    public int need(int w, int r) {
        if (!told.hasWork(w) || !told.hasReader(r)) {
            return BAD;
        }
        show.begin(told);
        for (int power = WORK_LEAST[POWER]; power <= WORK_MOST[POWER]; power++) {
            show.night.setWork(w, POWER, power);
            show.settle();
            if (show.isWhole(r, w)) {
                return power;
            }
        }
        return NONE;
    }

    public int dry(int r) {
        if (!told.hasReader(r)) {
            return BAD;
        }
        show.begin(told);
        for (int damp = DAMPS - 1; damp >= 0; damp--) {
            show.night.damp = damp;
            show.settle();
            if (show.minutesOf(r) > 0) {
                return damp;
            }
        }
        return NONE;
    }

    public int kind(int w, int what) {
        if (!told.hasWork(w) || !within(what, 0, 1)) {
            return BAD;
        }
        show.begin(told);
        best.beginAbove(-1);
        for (int kind = 0; kind < KINDS; kind++) {
            show.night.setWork(w, KIND, kind);
            show.settle();
            best.offer(kind, show.minutesByAll(w));
        }
        return best.answer(what);
    }

    // ---- damp ones

    public long luck(int v, int r, int w, int what) {
        if (!within(v, 0, 10) || !told.hasReader(r) || !told.hasWork(w) || !within(what, 0, 1)) {
            return BAD;
        }
        show.begin(told);
        if (!show.isWholeAlone(r, w)) {
            return partOf(0, 1, what);
        }
        // He READS it WHOLE just if it is dry and each that would draw him off is a damp one.
        int rivals = show.rivalsOf(r, w);
        return partOf((10 - v) * power(v, rivals), power(10, rivals + 1), what);
    }

    public long mean(int v, int what) {
        if (!within(v, 0, 10) || !within(what, 0, 1)) {
            return BAD;
        }
        show.begin(told);
        long whole = power(10, WORKS);
        long sum = 0;
        for (int r = 0; r < told.readers; r++) {
            for (int m = 0; m < MINUTES; m++) {
                // A mean of a sum is the sum of the means, and a minute is lost
                // just if all that he could LOOK at in it are damp ones.
                int choices = show.choicesOf(r, m);
                sum += whole - power(v, choices) * power(10, WORKS - choices);
            }
        }
        return partOf(sum, whole, what);
    }

    // ---- sticks

    public int see(int w, int p) {
        if (!told.hasWork(w) || !within(p, 0, PLACES - 1)) {
            return BAD;
        }
        if (sticks.seen >= SEEN) {
            return FULL;
        }
        sticks.add(w, p);
        return sticks.seen;
    }

    public int forget(int n) {
        if (!within(n, 0, sticks.seen)) {
            return BAD;
        }
        int were = sticks.seen;
        sticks.seen = n;
        return were;
    }

    public int winds() {
        Night trial = show.night;
        trial.become(told);
        int bits = 0;
        for (int wind = 0; wind < WINDS; wind++) {
            trial.wind = wind;
            if (sticks.agreeWith(trial)) {
                bits |= 1 << wind;
            }
        }
        return bits;
    }

    public int froms(int w) {
        if (!told.hasWork(w)) {
            return BAD;
        }
        return valuesAsSeen(w, FROM);
    }

    public int kinds(int w) {
        if (!told.hasWork(w)) {
            return BAD;
        }
        return valuesAsSeen(w, KIND);
    }

    private int valuesAsSeen(int w, int what) {
        Night trial = show.night;
        trial.become(told);
        int bits = 0;
        for (int value = 0; value <= WORK_MOST[what]; value++) {
            trial.setWork(w, what, value);
            if (sticks.agreeWith(trial)) {
                bits |= 1 << value;
            }
        }
        return bits;
    }

    public int ask(int what) {
        if (!within(what, 0, 1)) {
            return BAD;
        }
        int winds = winds();
        int now = Integer.bitCount(winds);
        best.beginAbove(0);
        for (int w = 0; w < told.works; w++) {
            best.offer(w, now - windsLeftAtWorst(w, winds));
        }
        if (best.which < 0 || what == 0) {
            return best.which;
        }
        return now - best.amount;
    }

    private int windsLeftAtWorst(int w, int winds) {
        show.night.become(told);
        int most = 0;
        for (int place = 0; place < PLACES; place++) {
            most = Math.max(most, windsThatDrop(show.night, w, place, winds));
        }
        return most;
    }

    /** How many of the winds let the STICK of a WORK come down at a PLACE. */
    private static int windsThatDrop(Night trial, int w, int place, int winds) {
        int found = 0;
        for (int wind = 0; wind < WINDS; wind++) {
            trial.wind = wind;
            if ((winds >> wind & 1) == 1 && trial.stickOf(w) == place) {
                found++;
            }
        }
        return found;
    }

    // ---- by a seed

    public int drift(int seed, int n, int what) {
        if (!within(n, 1, 60) || !within(what, 0, 1)) {
            return BAD;
        }
        show.begin(told);
        int next = seed;
        int sum = 0;
        for (int night = 0; night < n; night++) {
            next = next * 1103515245 + 12345;
            int got = next >> 16 & 0x7fff;
            show.night.wind = got % WINDS;
            show.night.damp = got / 16 % DAMPS;
            show.settle();
            sum += what == 0 ? show.wholesOfAll() : show.minutesOfAll();
        }
        return sum;
    }

    // ---- images, sheets

    public int keep(int k) {
        if (!within(k, 0, IMAGES - 1)) {
            return BAD;
        }
        int was = keptImages >> k & 1;
        imageOf(k).become(told);
        keptImages |= 1 << k;
        return was;
    }

    public int back(int k) {
        if (!within(k, 0, IMAGES - 1)) {
            return BAD;
        }
        if ((keptImages >> k & 1) == 0) {
            return STATE;
        }
        told.become(imageOf(k));
        return told.works;
    }

    private Night imageOf(int k) {
        return k == 0 ? firstImage : secondImage;
    }

    public int sheet(int k, int lane, int n) {
        if (!within(k, 0, SHEETS - 1) || !within(lane, 0, LANES - 1) || n > CELLS) {
            return BAD;
        }
        if (n < 0) {
            return -10 - SIZE_FAULT;
        }
        sheets.renew(k, lane, n);
        return 1;
    }

    public int lay(int k, int i, int v) {
        if (!within(k, 0, SHEETS - 1)) {
            return BAD;
        }
        int fault = sheets.faultOf(k, sheets.laneOf(k), i, 1);
        if (fault != 0) {
            return -10 - fault;
        }
        sheets.put(k, i, v);
        return 1;
    }

    public int read(int k, int lane, int f, int n) {
        if (!within(k, 0, SHEETS - 1) || !within(lane, 0, LANES - 1) || !within(n, 0, 10)) {
            return BAD;
        }
        int before = told.works;
        int fault = 0;
        int came = 0;
        for (int i = 0; i < n && fault == 0; i++) {
            int cell = f + WORK_ROW * i;
            fault = sheets.faultOf(k, lane, cell, WORK_ROW);
            if (fault == 0) {
                if (addFromSheet(k, cell) < 0) {
                    told.works = before;
                    return -20 - i;
                }
                came++;
            }
        }
        tornBy = fault;
        return came;
    }

    private int addFromSheet(int k, int cell) {
        return told.addWork(sheets.at(k, cell + KIND), sheets.at(k, cell + FROM),
                sheets.at(k, cell + MINUTE), sheets.at(k, cell + POWER));
    }

    public int torn() {
        return tornBy;
    }

    public int count(int what) {
        switch (what) {
            case 0:
                return sticks.seen;
            case 1:
                return Integer.bitCount(keptImages);
            case 2:
                return tape.length;
            case 3:
                return sheets.isNothing(0) ? NONE : sheets.sizeOf(0);
            case 4:
                return told.powerOfAll();
            case 5:
                return told.coughsOfAll();
            default:
                return BAD;
        }
    }

    // ---- numbers

    private static boolean within(int v, int least, int most) {
        return v >= least && v <= most;
    }

    private static boolean fitsWork(int what, int v) {
        return within(what, 0, WORK_ROW - 1) && within(v, WORK_LEAST[what], WORK_MOST[what]);
    }

    private static boolean fitsReader(int what, int v) {
        return within(what, 0, READER_ROW - 1) && within(v, 0, READER_MOST[what]);
    }

    private static int clampToDyke(int place) {
        return Math.max(0, Math.min(PLACES - 1, place));
    }

    private static long power(long base, int times) {
        long product = 1;
        for (int i = 0; i < times; i++) {
            product *= base;
        }
        return product;
    }

    /** The numerator (what 0) or the denominator (what 1) of a fraction in lowest terms. */
    private static long partOf(long numerator, long denominator, int what) {
        long divisor = greatestDivisor(numerator, denominator);
        if (divisor < 1) {
            return BAD;
        }
        return what == 0 ? numerator / divisor : denominator / divisor;
    }

    private static long greatestDivisor(long one, long other) {
        long a = one;
        long b = other;
        // No two longs take as many as 100 steps.
        for (int step = 0; step < 100 && b != 0; step++) {
            long rest = a % b;
            a = b;
            b = rest;
        }
        return a;
    }

    /** WORKS, READERS, WIND and DAMP; callers see to it that a WORK or a READER is there. */
    private static final class Night {
        private final int[] workRows = new int[WORKS * WORK_ROW];
        private final int[] readerRows = new int[READERS * READER_ROW];
        private int works;
        private int readers;
        private int wind = CALM;
        private int damp;

        private void clear() {
            works = 0;
            readers = 0;
            wind = CALM;
            damp = 0;
        }

        private void become(Night other) {
            System.arraycopy(other.workRows, 0, workRows, 0, WORKS * WORK_ROW);
            System.arraycopy(other.readerRows, 0, readerRows, 0, READERS * READER_ROW);
            works = other.works;
            readers = other.readers;
            wind = other.wind;
            damp = other.damp;
        }

        private boolean hasWork(int w) {
            return within(w, 0, works - 1);
        }

        private boolean hasReader(int r) {
            return within(r, 0, readers - 1);
        }

        private int ofWork(int w, int what) {
            return workRows[w * WORK_ROW + what];
        }

        private void setWork(int w, int what, int v) {
            workRows[w * WORK_ROW + what] = v;
        }

        private int ofReader(int r, int what) {
            return readerRows[r * READER_ROW + what];
        }

        private void setReader(int r, int what, int v) {
            readerRows[r * READER_ROW + what] = v;
        }

        private int addWork(int kind, int place, int minute, int power) {
            if (!fitsWork(KIND, kind) || !fitsWork(FROM, place)
                    || !fitsWork(MINUTE, minute) || !fitsWork(POWER, power)) {
                return BAD;
            }
            if (works >= WORKS) {
                return FULL;
            }
            setWork(works, KIND, kind);
            setWork(works, FROM, place);
            setWork(works, MINUTE, minute);
            setWork(works, POWER, power);
            works++;
            return works;
        }

        private int addReader(int place, int cough) {
            if (!fitsReader(AT, place) || !fitsReader(COUGHS, cough)) {
                return BAD;
            }
            if (readers >= READERS) {
                return FULL;
            }
            setReader(readers, AT, place);
            setReader(readers, COUGHS, cough);
            readers++;
            return readers;
        }

        private int lastsOf(int w) {
            int power = ofWork(w, POWER);
            switch (ofWork(w, KIND)) {
                case STAR:
                    return power;
                case WHEEL:
                    return 2 * power;
                case FOUNTAIN:
                    return power / 2 + 1;
                default:
                    return power / 2;
            }
        }

        private int wideOf(int w) {
            int power = ofWork(w, POWER);
            switch (ofWork(w, KIND)) {
                case STAR:
                case FOUNTAIN:
                    return power;
                case WHEEL:
                    return power / 2;
                default:
                    return power + 2;
            }
        }

        private boolean goesUp(int w) {
            return ofWork(w, POWER) > damp;
        }

        private int burstOf(int w) {
            return clampToDyke(ofWork(w, FROM) + wind - CALM);
        }

        private int stickOf(int w) {
            // Java's division goes toward 0: the amount is rounded down on either side.
            return clampToDyke(burstOf(w) + (wind - CALM) * lastsOf(w) / 4);
        }

        private int powerOfAll() {
            int sum = 0;
            for (int w = 0; w < works; w++) {
                sum += ofWork(w, POWER);
            }
            return sum;
        }

        private int coughsOfAll() {
            int sum = 0;
            for (int r = 0; r < readers; r++) {
                sum += ofReader(r, COUGHS);
            }
            return sum;
        }
    }

    /** What is seen of a night of its own, which may be changed to try what would be. */
    private static final class Show {
        private final Night night = new Night();
        private final int[] start = new int[WORKS];
        private final int[] stop = new int[WORKS];
        private final int[] burst = new int[WORKS];
        private final int[] wide = new int[WORKS];

        private void begin(Night of) {
            night.become(of);
            settle();
        }

        /** To be called again when anything but where a READER is has been changed. */
        private void settle() {
            for (int w = 0; w < night.works; w++) {
                start[w] = night.ofWork(w, MINUTE);
                stop[w] = start[w] + (night.goesUp(w) ? night.lastsOf(w) : 0);
                burst[w] = night.burstOf(w);
                wide[w] = night.wideOf(w);
            }
        }

        private void putOut(int w) {
            stop[w] = start[w];
        }

        private boolean isUp(int w, int m) {
            return m >= start[w] && m < stop[w];
        }

        private int distance(int r, int w) {
            return Math.abs(burst[w] - night.ofReader(r, AT));
        }

        private boolean reaches(int r, int w) {
            return distance(r, w) <= wide[w];
        }

        private boolean coughsAt(int r, int m) {
            int coughs = night.ofReader(r, COUGHS);
            return coughs > 0 && m % coughs == 0;
        }

        private int lookedAt(int r, int m) {
            if (coughsAt(r, m)) {
                return NONE;
            }
            int at = night.ofReader(r, AT);
            int found = NONE;
            int nearest = PLACES;
            for (int w = 0; w < night.works; w++) {
                int away = Math.abs(burst[w] - at);
                if (isUp(w, m) && away <= wide[w] && away < nearest) {
                    nearest = away;
                    found = w;
                }
            }
            return found;
        }

        private boolean isRead(int m) {
            for (int r = 0; r < night.readers; r++) {
                if (lookedAt(r, m) >= 0) {
                    return true;
                }
            }
            return false;
        }

        private int lookersAt(int w, int m) {
            int lookers = 0;
            for (int r = 0; r < night.readers; r++) {
                if (lookedAt(r, m) == w) {
                    lookers++;
                }
            }
            return lookers;
        }

        private int minutesAt(int r, int w) {
            int minutes = 0;
            for (int m = start[w]; m < stop[w]; m++) {
                if (lookedAt(r, m) == w) {
                    minutes++;
                }
            }
            return minutes;
        }

        private boolean isWhole(int r, int w) {
            // The same as to look at it in all its minutes, in far fewer steps.
            return isWholeAlone(r, w) && rivalsOf(r, w) == 0;
        }

        private int minutesOf(int r) {
            int minutes = 0;
            for (int w = 0; w < night.works; w++) {
                minutes += minutesAt(r, w);
            }
            return minutes;
        }

        private int minutesByAll(int w) {
            int minutes = 0;
            for (int r = 0; r < night.readers; r++) {
                minutes += minutesAt(r, w);
            }
            return minutes;
        }

        private int minutesOfAll() {
            int minutes = 0;
            for (int r = 0; r < night.readers; r++) {
                for (int w = 0; w < night.works; w++) {
                    minutes += minutesAt(r, w);
                }
            }
            return minutes;
        }

        private int worksWhole(int r) {
            int bits = 0;
            for (int w = 0; w < night.works; w++) {
                if (isWhole(r, w)) {
                    bits |= 1 << w;
                }
            }
            return bits;
        }

        private int readersWhole(int w) {
            int bits = 0;
            for (int r = 0; r < night.readers; r++) {
                if (isWhole(r, w)) {
                    bits |= 1 << r;
                }
            }
            return bits;
        }

        private int wholesOfAll() {
            int wholes = 0;
            for (int r = 0; r < night.readers; r++) {
                for (int w = 0; w < night.works; w++) {
                    if (isWhole(r, w)) {
                        wholes++;
                    }
                }
            }
            return wholes;
        }

        /** Whether a READER would READ a WORK WHOLE if no other went up. */
        private boolean isWholeAlone(int r, int w) {
            if (stop[w] <= start[w] || !reaches(r, w)) {
                return false;
            }
            for (int m = start[w]; m < stop[w]; m++) {
                if (coughsAt(r, m)) {
                    return false;
                }
            }
            return true;
        }

        /** How many other WORKS would draw a READER off a WORK in any minute of it. */
        private int rivalsOf(int r, int w) {
            int rivals = 0;
            for (int other = 0; other < night.works; other++) {
                if (other != w && overlap(other, w) && reaches(r, other) && isBefore(r, other, w)) {
                    rivals++;
                }
            }
            return rivals;
        }

        private boolean overlap(int w, int other) {
            return Math.max(start[w], start[other]) < Math.min(stop[w], stop[other]);
        }

        private boolean isBefore(int r, int w, int other) {
            int here = distance(r, w);
            int there = distance(r, other);
            return here < there || here == there && w < other;
        }

        /** How many WORKS a READER could LOOK at in a minute. */
        private int choicesOf(int r, int m) {
            if (coughsAt(r, m)) {
                return 0;
            }
            int choices = 0;
            for (int w = 0; w < night.works; w++) {
                if (isUp(w, m) && reaches(r, w)) {
                    choices++;
                }
            }
            return choices;
        }
    }

    /** The first of those that were offered with the greatest amount, above a bar. */
    private static final class Best {
        private int which = NONE;
        private int amount;

        private void beginAbove(int bar) {
            which = NONE;
            amount = bar;
        }

        private void offer(int candidate, int of) {
            if (of > amount) {
                which = candidate;
                amount = of;
            }
        }

        /** Which it was (what 0), by how much (what 1). */
        private int answer(int what) {
            return which < 0 || what == 0 ? which : amount;
        }
    }

    /** Bytes that are read TOKEN by TOKEN; after a FAULT nothing more is read, so that it stays the first. */
    private static final class Tape {
        private static final int END = 0, NAME = 1, NUMBER = 2, SIGN = 3;
        private static final int NO_TOKEN = 1, NOT_THERE = 2, OUT_OF_BOUNDS = 3, TWICE = 4, TOO_MANY = 5;
        private static final int READER_WORD = KINDS, WIND_WORD = KINDS + 1, DAMP_WORD = KINDS + 2;

        private final byte[] bytes = new byte[TAPE];
        private int length;
        private int fault;
        private int token;
        private int place;
        private int behind;
        private int number;
        private boolean windTold;
        private boolean dampTold;

        /** How many lines there are, if there is no FAULT. */
        private int tellTo(Night draft) {
            draft.clear();
            fault = 0;
            behind = 0;
            windTold = false;
            dampTold = false;
            int lines = 0;
            takeToken();
            // A line takes a byte at least.
            while (fault == 0 && token != END && lines < TAPE) {
                takeLine(draft);
                takeToken();
                lines++;
            }
            return lines;
        }

        private void takeLine(Night draft) {
            int word = token == NAME ? wordRead() : NONE;
            if (word < 0) {
                blame(NOT_THERE);
            } else if (word < KINDS) {
                takeWork(draft, word);
            } else if (word == READER_WORD) {
                takeReader(draft);
            } else if (word == WIND_WORD) {
                takeWind(draft);
            } else {
                takeDamp(draft);
            }
        }

        private void takeWork(Night draft, int kind) {
            if (draft.works >= WORKS) {
                blame(TOO_MANY);
            }
            int from = takeNumber(WORK_LEAST[FROM], WORK_MOST[FROM]);
            int minute = takeNumber(WORK_LEAST[MINUTE], WORK_MOST[MINUTE]);
            int power = takeNumber(WORK_LEAST[POWER], WORK_MOST[POWER]);
            takeSign();
            if (fault == 0) {
                draft.addWork(kind, from, minute, power);
            }
        }

        private void takeReader(Night draft) {
            if (draft.readers >= READERS) {
                blame(TOO_MANY);
            }
            int at = takeNumber(0, READER_MOST[AT]);
            int coughs = takeNumber(0, READER_MOST[COUGHS]);
            takeSign();
            if (fault == 0) {
                draft.addReader(at, coughs);
            }
        }

        private void takeWind(Night draft) {
            if (windTold) {
                blame(TWICE);
            }
            windTold = true;
            draft.wind = takeNumber(0, WINDS - 1);
            takeSign();
        }

        private void takeDamp(Night draft) {
            if (dampTold) {
                blame(TWICE);
            }
            dampTold = true;
            draft.damp = takeNumber(0, DAMPS - 1);
            takeSign();
        }

        private int takeNumber(int least, int most) {
            takeToken();
            if (token != NUMBER) {
                blame(NOT_THERE);
            } else if (!within(number, least, most)) {
                blame(OUT_OF_BOUNDS);
            }
            return number;
        }

        private void takeSign() {
            takeToken();
            if (token != SIGN) {
                blame(NOT_THERE);
            }
        }

        private void blame(int what) {
            if (fault == 0) {
                fault = what;
            }
        }

        private void takeToken() {
            if (fault != 0) {
                return;
            }
            while (behind < length && bytes[behind] == ' ') {
                behind++;
            }
            place = behind;
            if (place >= length) {
                token = END;
            } else if (isLetter(bytes[place])) {
                token = NAME;
                while (behind < length && isLetter(bytes[behind])) {
                    behind++;
                }
            } else if (isFigure(bytes[place])) {
                token = NUMBER;
                number = 0;
                while (behind < length && isFigure(bytes[behind])) {
                    // Of a NUMBER that is too long nothing is asked: that it wraps around does no harm.
                    number = 10 * number + bytes[behind] - '0';
                    behind++;
                }
                if (behind - place > 2) {
                    blame(NO_TOKEN);
                }
            } else if (bytes[place] == ';') {
                token = SIGN;
                behind++;
            } else {
                blame(NO_TOKEN);
            }
        }

        private static boolean isLetter(byte b) {
            return b >= 'a' && b <= 'z';
        }

        private static boolean isFigure(byte b) {
            return b >= '0' && b <= '9';
        }

        /** A KIND, or what else a line begins with. */
        private int wordRead() {
            if (isWord("star")) {
                return 0;
            }
            if (isWord("wheel")) {
                return 1;
            }
            if (isWord("fountain")) {
                return 2;
            }
            if (isWord("squib")) {
                return 3;
            }
            if (isWord("reader")) {
                return READER_WORD;
            }
            if (isWord("wind")) {
                return WIND_WORD;
            }
            return isWord("damp") ? DAMP_WORD : NONE;
        }

        private boolean isWord(String word) {
            if (behind - place != word.length()) {
                return false;
            }
            for (int i = 0; i < word.length(); i++) {
                if (bytes[place + i] != word.charAt(i)) {
                    return false;
                }
            }
            return true;
        }
    }

    /** Where STICKS were SEEN to come down. */
    private static final class Sticks {
        private final int[] works = new int[SEEN];
        private final int[] places = new int[SEEN];
        private int seen;

        private void add(int w, int p) {
            works[seen] = w;
            places[seen] = p;
            seen++;
        }

        private boolean agreeWith(Night night) {
            for (int i = 0; i < seen; i++) {
                // A WORK may have been burnt since its STICK was SEEN.
                if (!night.hasWork(works[i]) || night.stickOf(works[i]) != places[i]) {
                    return false;
                }
            }
            return true;
        }
    }

    /** All SHEETS in one row of ints, made once: a CELL holds what its lane leaves of a number. */
    private static final class Sheets {
        private static final int BYTES = 0, SHORTS = 1;

        private final int[] cells = new int[SHEETS * CELLS];
        private final int[] lanes = new int[SHEETS];
        private final int[] sizes = new int[SHEETS];
        private int laid;

        private void renew(int k, int lane, int n) {
            laid |= 1 << k;
            lanes[k] = lane;
            sizes[k] = n;
            for (int i = 0; i < n; i++) {
                cells[k * CELLS + i] = 0;
            }
        }

        private boolean isNothing(int k) {
            return (laid >> k & 1) == 0;
        }

        private int laneOf(int k) {
            return lanes[k];
        }

        private int sizeOf(int k) {
            return sizes[k];
        }

        /** What the machine finds when n CELLS from i on are taken of a SHEET as of a lane; 0: nothing. */
        private int faultOf(int k, int lane, int i, int n) {
            if (isNothing(k)) {
                return NULL_FAULT;
            }
            if (lanes[k] != lane) {
                return CAST_FAULT;
            }
            return within(i, 0, sizes[k] - n) ? 0 : INDEX_FAULT;
        }

        private void put(int k, int i, int v) {
            int held = v;
            if (lanes[k] == BYTES) {
                held = (byte) v;
            } else if (lanes[k] == SHORTS) {
                held = (short) v;
            }
            cells[k * CELLS + i] = held;
        }

        private int at(int k, int i) {
            return cells[k * CELLS + i];
        }
    }
}
