import java.math.BigInteger;
import java.util.ArrayList;
import java.util.Comparator;
import java.util.HashMap;
import java.util.HashSet;
import java.util.List;
import java.util.Map;
import java.util.Set;
import java.util.function.Function;
import java.util.function.IntPredicate;
import java.util.function.IntUnaryOperator;
import java.util.function.ToIntFunction;
import java.util.stream.IntStream;

/** The document once more, by plain enumeration, to compare RocketPrint with. */
final class Model {
    static final int BAD = -1, STATE = -2, FULL = -3, NONE = -4;

    record Work(int kind, int from, int minute, int power) {
        int lasts() {
            return new int[] {power, 2 * power, 1 + power / 2, power / 2}[kind];
        }

        int wide() {
            return new int[] {power, power / 2, power, power + 2}[kind];
        }

        boolean fits() {
            return kind >= 0 && kind <= 3 && from >= 0 && from <= 11
                    && minute >= 0 && minute <= 59 && power >= 1 && power <= 9;
        }

        int get(int what) {
            return new int[] {kind, from, minute, power}[what];
        }

        Work with(int what, int v) {
            return new Work(what == 0 ? v : kind, what == 1 ? v : from, what == 2 ? v : minute, what == 3 ? v : power);
        }
    }

    record Reader(int at, int coughs) {
        boolean fits() {
            return at >= 0 && at <= 11 && coughs >= 0 && coughs <= 9;
        }

        int get(int what) {
            return what == 0 ? at : coughs;
        }

        Reader with(int what, int v) {
            return new Reader(what == 0 ? v : at, what == 1 ? v : coughs);
        }
    }

    /** out: the WORKS that do not go up, whatever their POWER. */
    record World(List<Work> works, List<Reader> readers, int wind, int damp, Set<Integer> out) {
        World(List<Work> works, List<Reader> readers, int wind, int damp) {
            this(works, readers, wind, damp, Set.of());
        }

        World withWork(int w, Work work) {
            List<Work> list = new ArrayList<>(works);
            list.set(w, work);
            return new World(list, readers, wind, damp);
        }

        World withReader(int r, Reader reader) {
            List<Reader> list = new ArrayList<>(readers);
            list.set(r, reader);
            return new World(works, list, wind, damp);
        }

        World withAir(int newWind, int newDamp) {
            return new World(works, readers, newWind, newDamp);
        }

        World without(Set<Integer> newOut) {
            return new World(works, readers, wind, damp, newOut);
        }

        int burst(int w) {
            int place = works.get(w).from() + (wind - 4);
            return place < 0 ? 0 : place > 11 ? 11 : place;
        }

        int stick(int w) {
            int blow = wind - 4;
            int amount = Math.abs(blow) * works.get(w).lasts() / 4;
            int place = blow < 0 ? burst(w) - amount : burst(w) + amount;
            return place < 0 ? 0 : place > 11 ? 11 : place;
        }

        boolean up(int w, int m) {
            Work work = works.get(w);
            return !out.contains(w) && work.power() > damp
                    && m >= work.minute() && m - work.minute() < work.lasts();
        }

        int look(int r, int m) {
            Reader reader = readers.get(r);
            if (reader.coughs() != 0 && m % reader.coughs() == 0) {
                return NONE;
            }
            return IntStream.range(0, works.size())
                    .filter(w -> up(w, m))
                    .filter(w -> Math.abs(burst(w) - reader.at()) <= works.get(w).wide())
                    .boxed()
                    .min(Comparator.<Integer>comparingInt(w -> Math.abs(burst(w) - reader.at()))
                            .thenComparingInt(w -> w))
                    .orElse(NONE);
        }

        int reads(int r, int w) {
            return (int) minutes(m -> look(r, m) == w);
        }

        boolean whole(int r, int w) {
            long ups = minutes(m -> up(w, m));
            return ups > 0 && minutes(m -> up(w, m) && look(r, m) != w) == 0;
        }

        int readsAny(int r) {
            return (int) minutes(m -> look(r, m) >= 0);
        }

        int readsAll() {
            return IntStream.range(0, readers.size()).map(this::readsAny).sum();
        }

        int wholes() {
            return IntStream.range(0, readers.size()).map(r -> Integer.bitCount(wholeOf(r))).sum();
        }

        int wholeOf(int r) {
            return bits(works.size(), w -> whole(r, w));
        }

        int wholeBy(int w) {
            return bits(readers.size(), r -> whole(r, w));
        }

        int lookers(int w, int m) {
            return (int) IntStream.range(0, readers.size()).filter(r -> look(r, m) == w).count();
        }
    }

    static long minutes(IntPredicate when) {
        return IntStream.range(0, 80).filter(when).count();
    }

    static int bits(int n, IntPredicate which) {
        return IntStream.range(0, n).filter(which).map(i -> 1 << i).sum();
    }

    World world = new World(List.of(), List.of(), 4, 0);
    final World[] images = new World[2];
    final List<int[]> seen = new ArrayList<>();
    final Object[] sheets = new Object[4];
    String tape = "";
    int latestFault;
    int latestTorn;

    private boolean isWork(int w) {
        return w >= 0 && w < world.works().size();
    }

    private boolean isReader(int r) {
        return r >= 0 && r < world.readers().size();
    }

    private static boolean is01(int what) {
        return what == 0 || what == 1;
    }

    int feed(int c) {
        if (c < 0 || c > 127) return BAD;
        if (tape.length() == 160) return FULL;
        tape += (char) c;
        return tape.length();
    }

    int end(int n) {
        if (n < 0 || n > tape.length()) return BAD;
        int had = tape.length();
        tape = tape.substring(0, n);
        return had;
    }

    private static final class Fault extends Exception {
        private static final long serialVersionUID = 1L;
        final int number;
        final int place;

        Fault(int number, int place) {
            this.number = number;
            this.place = place;
        }
    }

    private static final class Parser {
        final String text;
        int at;
        int place;
        String token;
        final List<Work> works = new ArrayList<>();
        final List<Reader> readers = new ArrayList<>();
        final Map<String, Integer> air = new HashMap<>();

        Parser(String text) {
            this.text = text;
        }

        /** The next TOKEN; "" is the end. */
        void next() throws Fault {
            String rest = text.substring(at);
            String bare = rest.replaceFirst("^ +", "");
            place = at + rest.length() - bare.length();
            java.util.regex.Matcher m = java.util.regex.Pattern.compile("\\A(?:[a-z]+|[0-9]+|;|\\z)").matcher(bare);
            if (!m.find()) throw new Fault(1, place);
            token = m.group();
            if (token.matches("[0-9]{3,}")) throw new Fault(1, place);
            at = place + token.length();
        }

        int number(int least, int most) throws Fault {
            next();
            if (!token.matches("[0-9]+")) throw new Fault(2, place);
            int v = Integer.parseInt(token);
            if (v < least || v > most) throw new Fault(3, place);
            return v;
        }

        int lines() throws Fault {
            int lines = 0;
            for (next(); !token.isEmpty(); next()) {
                line();
                next();
                if (!token.equals(";")) throw new Fault(2, place);
                lines++;
            }
            return lines;
        }

        void line() throws Fault {
            int kind = List.of("star", "wheel", "fountain", "squib").indexOf(token);
            if (kind >= 0) {
                if (works.size() == 6) throw new Fault(5, place);
                works.add(new Work(kind, number(0, 11), number(0, 59), number(1, 9)));
            } else if (token.equals("reader")) {
                if (readers.size() == 4) throw new Fault(5, place);
                readers.add(new Reader(number(0, 11), number(0, 9)));
            } else if (token.equals("wind") || token.equals("damp")) {
                if (air.containsKey(token)) throw new Fault(4, place);
                String name = token;
                air.put(name, number(0, name.equals("wind") ? 8 : 9));
            } else {
                throw new Fault(2, place);
            }
        }
    }

    int text() {
        Parser parser = new Parser(tape);
        tape = "";
        try {
            int lines = parser.lines();
            world = new World(parser.works, parser.readers,
                    parser.air.getOrDefault("wind", 4), parser.air.getOrDefault("damp", 0));
            seen.clear();
            images[0] = null;
            images[1] = null;
            latestFault = 0;
            return lines;
        } catch (Fault f) {
            latestFault = f.number;
            return -10 - f.place;
        }
    }

    int fault() {
        return latestFault;
    }

    int rule(int what) {
        return switch (what) {
            case 0 -> world.works().size();
            case 1 -> world.readers().size();
            case 2 -> world.wind();
            case 3 -> world.damp();
            case 4 -> world.readsAll();
            case 5 -> world.wholes();
            default -> BAD;
        };
    }

    int work(int w, int what) {
        if (!isWork(w)) return BAD;
        Work work = world.works().get(w);
        return switch (what) {
            case 0, 1, 2, 3 -> work.get(what);
            case 4 -> work.lasts();
            case 5 -> work.wide();
            case 6 -> world.burst(w);
            case 7 -> world.stick(w);
            case 8 -> world.wholeBy(w);
            default -> BAD;
        };
    }

    int reader(int r, int what) {
        if (!isReader(r)) return BAD;
        return switch (what) {
            case 0, 1 -> world.readers().get(r).get(what);
            case 2 -> world.wholeOf(r);
            case 3 -> world.readsAny(r);
            default -> BAD;
        };
    }

    int reads(int r, int w) {
        return isReader(r) && isWork(w) ? world.reads(r, w) : BAD;
    }

    int looks(int r, int m) {
        return isReader(r) && m >= 0 && m <= 79 ? world.look(r, m) : BAD;
    }

    int sky(int m) {
        return m >= 0 && m <= 79 ? bits(world.works().size(), w -> world.up(w, m)) : BAD;
    }

    int alter(int w, int what, int v) {
        if (!isWork(w) || what < 0 || what > 3) return BAD;
        Work work = world.works().get(w);
        if (!work.with(what, v).fits()) return BAD;
        world = world.withWork(w, work.with(what, v));
        return work.get(what);
    }

    int move(int r, int what, int v) {
        if (!isReader(r) || !is01(what)) return BAD;
        Reader reader = world.readers().get(r);
        if (!reader.with(what, v).fits()) return BAD;
        world = world.withReader(r, reader.with(what, v));
        return reader.get(what);
    }

    int blow(int v) {
        if (v < 0 || v > 8) return BAD;
        int was = world.wind();
        world = world.withAir(v, world.damp());
        return was;
    }

    int damp(int v) {
        if (v < 0 || v > 9) return BAD;
        int was = world.damp();
        world = world.withAir(world.wind(), v);
        return was;
    }

    int write(int kind, int place, int minute, int power) {
        Work work = new Work(kind, place, minute, power);
        if (!work.fits()) return BAD;
        if (world.works().size() == 6) return FULL;
        List<Work> list = new ArrayList<>(world.works());
        list.add(work);
        world = new World(list, world.readers(), world.wind(), world.damp());
        return list.size();
    }

    int come(int place, int cough) {
        Reader reader = new Reader(place, cough);
        if (!reader.fits()) return BAD;
        if (world.readers().size() == 4) return FULL;
        List<Reader> list = new ArrayList<>(world.readers());
        list.add(reader);
        world = new World(world.works(), list, world.wind(), world.damp());
        return list.size();
    }

    int burn(int n) {
        int were = world.works().size();
        if (n < 0 || n > were) return BAD;
        world = new World(List.copyOf(world.works().subList(0, n)), world.readers(), world.wind(), world.damp());
        return were;
    }

    int leave(int n) {
        int were = world.readers().size();
        if (n < 0 || n > were) return BAD;
        world = new World(world.works(), List.copyOf(world.readers().subList(0, n)), world.wind(), world.damp());
        return were;
    }

    int first(int r) {
        if (!isReader(r)) return BAD;
        return IntStream.range(0, 80).filter(m -> world.look(r, m) >= 0).findFirst().orElse(NONE);
    }

    int dark() {
        return (int) minutes(m -> IntStream.range(0, world.readers().size()).allMatch(r -> world.look(r, m) == NONE));
    }

    /** Of those from least to most the first with the greatest score (what 0), or its score (1). */
    private static int best(int least, int most, IntUnaryOperator score, int what) {
        int top = IntStream.rangeClosed(least, most).map(score).max().orElseThrow();
        int at = IntStream.rangeClosed(least, most).filter(i -> score.applyAsInt(i) == top).findFirst().orElseThrow();
        return what == 0 ? at : top;
    }

    int peak(int w, int what) {
        if (!isWork(w) || !is01(what)) return BAD;
        if (best(0, 79, m -> world.lookers(w, m), 1) == 0) return NONE;
        return best(0, 79, m -> world.lookers(w, m), what);
    }

    int when(int w, int what) {
        if (!isWork(w) || !is01(what)) return BAD;
        Work work = world.works().get(w);
        return best(0, 59, v -> Integer.bitCount(world.withWork(w, work.with(2, v)).wholeBy(w)), what);
    }

    int stand(int r, int what) {
        if (!isReader(r) || !is01(what)) return BAD;
        Reader reader = world.readers().get(r);
        return best(0, 11, v -> world.withReader(r, reader.with(0, v)).readsAny(r), what);
    }

    int swap(int what) {
        if (!is01(what)) return BAD;
        int n = world.works().size();
        Map<Integer, Integer> sums = new HashMap<>();
        for (int a = 0; a < n; a++) {
            for (int b = a + 1; b < n; b++) {
                Work one = world.works().get(a);
                Work two = world.works().get(b);
                World other = world.withWork(a, one.with(2, two.minute())).withWork(b, two.with(2, one.minute()));
                sums.put(10 * a + b, other.readsAll());
            }
        }
        if (sums.values().stream().noneMatch(s -> s > world.readsAll())) return NONE;
        return best(0, 99, i -> sums.getOrDefault(i, -1), what);
    }

    int lose(int what) {
        if (!is01(what)) return BAD;
        int n = world.works().size();
        IntUnaryOperator score = w -> world.without(Set.of(w)).wholes();
        if (n == 0 || best(0, n - 1, score, 1) <= world.wholes()) return NONE;
        return best(0, n - 1, score, what);
    }

    int need(int w, int r) {
        if (!isWork(w) || !isReader(r)) return BAD;
        Work work = world.works().get(w);
        return IntStream.rangeClosed(1, 9).filter(v -> world.withWork(w, work.with(3, v)).whole(r, w))
                .findFirst().orElse(NONE);
    }

    int dry(int r) {
        if (!isReader(r)) return BAD;
        return IntStream.rangeClosed(0, 9).filter(v -> world.withAir(world.wind(), v).readsAny(r) > 0)
                .max().orElse(NONE);
    }

    int kind(int w, int what) {
        if (!isWork(w) || !is01(what)) return BAD;
        Work work = world.works().get(w);
        return best(0, 3, v -> {
            World other = world.withWork(w, work.with(0, v));
            return IntStream.range(0, world.readers().size()).map(r -> other.reads(r, w)).sum();
        }, what);
    }

    /** The mean of an amount over all ways in which WORKS may be damp ones. */
    private long mean(int v, ToIntFunction<World> amount, int what) {
        int n = world.works().size();
        BigInteger sum = BigInteger.ZERO;
        for (int mask = 0; mask < 1 << n; mask++) {
            Set<Integer> out = new HashSet<>();
            for (int w = 0; w < n; w++) {
                if ((mask >> w & 1) == 1) out.add(w);
            }
            BigInteger weight = BigInteger.valueOf(v).pow(out.size()).multiply(BigInteger.valueOf(10 - v).pow(n - out.size()));
            if (weight.signum() != 0) {
                sum = sum.add(weight.multiply(BigInteger.valueOf(amount.applyAsInt(world.without(out)))));
            }
        }
        BigInteger all = BigInteger.TEN.pow(n);
        BigInteger common = sum.gcd(all);
        return (what == 0 ? sum : all).divide(common).longValueExact();
    }

    long luck(int v, int r, int w, int what) {
        if (v < 0 || v > 10 || !isReader(r) || !isWork(w) || !is01(what)) return BAD;
        return mean(v, world -> world.whole(r, w) ? 1 : 0, what);
    }

    long mean(int v, int what) {
        if (v < 0 || v > 10 || !is01(what)) return BAD;
        return mean(v, World::readsAll, what);
    }

    int see(int w, int p) {
        if (!isWork(w) || p < 0 || p > 11) return BAD;
        if (seen.size() == 6) return FULL;
        seen.add(new int[] {w, p});
        return seen.size();
    }

    int forget(int n) {
        int were = seen.size();
        if (n < 0 || n > were) return BAD;
        seen.subList(n, were).clear();
        return were;
    }

    private boolean asSeen(World other) {
        return seen.stream().allMatch(s -> s[0] < other.works().size() && other.stick(s[0]) == s[1]);
    }

    int winds() {
        return bits(9, v -> asSeen(world.withAir(v, world.damp())));
    }

    int froms(int w) {
        return isWork(w) ? bits(12, v -> asSeen(world.withWork(w, world.works().get(w).with(1, v)))) : BAD;
    }

    int kinds(int w) {
        return isWork(w) ? bits(4, v -> asSeen(world.withWork(w, world.works().get(w).with(0, v)))) : BAD;
    }

    int ask(int what) {
        if (!is01(what)) return BAD;
        int now = winds();
        int n = world.works().size();
        Function<Integer, Integer> worst = w -> {
            Map<Integer, Integer> left = new HashMap<>();
            for (int v = 0; v < 9; v++) {
                if ((now >> v & 1) == 1) left.merge(world.withAir(v, 0).stick(w), 1, Integer::sum);
            }
            return left.values().stream().max(Comparator.naturalOrder()).orElse(0);
        };
        int fewest = IntStream.range(0, n).map(worst::apply).min().orElse(99);
        if (fewest >= Integer.bitCount(now)) return NONE;
        return what == 1 ? fewest : IntStream.range(0, n).filter(w -> worst.apply(w) == fewest).findFirst().orElseThrow();
    }

    int drift(int seed, int n, int what) {
        if (n < 1 || n > 60 || !is01(what)) return BAD;
        long s = seed;
        int sum = 0;
        for (int i = 0; i < n; i++) {
            s = (s * 1103515245L + 12345L) & 0xffffffffL;
            int got = (int) (s >> 16) & 0x7fff;
            World other = world.withAir(got % 9, got / 16 % 10);
            sum += what == 0 ? other.wholes() : other.readsAll();
        }
        return sum;
    }

    int keep(int k) {
        if (!is01(k)) return BAD;
        int was = images[k] == null ? 0 : 1;
        images[k] = world;
        return was;
    }

    int back(int k) {
        if (!is01(k)) return BAD;
        if (images[k] == null) return STATE;
        world = images[k];
        return world.works().size();
    }

    int sheet(int k, int lane, int n) {
        if (k < 0 || k > 3 || lane < 0 || lane > 2 || n > 40) return BAD;
        try {
            sheets[k] = lane == 0 ? new byte[n] : lane == 1 ? new short[n] : new int[n];
            return 1;
        } catch (NegativeArraySizeException e) {
            return -14;
        }
    }

    int lay(int k, int i, int v) {
        if (k < 0 || k > 3) return BAD;
        try {
            if (sheets[k] instanceof byte[] b) {
                b[i] = (byte) v;
            } else if (sheets[k] instanceof short[] s) {
                s[i] = (short) v;
            } else {
                ((int[]) sheets[k])[i] = v;
            }
            return 1;
        } catch (NullPointerException e) {
            return -11;
        } catch (ArrayIndexOutOfBoundsException e) {
            return -12;
        }
    }

    private int cell(int k, int lane, int i) {
        return lane == 0 ? ((byte[]) sheets[k])[i] : lane == 1 ? ((short[]) sheets[k])[i] : ((int[]) sheets[k])[i];
    }

    int read(int k, int lane, int f, int n) {
        if (k < 0 || k > 3 || lane < 0 || lane > 2 || n < 0 || n > 10) return BAD;
        World before = world;
        int came = 0;
        int found = 0;
        try {
            for (int at = f; came < n; at += 4) {
                int kind = cell(k, lane, at);
                int from = cell(k, lane, at + 1);
                int minute = cell(k, lane, at + 2);
                int power = cell(k, lane, at + 3);
                if (write(kind, from, minute, power) < 0) {
                    world = before;
                    return -20 - came;
                }
                came++;
            }
        } catch (NullPointerException e) {
            found = 1;
        } catch (ArrayIndexOutOfBoundsException e) {
            found = 2;
        } catch (ClassCastException e) {
            found = 3;
        }
        latestTorn = found;
        return came;
    }

    int torn() {
        return latestTorn;
    }

    int count(int what) {
        return switch (what) {
            case 0 -> seen.size();
            case 1 -> (images[0] == null ? 0 : 1) + (images[1] == null ? 0 : 1);
            case 2 -> tape.length();
            case 3 -> sheets[0] == null ? NONE : java.lang.reflect.Array.getLength(sheets[0]);
            case 4 -> world.works().stream().mapToInt(Work::power).sum();
            case 5 -> world.readers().stream().mapToInt(Reader::coughs).sum();
            default -> BAD;
        };
    }
}
