import java.math.BigInteger;
import java.util.ArrayList;
import java.util.Comparator;
import java.util.List;
import java.util.Map;
import java.util.TreeMap;
import java.util.function.IntPredicate;
import java.util.stream.Collectors;
import java.util.stream.IntStream;

/**
 * The document told a second time, as plainly as can be and in another manner than PutOn's: with
 * exceptions, streams, big numbers, a tree of classes for the KINDS and one of functions for a TEXT.
 * ModelTest holds the two against one another.
 */
final class Model {
    static final long NO = -4611686018427387904L;

    static final class Refused extends RuntimeException {
        private static final long serialVersionUID = 1;
        final int answer;

        Refused(int answer) {
            super(null, null, false, false);
            this.answer = answer;
        }
    }

    private static void refuse(boolean unless, int answer) {
        if (!unless) {
            throw new Refused(answer);
        }
    }

    static final class Clock {
        int off, room, self, saw = -1;

        Clock(int off, int room, int self, int saw) {
            this.off = off;
            this.room = room;
            this.self = self;
            this.saw = saw;
        }
    }

    static class Doer {
        int number, way;

        boolean does(int c, int d, int b, int a) {
            return true;
        }

        int adds(int v, int b) {
            return v;
        }
    }

    static class Trusting extends Doer {
        @Override
        boolean does(int c, int d, int b, int a) {
            return b >= 30;
        }

        @Override
        int adds(int v, int b) {
            return b;
        }
    }

    static class Shy extends Doer {
        @Override
        boolean does(int c, int d, int b, int a) {
            return a <= number / 4;
        }
    }

    static final class Marking extends Trusting {
        @Override
        boolean does(int c, int d, int b, int a) {
            return super.does(c, d, b, a) && !(d > 0);
        }

        @Override
        int adds(int v, int b) {
            return Math.min(super.adds(v, b), 60);
        }
    }

    static final class Halving extends Shy {
        @Override
        boolean does(int c, int d, int b, int a) {
            return super.does(c, d, b, a) && (c + number) % 2 != 1;
        }

        @Override
        int adds(int v, int b) {
            return super.adds(v, b) / 2;
        }
    }

    static final class Zealous extends Doer {
        @Override
        boolean does(int c, int d, int b, int a) {
            return d <= 1;
        }

        @Override
        int adds(int v, int b) {
            return number > 4 ? 2 * super.adds(v, b) : super.adds(v, b);
        }
    }

    private static Doer doerOf(int kind) {
        switch (kind) {
            case 0: return new Doer();
            case 1: return new Trusting();
            case 2: return new Shy();
            case 3: return new Marking();
            case 4: return new Halving();
            default: return new Zealous();
        }
    }

    private static final List<Class<? extends Doer>> KINDS =
        List.of(Doer.class, Trusting.class, Shy.class, Marking.class, Halving.class, Zealous.class);

    /** An E: an int of the values of the NAMES. */
    interface E {
        int of(Map<String, Integer> names);
    }

    static final class Fault extends Exception {
        private static final long serialVersionUID = 1;
        final int place;

        Fault(int place) {
            super(null, null, false, false);
            this.place = place;
        }
    }

    /** Reads a TEXT sign by sign; open is counted up and down while it reads. */
    static final class Parser {
        private final String s;
        private int i = 0;
        private int open = 0;

        Parser(String s) {
            this.s = s;
        }

        private String token() {
            while (i < s.length() && (s.charAt(i) == ' ' || s.charAt(i) == '\n')) {
                i++;
            }
            int j = i;
            while (j < s.length() && s.charAt(j) >= 'a' && s.charAt(j) <= 'z') {
                j++;
            }
            if (j > i) {
                return s.substring(i, j);
            }
            while (j < s.length() && s.charAt(j) >= '0' && s.charAt(j) <= '9') {
                j++;
            }
            if (j > i) {
                return s.substring(i, j);
            }
            return i < s.length() ? s.substring(i, i + 1) : "";
        }

        private boolean has(String token) {
            if (!token().equals(token)) {
                return false;
            }
            i += token.length();
            return true;
        }

        private void must(String token) throws Fault {
            if (!has(token)) {
                throw new Fault(i);
            }
        }

        private void opens() throws Fault {
            if (open == 5) {
                throw new Fault(i);
            }
            open++;
        }

        E[] text() throws Fault {
            E[] parts = new E[3];
            String[] keys = {"came", "adds", "minds"};
            for (int k = 0; k < 3; k++) {
                must(keys[k]);
                parts[k] = e();
                must(";");
            }
            must("");
            return parts;
        }

        private E e() throws Fault {
            E first = and();
            while (has("or")) {
                E a = first;
                E b = and();
                first = n -> a.of(n) != 0 | b.of(n) != 0 ? 1 : 0;
            }
            return first;
        }

        private E and() throws Fault {
            E first = not();
            while (has("and")) {
                E a = first;
                E b = not();
                first = n -> a.of(n) != 0 & b.of(n) != 0 ? 1 : 0;
            }
            return first;
        }

        private E not() throws Fault {
            if (token().equals("not")) {
                opens();
                must("not");
                E a = not();
                open--;
                return n -> a.of(n) == 0 ? 1 : 0;
            }
            E a = sum();
            if (has("<")) {
                E b = sum();
                return n -> a.of(n) < b.of(n) ? 1 : 0;
            }
            if (has("=")) {
                E b = sum();
                return n -> a.of(n) == b.of(n) ? 1 : 0;
            }
            return a;
        }

        private E sum() throws Fault {
            E first = term();
            while (true) {
                E a = first;
                if (has("+")) {
                    E b = term();
                    first = n -> a.of(n) + b.of(n);
                } else if (has("-")) {
                    E b = term();
                    first = n -> a.of(n) - b.of(n);
                } else {
                    return first;
                }
            }
        }

        private E term() throws Fault {
            E first = one();
            while (has("*")) {
                E a = first;
                E b = one();
                first = n -> a.of(n) * b.of(n);
            }
            return first;
        }

        private E one() throws Fault {
            String token = token();
            if (token.matches("[0-9]{1,4}")) {
                must(token);
                int v = Integer.parseInt(token);
                return n -> v;
            }
            if (List.of("clock", "who", "room", "off", "done", "rooms").contains(token)) {
                must(token);
                return n -> n.get(token);
            }
            if (token.equals("-")) {
                opens();
                must("-");
                E a = one();
                open--;
                return n -> -a.of(n);
            }
            if (token.equals("(")) {
                opens();
                must("(");
                E a = e();
                must(")");
                open--;
                return a;
            }
            throw new Fault(i);
        }
    }

    /** How a WORLD comes out. */
    static final class World {
        final int bits;
        int[] at, done;
        long chance;
        boolean fits;
        int time = -1;

        World(int bits) {
            this.bits = bits;
        }

        boolean right(int c) {
            return at[c] == 60;
        }

        int right() {
            return IntStream.range(0, at.length).filter(this::right).map(c -> 1 << c).sum();
        }
    }

    private List<Clock> clocks = new ArrayList<>();
    private List<Doer> doers = new ArrayList<>();
    private final List<E[]> texts = new ArrayList<>();
    private StringBuilder tape = new StringBuilder();
    private int rule = 0;
    private final Object[] sheets = new Object[4];
    private List<Clock> keptClocks = null;
    private int[][] keptDoers;
    private int keptRule;

    Model() {
        texts.add(new E[] {n -> 50, n -> 60, n -> 1});
    }

    private static Map<String, Integer> names(int clock, int who, int room, int off, int done, int rooms) {
        return Map.of("clock", clock, "who", who, "room", room, "off", off, "done", done, "rooms", rooms);
    }

    private static int between(int low, int high, int v) {
        return v < low ? low : v > high ? high : v;
    }

    private int came(int d) {
        return between(0, 100, texts.get(rule)[0].of(names(0, d, 0, 0, 0, Integer.bitCount(doers.get(d).way))));
    }

    private World outcome(int bits) {
        World w = new World(bits);
        int n = clocks.size();
        w.at = clocks.stream().mapToInt(c -> c.off + 60 * c.self).toArray();
        w.done = clocks.stream().mapToInt(c -> c.self).toArray();
        w.chance = 1;
        List<Doer> ahead = new ArrayList<>();
        for (int who = 0; who < doers.size(); who++) {
            Doer doer = doers.get(who);
            if ((bits & 1 << who) == 0) {
                w.chance *= 100 - came(who);
                continue;
            }
            w.chance *= came(who);
            for (int room = 0; room < 6; room++) {
                for (int c = 0; c < n; c++) {
                    Clock clock = clocks.get(c);
                    if ((doer.way & 1 << room) == 0 || clock.room != room || clock.self == 1) {
                        continue;
                    }
                    int behind = w.at[doer.number % n] - w.at[c];
                    if (doer.does(c, w.done[c], behind, ahead.size())) {
                        int v = between(-120, 120, texts.get(rule)[1].of(
                            names(c, who, room, clock.off, w.done[c], Integer.bitCount(doer.way))));
                        w.at[c] = w.at[c] + doer.adds(v, behind);
                        w.done[c] = w.done[c] + 1;
                    }
                }
            }
            ahead.add(doer);
        }
        int[] seen = IntStream.range(0, n).filter(c -> clocks.get(c).saw >= 0)
            .map(c -> (clocks.get(c).saw - w.at[c] + 14400) % 1440).distinct().toArray();
        w.fits = seen.length <= 1;
        if (seen.length == 1) {
            w.time = (seen[0] + 60) % 1440;
        }
        return w;
    }

    private List<World> all() {
        return IntStream.range(0, 1 << doers.size()).mapToObj(this::outcome).collect(Collectors.toList());
    }

    private List<World> fitting() {
        return all().stream().filter(w -> w.fits).collect(Collectors.toList());
    }

    private static long chance(List<World> worlds) {
        return worlds.stream().mapToLong(w -> w.chance).sum();
    }

    private static long chance(List<World> worlds, IntPredicate bits) {
        return worlds.stream().filter(w -> bits.test(w.bits)).mapToLong(w -> w.chance).sum();
    }

    private static long part(long above, long below, int part) {
        if (below == 0 || part < 0 || part > 1) {
            return NO;
        }
        BigInteger divisor = BigInteger.valueOf(above).gcd(BigInteger.valueOf(below));
        return BigInteger.valueOf(part == 0 ? above : below).divide(divisor).longValueExact();
    }

    private boolean isClock(int c) {
        return c >= 0 && c < clocks.size();
    }

    private boolean isDoer(int d) {
        return d >= 0 && d < doers.size();
    }

    private boolean isWorld(int w) {
        return w >= 0 && w < 1 << doers.size();
    }

    private static boolean in(int low, int high, int v) {
        return low <= v && v <= high;
    }

    int clock(int what, int off) {
        refuse(in(0, 59, what) && what % 10 <= 1 && in(-120, 120, off), -2);
        refuse(clocks.size() < 6, -4);
        clocks.add(new Clock(off, what / 10, what % 10, -1));
        return clocks.size() - 1;
    }

    int doer(int kind, int number, int way) {
        refuse(in(0, 5, kind) && in(0, 9, number) && in(0, 63, way), -2);
        refuse(doers.size() < 5, -4);
        Doer doer = doerOf(kind);
        doer.number = number;
        doer.way = way;
        doers.add(doer);
        return doers.size() - 1;
    }

    int set(int what, int of, int v) {
        refuse(in(0, 5, what), -1000);
        int was = told(of, what);
        switch (what) {
            case 0:
                refuse(in(-120, 120, v), -1000);
                clocks.get(of).off = v;
                break;
            case 1:
                refuse(in(0, 5, v), -1000);
                clocks.get(of).room = v;
                break;
            case 2:
                refuse(in(0, 1, v), -1000);
                clocks.get(of).self = v;
                break;
            case 3:
                refuse(in(-1, 1439, v), -1000);
                clocks.get(of).saw = v;
                break;
            case 4:
                refuse(in(0, 9, v), -1000);
                doers.get(of).number = v;
                break;
            default:
                refuse(in(0, 63, v), -1000);
                doers.get(of).way = v;
                break;
        }
        return was;
    }

    int told(int of, int what) {
        refuse(in(0, 7, what), -1000);
        refuse(what < 4 ? isClock(of) : isDoer(of), -1000);
        switch (what) {
            case 0: return clocks.get(of).off;
            case 1: return clocks.get(of).room;
            case 2: return clocks.get(of).self;
            case 3: return clocks.get(of).saw;
            case 4: return doers.get(of).number;
            case 5: return doers.get(of).way;
            case 6: return KINDS.indexOf(doers.get(of).getClass());
            default: return came(of);
        }
    }

    int feed(int letter) {
        refuse(in(0, 255, letter), -2);
        refuse(tape.length() < 160, -4);
        tape.append((char) letter);
        return tape.length();
    }

    int text() {
        refuse(texts.size() < 6, -4);
        String s = tape.toString();
        tape = new StringBuilder();
        try {
            texts.add(new Parser(s).text());
            return texts.size() - 1;
        } catch (Fault f) {
            return -100 - f.place;
        }
    }

    int force(int text) {
        refuse(in(0, texts.size() - 1, text), -2);
        int was = rule;
        rule = text;
        return was;
    }

    int at(int clock, int world, int what) {
        refuse(isClock(clock) && isWorld(world) && in(0, 2, what), -100000);
        World w = outcome(world);
        return what == 0 ? w.at[clock] : what == 1 ? w.done[clock] : w.right(clock) ? 1 : 0;
    }

    int right(int world, int what) {
        refuse(isWorld(world) && in(0, 2, what), -100000);
        World w = outcome(world);
        return what == 0 ? w.right() : what == 1 ? (w.fits ? 1 : 0) : w.time;
    }

    long world(int world) {
        if (world == -1) {
            return chance(fitting());
        }
        return isWorld(world) ? outcome(world).chance : NO;
    }

    long odds(int clock, int part) {
        if (!isClock(clock)) {
            return NO;
        }
        List<World> right = fitting().stream().filter(w -> w.right(clock)).collect(Collectors.toList());
        return part(chance(right), chance(fitting()), part);
    }

    private TreeMap<Integer, Long> times() {
        TreeMap<Integer, Long> times = new TreeMap<>();
        fitting().stream().filter(w -> w.time >= 0).forEach(w -> times.merge(w.time, w.chance, Long::sum));
        times.values().removeIf(chance -> chance == 0);
        return times;
    }

    private static long most(Map<Integer, Long> chances) {
        return chances.values().stream().mapToLong(v -> v).max().orElse(0);
    }

    int time(int what) {
        refuse(in(0, 1, what), -2);
        TreeMap<Integer, Long> times = times();
        return what == 1 ? times.size()
            : times.keySet().stream().filter(t -> times.get(t) == most(times)).findFirst().orElse(-1);
    }

    long sure(int part) {
        return times().isEmpty() ? NO : part(most(times()), chance(fitting()), part);
    }

    int look() {
        if (clocks.stream().allMatch(c -> c.saw == -1)) {
            return -1;
        }
        return IntStream.range(0, clocks.size()).filter(c -> clocks.get(c).saw == -1).boxed()
            .min(Comparator.comparingLong(this::mostOfSaying)).orElse(-1);
    }

    private long mostOfSaying(int c) {
        TreeMap<Integer, Long> says = new TreeMap<>();
        fitting().forEach(w -> says.merge(Math.floorMod(w.time - 60 + w.at[c], 1440), w.chance, Long::sum));
        return most(says);
    }

    int fewest() {
        List<World> likely = all().stream().filter(w -> w.chance > 0).collect(Collectors.toList());
        return IntStream.range(1, 1 << clocks.size()).filter(set -> tells(set, likely)).boxed()
            .min(Comparator.<Integer>comparingInt(Integer::bitCount).thenComparingInt(s -> s)).orElse(-1);
    }

    private boolean tells(int set, List<World> likely) {
        for (World u : likely) {
            for (World v : likely) {
                int[] more = IntStream.range(0, clocks.size()).filter(c -> (set >> c & 1) == 1)
                    .map(c -> u.at[c] - v.at[c]).distinct().toArray();
                if (more.length == 1 && more[0] > 0) {
                    return false;
                }
            }
        }
        return true;
    }

    int ask() {
        List<World> fitting = fitting();
        return IntStream.range(0, doers.size()).boxed().min(Comparator.comparingLong(d -> Math.max(
            chance(fitting, bits -> (bits >> d & 1) == 1), chance(fitting, bits -> (bits >> d & 1) == 0)))).orElse(-1);
    }

    int say(int what) {
        refuse(in(0, 1, what), -2);
        World best = all().stream().min(Comparator.<World>comparingInt(w -> -Integer.bitCount(w.right()))
            .thenComparingInt(w -> Integer.bitCount(w.bits)).thenComparingInt(w -> w.bits)).get();
        return what == 0 ? best.bits : Integer.bitCount(best.right());
    }

    long bad(int part) {
        long bad = 0;
        for (World w : fitting()) {
            for (int c = 0; c < clocks.size(); c++) {
                Clock clock = clocks.get(c);
                if (!w.right(c)) {
                    bad += w.chance * between(0, 99,
                        texts.get(rule)[2].of(names(c, 0, clock.room, clock.off, w.done[c], 0)));
                }
            }
        }
        return part(bad, chance(fitting()), part);
    }

    int late(int clock) {
        refuse(isClock(clock), -2);
        return fitting().stream().filter(w -> w.chance > 0).mapToInt(w -> Math.abs(w.at[clock] - 60)).max().orElse(-1);
    }

    int live(int world) {
        refuse(isWorld(world), -2);
        World w = outcome(world);
        for (int c = 0; c < clocks.size(); c++) {
            clocks.get(c).off = between(-120, 120, w.at[c] - 60);
            clocks.get(c).saw = -1;
        }
        return Integer.bitCount(w.right());
    }

    private static int size(Object sheet) {
        return sheet instanceof byte[] ? ((byte[]) sheet).length
            : sheet instanceof short[] ? ((short[]) sheet).length : ((int[]) sheet).length;
    }

    private static int item(Object sheet, int i) {
        return sheet instanceof byte[] ? ((byte[]) sheet)[i]
            : sheet instanceof short[] ? ((short[]) sheet)[i] : ((int[]) sheet)[i];
    }

    int tellsBack(int sheet, int what) {
        refuse(in(0, 3, sheet) && in(0, 2, what), -2);
        refuse(sheets[sheet] != null, -11);
        refuse(size(sheets[sheet]) == clocks.size(), -2);
        List<World> so = all().stream().filter(w -> w.chance > 0).filter(w -> IntStream.range(0, clocks.size())
            .allMatch(c -> item(sheets[sheet], c) == (w.right(c) ? 1 : 0) || !in(0, 1, item(sheets[sheet], c))))
            .collect(Collectors.toList());
        switch (what) {
            case 0:
                return so.size();
            case 1:
                return so.stream().min(Comparator.<World>comparingLong(w -> -w.chance).thenComparingInt(w -> w.bits))
                    .map(w -> w.bits).orElse(-1);
            default:
                return so.isEmpty() ? 0 : so.stream().mapToInt(w -> w.bits).reduce(-1, (a, b) -> a & b);
        }
    }

    int film(int sheet, int world) {
        refuse(in(0, 3, sheet) && isWorld(world), -2);
        World w = outcome(world);
        byte[] row = new byte[clocks.size()];
        for (int c = 0; c < row.length; c++) {
            row[c] = (byte) (w.right(c) ? 1 : 0);
        }
        sheets[sheet] = row;
        return row.length;
    }

    int drawn(int seed) {
        int z = seed;
        int bits = 0;
        for (int d = 0; d < doers.size(); d++) {
            z = z * 1103515245 + 12345;
            if ((z >>> 9) % 100 < came(d)) {
                bits += 1 << d;
            }
        }
        return outcome(bits).right();
    }

    long chance(int seed, int n, int part) {
        if (!in(1, 20, n)) {
            return NO;
        }
        long good = IntStream.range(0, n).filter(i -> drawn(seed + i) == (1 << clocks.size()) - 1).count();
        return part(good, n, part);
    }

    private static List<Clock> again(List<Clock> clocks) {
        return clocks.stream().map(c -> new Clock(c.off, c.room, c.self, c.saw))
            .collect(Collectors.toCollection(ArrayList::new));
    }

    int image() {
        keptClocks = again(clocks);
        keptDoers = doers.stream().map(d -> new int[] {d.number, d.way}).toArray(int[][]::new);
        keptRule = rule;
        return clocks.size();
    }

    int back() {
        refuse(keptClocks != null, -3);
        clocks = again(keptClocks);
        doers = new ArrayList<>(doers.subList(0, keptDoers.length));
        for (int d = 0; d < keptDoers.length; d++) {
            doers.get(d).number = keptDoers[d][0];
            doers.get(d).way = keptDoers[d][1];
        }
        rule = keptRule;
        return clocks.size();
    }

    int count(int what) {
        refuse(in(0, 5, what), -2);
        return new int[] {clocks.size(), doers.size(), (int) clocks.stream().filter(c -> c.saw != -1).count(),
            texts.size(), tape.length(), rule}[what];
    }

    int sheet(int sheet, int sort, int n) {
        refuse(in(0, 3, sheet) && in(-1, 2, sort), -2);
        refuse(sort == -1 || n <= 40, -2);
        refuse(sort == -1 || n >= 0, -14);
        sheets[sheet] = sort == -1 ? null : sort == 0 ? new byte[n] : sort == 1 ? new short[n] : new int[n];
        return 1;
    }

    int cell(int sheet, int i, int v) {
        refuse(in(0, 3, sheet), -2);
        refuse(sheets[sheet] != null, -11);
        refuse(in(0, size(sheets[sheet]) - 1, i), -12);
        if (sheets[sheet] instanceof byte[]) {
            ((byte[]) sheets[sheet])[i] = (byte) v;
        } else if (sheets[sheet] instanceof short[]) {
            ((short[]) sheets[sheet])[i] = (short) v;
        } else {
            ((int[]) sheets[sheet])[i] = v;
        }
        return 1;
    }

    int copy(int sheet, int i, int other, int j, int n) {
        refuse(in(0, 3, sheet) && in(0, 3, other), -2);
        refuse(sheets[sheet] != null && sheets[other] != null, -11);
        refuse(sheets[sheet].getClass() == sheets[other].getClass(), -13);
        try {
            System.arraycopy(sheets[sheet], i, sheets[other], j, n);
        } catch (IndexOutOfBoundsException outside) {
            throw new Refused(-12);
        }
        return n;
    }

    int clocks(int sheet, int sort, int from, int n) {
        refuse(in(0, 3, sheet) && in(0, 2, sort) && in(0, 6, n), -2);
        Object row = sheets[sheet];
        Class<?> ofSort = sort == 0 ? byte[].class : sort == 1 ? short[].class : int[].class;
        refuse(row == null || ofSort.isInstance(row), -13);
        refuse(row != null, -11);
        int came = 0;
        for (long k = 0; k < n; k++) {
            long place = from + 2 * k;
            refuse(place >= 0 && place + 1 < size(row), -12);
            try {
                clock(item(row, (int) place), item(row, (int) place + 1));
                came++;
            } catch (Refused left) {
                continue;
            }
        }
        return came;
    }

    int taken(int doer, int k) {
        refuse(in(0, 5, k), -2);
        refuse(isDoer(doer), -11);
        refuse(KINDS.get(k).isInstance(doers.get(doer)), -13);
        return doers.get(doer).number;
    }
}
