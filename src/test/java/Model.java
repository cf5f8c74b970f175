import java.math.BigInteger;
import java.util.ArrayList;
import java.util.HashMap;
import java.util.List;
import java.util.Map;
import java.util.TreeMap;
import java.util.function.Consumer;
import java.util.function.ToIntFunction;
import java.util.regex.Matcher;
import java.util.regex.Pattern;

/** The document once more, written the slow way: what EveningPoach is compared with. */
final class Model {
    static final class Gate {
        int light = 30;
        int grows = 2;
    }

    static final class Taker {
        String kind;
        int gate;
        int bag;
        int held;

        int takes() {
            return switch (kind) {
                case "net", "dog" -> 6;
                case "boy" -> 3;
                default -> 12;
            };
        }

        int noise() {
            return switch (kind) {
                case "net" -> 3;
                case "dog" -> 1;
                default -> 5;
            };
        }
    }

    static final class Keeper {
        int start;
        int step;
        int ear;
    }

    static final List<String> KINDS = List.of("net", "dog", "boy", "squire");

    /** What an image holds, and what came of the nights that were run on it. */
    static final class World {
        final List<Gate> gates = new ArrayList<>();
        final List<Taker> takers = new ArrayList<>();
        final List<Keeper> keepers = new ArrayList<>();
        int night;
        int catches;
        int taken;
        final List<int[]> caught = new ArrayList<>();

        World() {
            for (int i = 0; i < 6; i++) {
                gates.add(new Gate());
            }
        }

        World copy() {
            World w = new World();
            for (int i = 0; i < 6; i++) {
                w.gates.get(i).light = gates.get(i).light;
                w.gates.get(i).grows = gates.get(i).grows;
            }
            for (Taker t : takers) {
                Taker c = new Taker();
                c.kind = t.kind;
                c.gate = t.gate;
                c.bag = t.bag;
                c.held = t.held;
                w.takers.add(c);
            }
            for (Keeper k : keepers) {
                w.addKeeper(k.start, k.step, k.ear);
            }
            w.night = night;
            w.catches = catches;
            return w;
        }

        void addKeeper(int start, int step, int ear) {
            Keeper k = new Keeper();
            k.start = start;
            k.step = step;
            k.ear = ear;
            keepers.add(k);
        }

        int at(Keeper k) {
            return (k.start + night * k.step) % 6;
        }

        boolean heard(Taker t) {
            return keepers.stream().anyMatch(k -> at(k) == t.gate && t.noise() >= k.ear);
        }

        void pass(boolean hazy) {
            for (int i = 0; i < takers.size(); i++) {
                Taker t = takers.get(i);
                if (t.held != 0) {
                    t.held -= 1;
                    continue;
                }
                if (heard(t) && !hazy) {
                    t.held = 7;
                    catches = catches == 999 ? 999 : catches + 1;
                    caught.add(new int[] {night, i});
                    continue;
                }
                Gate g = gates.get(t.gate);
                int much = g.light < t.takes() ? g.light : t.takes();
                g.light -= much;
                taken += much;
                t.bag = t.bag + much > 999 ? 999 : t.bag + much;
            }
            for (Gate g : gates) {
                g.light = g.light + g.grows > 60 ? 60 : g.light + g.grows;
            }
            night++;
        }

        World pass(int n) {
            for (int i = 0; i < n; i++) {
                pass(false);
            }
            return this;
        }

        int light() {
            return gates.stream().mapToInt(g -> g.light).sum();
        }

        boolean wasCaught(int t) {
            return caught.stream().anyMatch(c -> c[1] == t);
        }
    }

    private static final class Fault extends RuntimeException {
        private static final long serialVersionUID = 1;
        final int which;
        final int place;

        Fault(int which, int place) {
            this.which = which;
            this.place = place;
        }
    }

    World world = new World();
    final StringBuilder tape = new StringBuilder();
    int fault;
    int torn;
    final World[] images = new World[2];
    final List<int[]> seen = new ArrayList<>();
    final Object[] sheets = new Object[4];

    private World fork() {
        return world.copy();
    }

    private static boolean in(int v, int low, int high) {
        return low <= v && v <= high;
    }

    private boolean isTaker(int t) {
        return in(t, 0, world.takers.size() - 1);
    }

    private boolean isKeeper(int k) {
        return in(k, 0, world.keepers.size() - 1);
    }

    int feed(int c) {
        if (!in(c, 0, 127)) {
            return -1;
        }
        if (tape.length() == 160) {
            return -3;
        }
        tape.append((char) c);
        return tape.length();
    }

    int end(int n) {
        if (!in(n, 0, tape.length())) {
            return -1;
        }
        int had = tape.length();
        tape.delete(n, had);
        return had;
    }

    private static final Pattern TOKEN = Pattern.compile(" *(?:([a-z]+)|([0-9]+)|(;)|$|(.))", Pattern.DOTALL);

    /** The tokens of a text, each read no sooner than it is asked for. */
    private static final class Tokens {
        final String text;
        final Matcher matcher;
        int first;

        Tokens(String text) {
            this.text = text;
            this.matcher = TOKEN.matcher(text);
        }

        /** The next token; empty at the end. */
        String next() {
            if (!matcher.find()) {
                first = text.length();
                return "";
            }
            for (int group = 1; group <= 4; group++) {
                if (matcher.group(group) != null) {
                    first = matcher.start(group);
                    if (group == 4 || group == 2 && matcher.group(2).length() > 2) {
                        throw new Fault(1, first);
                    }
                    return matcher.group(group);
                }
            }
            first = text.length();
            return "";
        }

        int number(int low, int high) {
            String token = next();
            if (token.isEmpty() || !Character.isDigit(token.charAt(0))) {
                throw new Fault(2, first);
            }
            int v = Integer.parseInt(token);
            if (!in(v, low, high)) {
                throw new Fault(3, first);
            }
            return v;
        }

        void semicolon() {
            if (!next().equals(";")) {
                throw new Fault(2, first);
            }
        }
    }

    int text() {
        World w = new World();
        String text = tape.toString();
        tape.setLength(0);
        try {
            int lines = parse(text, w);
            fault = 0;
            world = w;
            seen.clear();
            images[0] = null;
            images[1] = null;
            return lines;
        } catch (Fault f) {
            fault = f.which;
            return -10 - f.place;
        }
    }

    private static int parse(String text, World w) {
        Tokens tokens = new Tokens(text);
        Map<Integer, Boolean> told = new HashMap<>();
        int lines = 0;
        for (String name = tokens.next(); !name.isEmpty(); name = tokens.next()) {
            if (KINDS.contains(name)) {
                if (w.takers.size() == 5) {
                    throw new Fault(5, tokens.first);
                }
                Taker t = new Taker();
                t.kind = name;
                t.gate = tokens.number(0, 5);
                w.takers.add(t);
            } else if (name.equals("keeper")) {
                if (w.keepers.size() == 3) {
                    throw new Fault(5, tokens.first);
                }
                int start = tokens.number(0, 5);
                int step = tokens.number(0, 5);
                w.addKeeper(start, step, tokens.number(1, 9));
            } else if (name.equals("gate")) {
                int g = tokens.number(0, 5);
                if (told.put(g, true) != null) {
                    throw new Fault(4, tokens.first);
                }
                w.gates.get(g).light = tokens.number(0, 60);
                w.gates.get(g).grows = tokens.number(0, 9);
            } else {
                throw new Fault(2, tokens.first);
            }
            tokens.semicolon();
            lines++;
        }
        return lines;
    }

    private static int bits(int n, java.util.function.IntPredicate p) {
        int bits = 0;
        for (int i = 0; i < n; i++) {
            if (p.test(i)) {
                bits += 1 << i;
            }
        }
        return bits;
    }

    int rule(int what) {
        return switch (what) {
            case 0 -> world.takers.size();
            case 1 -> world.keepers.size();
            case 2 -> world.night;
            case 3 -> world.catches;
            case 4 -> world.light();
            case 5 -> world.takers.stream().mapToInt(t -> t.bag).sum();
            case 6 -> bits(world.takers.size(), t -> world.takers.get(t).held != 0);
            case 7 -> bits(world.takers.size(), t -> fork().pass(1).wasCaught(t));
            default -> -1;
        };
    }

    int gate(int g, int what) {
        if (!in(g, 0, 5)) {
            return -1;
        }
        return switch (what) {
            case 0 -> world.gates.get(g).light;
            case 1 -> world.gates.get(g).grows;
            case 2 -> bits(world.takers.size(), t -> world.takers.get(t).gate == g);
            case 3 -> bits(world.keepers.size(), k -> world.at(world.keepers.get(k)) == g);
            default -> -1;
        };
    }

    int taker(int t, int what) {
        if (!isTaker(t)) {
            return -1;
        }
        Taker x = world.takers.get(t);
        return switch (what) {
            case 0 -> KINDS.indexOf(x.kind);
            case 1 -> x.gate;
            case 2 -> x.bag;
            case 3 -> x.held;
            case 4 -> x.takes();
            case 5 -> x.noise();
            default -> -1;
        };
    }

    int keeper(int k, int what) {
        if (!isKeeper(k)) {
            return -1;
        }
        Keeper x = world.keepers.get(k);
        return switch (what) {
            case 0 -> x.start;
            case 1 -> x.step;
            case 2 -> x.ear;
            case 3 -> world.at(x);
            default -> -1;
        };
    }

    int alter(int t, int what, int v) {
        if (!isTaker(t) || !in(what, 0, 2) || !in(v, 0, new int[] {3, 5, 999}[what])) {
            return -1;
        }
        int was = taker(t, what);
        Taker x = world.takers.get(t);
        if (what == 0) {
            x.kind = KINDS.get(v);
        } else if (what == 1) {
            x.gate = v;
        } else {
            x.bag = v;
        }
        return was;
    }

    int order(int k, int what, int v) {
        if (!isKeeper(k) || !in(what, 0, 2) || !in(v, what == 2 ? 1 : 0, what == 2 ? 9 : 5)) {
            return -1;
        }
        int was = keeper(k, what);
        Keeper x = world.keepers.get(k);
        if (what == 0) {
            x.start = v;
        } else if (what == 1) {
            x.step = v;
        } else {
            x.ear = v;
        }
        return was;
    }

    int tend(int g, int what, int v) {
        if (!in(g, 0, 5) || !in(what, 0, 1) || !in(v, 0, what == 0 ? 60 : 9)) {
            return -1;
        }
        int was = gate(g, what);
        if (what == 0) {
            world.gates.get(g).light = v;
        } else {
            world.gates.get(g).grows = v;
        }
        return was;
    }

    int free(int t) {
        if (!isTaker(t)) {
            return -1;
        }
        int was = world.takers.get(t).held;
        world.takers.get(t).held = 0;
        return was == 0 ? -2 : was;
    }

    int hire(int start, int step, int ear) {
        if (!in(start, 0, 5) || !in(step, 0, 5) || !in(ear, 1, 9)) {
            return -1;
        }
        if (world.keepers.size() == 3) {
            return -3;
        }
        world.addKeeper(start, step, ear);
        return world.keepers.size();
    }

    int dismiss(int n) {
        int were = world.keepers.size();
        if (!in(n, 0, were)) {
            return -1;
        }
        world.keepers.subList(n, were).clear();
        return were;
    }

    int nights(int n) {
        if (!in(n, 0, 30)) {
            return -1;
        }
        if (world.night + n >= 1000) {
            return -3;
        }
        world.taken = 0;
        world.pass(n);
        return world.taken;
    }

    int runs(int n, int what) {
        if (!in(n, 0, 60) || !in(what, 0, 4)) {
            return -1;
        }
        World w = fork().pass(n);
        return switch (what) {
            case 0 -> w.taken;
            case 1 -> bits(5, w::wasCaught);
            case 2 -> w.caught.size();
            case 3 -> w.light();
            default -> w.caught.isEmpty() ? -4 : w.caught.get(0)[0] - world.night + 1;
        };
    }

    int ahead(int t, int n, int what) {
        if (!isTaker(t) || !in(n, 0, 60) || !in(what, 0, 1)) {
            return -1;
        }
        Taker x = fork().pass(n).takers.get(t);
        return what == 0 ? x.bag : x.held;
    }

    int glow(int g, int n) {
        return in(g, 0, 5) && in(n, 0, 60) ? fork().pass(n).gates.get(g).light : -1;
    }

    int caught(int t) {
        if (!isTaker(t)) {
            return -1;
        }
        for (int[] c : fork().pass(60).caught) {
            if (c[1] == t) {
                return c[0] - world.night + 1;
            }
        }
        return -4;
    }

    /** The greatest value by key, the least key of several: key and value; null if there is none. */
    private static int[] most(Map<Integer, Integer> values) {
        int[] found = null;
        for (Map.Entry<Integer, Integer> e : new TreeMap<>(values).entrySet()) {
            if (found == null || e.getValue() > found[1]) {
                found = new int[] {e.getKey(), e.getValue()};
            }
        }
        return found;
    }

    private int tried(World w, Consumer<World> change, int n, ToIntFunction<World> worth) {
        change.accept(w);
        return worth.applyAsInt(w.pass(n));
    }

    int best(int t, int n, int what) {
        if (!isTaker(t) || !in(n, 0, 60) || !in(what, 0, 1)) {
            return -1;
        }
        Map<Integer, Integer> values = new HashMap<>();
        for (int g = 0; g < 6; g++) {
            int gate = g;
            values.put(g, tried(fork(), w -> w.takers.get(t).gate = gate, n, w -> w.takers.get(t).bag));
        }
        return most(values)[what];
    }

    int ripen(int t, int n, int what) {
        if (!isTaker(t) || !in(n, 0, 60) || !in(what, 0, 1)) {
            return -1;
        }
        Map<Integer, Integer> values = new HashMap<>();
        for (int home = 0; home <= 20; home++) {
            World w = fork();
            // Held anew for each night at home, not once for all of them.
            Taker x = w.takers.get(t);
            x.held = 0;
            int bag = x.bag;
            for (int i = 0; i < n; i++) {
                if (i < home) {
                    x.held = 1;
                }
                w.pass(false);
                if (i < home && (x.held != 0 || x.bag != bag)) {
                    throw new IllegalStateException("he was not at home");
                }
            }
            values.put(home, x.bag);
        }
        return most(values)[what];
    }

    int swap(int n, int what) {
        if (!in(n, 0, 60) || !in(what, 0, 1)) {
            return -1;
        }
        int asItIs = fork().pass(n).taken;
        Map<Integer, Integer> values = new HashMap<>();
        for (int a = 0; a < world.takers.size(); a++) {
            for (int b = 0; b < a; b++) {
                int gateA = world.takers.get(a).gate;
                int gateB = world.takers.get(b).gate;
                World w = fork();
                w.takers.get(a).gate = gateB;
                w.takers.get(b).gate = gateA;
                if (w.pass(n).taken > asItIs) {
                    values.put(10 * b + a, w.taken);
                }
            }
        }
        return values.isEmpty() ? -4 : most(values)[what];
    }

    int round(int k, int n, int what) {
        if (!isKeeper(k) || !in(n, 0, 60) || !in(what, 0, 1)) {
            return -1;
        }
        Map<Integer, Integer> values = new HashMap<>();
        for (int i = 0; i < 36; i++) {
            World w = fork();
            w.keepers.get(k).start = i / 6;
            w.keepers.get(k).step = i % 6;
            values.put(i / 6 * 10 + i % 6, w.pass(n).caught.size());
        }
        return most(values)[what];
    }

    int post(int ear, int n, int what) {
        if (!in(ear, 1, 9) || !in(n, 0, 60) || !in(what, 0, 1)) {
            return -1;
        }
        if (world.keepers.size() == 3) {
            return -3;
        }
        Map<Integer, Integer> values = new HashMap<>();
        for (int g = 0; g < 6; g++) {
            int start = g;
            values.put(g, -tried(fork(), w -> w.addKeeper(start, 0, ear), n, w -> w.taken));
        }
        int[] found = most(values);
        return what == 0 ? found[0] : -found[1];
    }

    int kind(int t, int n, int what) {
        if (!isTaker(t) || !in(n, 0, 60) || !in(what, 0, 1)) {
            return -1;
        }
        Map<Integer, Integer> values = new HashMap<>();
        for (String kind : KINDS) {
            values.put(KINDS.indexOf(kind),
                tried(fork(), w -> w.takers.get(t).kind = kind, n, w -> w.takers.get(t).bag));
        }
        return most(values)[what];
    }

    int sharp(int k, int t, int n) {
        if (!isKeeper(k) || !isTaker(t) || !in(n, 0, 60)) {
            return -1;
        }
        int found = -4;
        for (int ear = 1; ear <= 9; ear++) {
            World w = fork();
            w.keepers.get(k).ear = ear;
            if (w.pass(n).wasCaught(t)) {
                found = ear;
            }
        }
        return found;
    }

    private long hazes(int v, int n, int what, ToIntFunction<World> worth) {
        BigInteger sum = BigInteger.ZERO;
        for (int mask = 0; mask < 1 << n; mask++) {
            World w = fork();
            BigInteger weight = BigInteger.ONE;
            for (int i = 0; i < n; i++) {
                boolean hazy = (mask & 1 << i) != 0;
                weight = weight.multiply(BigInteger.valueOf(hazy ? v : 10 - v));
                w.pass(hazy);
            }
            sum = sum.add(weight.multiply(BigInteger.valueOf(worth.applyAsInt(w))));
        }
        BigInteger all = BigInteger.TEN.pow(n);
        BigInteger divisor = sum.gcd(all);
        return (what == 0 ? sum : all).divide(divisor).longValueExact();
    }

    long luck(int v, int t, int n, int what) {
        if (!in(v, 0, 10) || !isTaker(t) || !in(n, 0, 8) || !in(what, 0, 1)) {
            return -1;
        }
        return hazes(v, n, what, w -> w.wasCaught(t) ? 0 : 1);
    }

    long mean(int v, int n, int what) {
        if (!in(v, 0, 10) || !in(n, 0, 8) || !in(what, 0, 1)) {
            return -1;
        }
        return hazes(v, n, what, w -> w.taken);
    }

    int see(int n, int g, int v) {
        if (!in(n, 0, 20) || !in(g, 0, 5) || !in(v, 0, 60)) {
            return -1;
        }
        if (seen.size() == 6) {
            return -3;
        }
        seen.add(new int[] {n, g, v});
        return seen.size();
    }

    int forget(int n) {
        int were = seen.size();
        if (!in(n, 0, were)) {
            return -1;
        }
        seen.subList(n, were).clear();
        return were;
    }

    private boolean asSeen(World w, List<int[]> all) {
        return all.stream().allMatch(s -> w.copy().pass(s[0]).gates.get(s[1]).light == s[2]);
    }

    int kinds(int t) {
        if (!isTaker(t)) {
            return -1;
        }
        return bits(4, kind -> {
            World w = fork();
            w.takers.get(t).kind = KINDS.get(kind);
            return asSeen(w, seen);
        });
    }

    private int gates(int t, List<int[]> all) {
        return bits(6, g -> {
            World w = fork();
            w.takers.get(t).gate = g;
            return asSeen(w, all);
        });
    }

    int gates(int t) {
        return isTaker(t) ? gates(t, seen) : -1;
    }

    int ask(int t, int what) {
        if (!isTaker(t) || !in(what, 0, 1)) {
            return -1;
        }
        int candidates = gates(t);
        Map<Integer, Integer> values = new HashMap<>();
        for (int n = 0; n <= 20; n++) {
            for (int g = 0; g < 6; g++) {
                Map<Integer, Integer> left = new HashMap<>();
                for (int c = 0; c < 6; c++) {
                    if ((candidates & 1 << c) != 0) {
                        World w = fork();
                        w.takers.get(t).gate = c;
                        left.merge(w.pass(n).gates.get(g).light, 1, Integer::sum);
                    }
                }
                int worst = left.values().stream().mapToInt(i -> i).max().orElse(0);
                if (worst < Integer.bitCount(candidates)) {
                    values.put(10 * n + g, -worst);
                }
            }
        }
        if (values.isEmpty()) {
            return -4;
        }
        int[] found = most(values);
        return what == 0 ? found[0] : -found[1];
    }

    int drift(int seed, int n, int what) {
        if (!in(n, 1, 60) || !in(what, 0, 1)) {
            return -1;
        }
        if (world.takers.isEmpty()) {
            return -2;
        }
        World w = fork();
        BigInteger s = BigInteger.valueOf(seed);
        for (int i = 0; i < n; i++) {
            s = s.multiply(BigInteger.valueOf(1103515245)).add(BigInteger.valueOf(12345));
            int got = s.shiftRight(16).mod(BigInteger.valueOf(32768)).intValue();
            w.takers.get(got % w.takers.size()).gate = Math.floorDiv(got, 8) % 6;
            w.pass(false);
        }
        return what == 0 ? w.taken : w.caught.size();
    }

    int keep(int k) {
        if (!in(k, 0, 1)) {
            return -1;
        }
        int was = images[k] == null ? 0 : 1;
        images[k] = fork();
        return was;
    }

    int back(int k) {
        if (!in(k, 0, 1)) {
            return -1;
        }
        if (images[k] == null) {
            return -2;
        }
        world = images[k].copy();
        return world.night;
    }

    int sheet(int k, int lane, int n) {
        if (!in(k, 0, 3) || !in(lane, 0, 2) || n > 40) {
            return -1;
        }
        if (n < 0) {
            return -14;
        }
        sheets[k] = switch (lane) {
            case 0 -> new byte[n];
            case 1 -> new short[n];
            default -> new int[n];
        };
        return 1;
    }

    int lay(int k, int i, int v) {
        if (!in(k, 0, 3)) {
            return -1;
        }
        try {
            if (sheets[k] instanceof byte[] b) {
                b[i] = (byte) v;
            } else if (sheets[k] instanceof short[] s) {
                s[i] = (short) v;
            } else {
                ((int[]) sheets[k])[i] = v;
            }
            return 1;
        } catch (NullPointerException e) {
            return -11;
        } catch (ArrayIndexOutOfBoundsException e) {
            return -12;
        }
    }

    private int cell(int k, int lane, int i) {
        return switch (lane) {
            case 0 -> ((byte[]) sheets[k])[i];
            case 1 -> ((short[]) sheets[k])[i];
            default -> ((int[]) sheets[k])[i];
        };
    }

    int read(int k, int lane, int f, int n) {
        if (!in(k, 0, 3) || !in(lane, 0, 2) || !in(n, 0, 20)) {
            return -1;
        }
        World was = fork();
        int found = 0;
        int came = 0;
        try {
            for (int i = 0; i < n; i++) {
                int t = cell(k, lane, f + 2 * i);
                int g = cell(k, lane, f + 2 * i + 1);
                if (alter(t, 1, g) < 0 || nights(1) < 0) {
                    world = was;
                    return -20 - i;
                }
                came++;
            }
        } catch (NullPointerException e) {
            found = 1;
        } catch (ArrayIndexOutOfBoundsException e) {
            found = 2;
        } catch (ClassCastException e) {
            found = 3;
        }
        torn = found;
        return came;
    }

    int count(int what) {
        return switch (what) {
            case 0 -> seen.size();
            case 1 -> (images[0] == null ? 0 : 1) + (images[1] == null ? 0 : 1);
            case 2 -> tape.length();
            case 3 -> sheets[0] == null ? -4 : java.lang.reflect.Array.getLength(sheets[0]);
            case 4 -> world.gates.stream().mapToInt(g -> g.grows).sum();
            case 5 -> world.keepers.stream().mapToInt(k -> k.ear).sum();
            default -> -1;
        };
    }
}
