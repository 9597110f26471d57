import java.math.BigInteger;
import java.util.ArrayList;
import java.util.Arrays;
import java.util.HashMap;
import java.util.List;
import java.util.Map;
import java.util.Set;

/** The document said once more, as plainly as may be and by other ways than the program's. */
final class Model {
    static final class Fault extends Exception {
        final int kind;
        final int place;

        Fault(int kind, int place) {
            this.kind = kind;
            this.place = place;
        }
    }

    interface Sum {
        long value(Map<String, Integer> names);
    }

    static final class Ox {
        int home;
        int second;
        int strength;
        int ear;
        int owner;
        int nights;
        int at;
        int mate = -1;

        Ox copy() {
            Ox ox = new Ox();
            ox.home = home;
            ox.second = second;
            ox.strength = strength;
            ox.ear = ear;
            ox.owner = owner;
            ox.nights = nights;
            ox.at = at;
            ox.mate = mate;
            return ox;
        }
    }

    /** What an IMAGE holds; a past state holds its own OXEN, FURROWS and HOUR alone. */
    static final class State {
        List<int[]> farms = new ArrayList<>();
        List<int[]> fields = new ArrayList<>();
        List<Ox> oxen = new ArrayList<>();
        int hour = 6;
        List<int[]> calls = new ArrayList<>();
        List<Map<String, Sum>> texts = new ArrayList<>();
        int ruling = -1;
        List<State> past = new ArrayList<>();

        State copy() {
            State state = new State();
            state.farms.addAll(farms);
            fields.forEach(field -> state.fields.add(field.clone()));
            oxen.forEach(ox -> state.oxen.add(ox.copy()));
            state.hour = hour;
            state.calls.addAll(calls);
            state.texts.addAll(texts);
            state.ruling = ruling;
            state.past.addAll(past);
            return state;
        }
    }

    State now = new State();
    State image = new State();
    byte[] tape = {};
    int fault = -1;
    int faultPlace = -1;

    static boolean in(int value, int low, int high) {
        return low <= value && value <= high;
    }

    boolean farmTold(int farm) {
        return in(farm, 0, now.farms.size() - 1);
    }

    boolean fieldTold(int field) {
        return in(field, 0, now.fields.size() - 1);
    }

    boolean oxTold(int ox) {
        return in(ox, 0, now.oxen.size() - 1);
    }

    int farm(int x, int y, int pitch) {
        if (now.farms.size() == 5 || !in(x, 0, 19) || !in(y, 0, 19) || !in(pitch, 0, 9)) {
            return -1;
        }
        now.farms.add(new int[] {x, y, pitch});
        return now.farms.size() - 1;
    }

    int field(int x, int y, int soil, int furrows) {
        if (now.fields.size() == 4 || !in(x, 0, 19) || !in(y, 0, 19) || !in(soil, 0, 9) || !in(furrows, 0, 99)) {
            return -1;
        }
        now.fields.add(new int[] {x, y, soil, furrows});
        return now.fields.size() - 1;
    }

    int ox(int home, int second, int strength, int ear) {
        if (now.oxen.size() == 8 || !farmTold(home) || second != -1 && !farmTold(second)
            || !in(strength, 1, 9) || !in(ear, 0, 9)) {
            return -1;
        }
        Ox ox = new Ox();
        ox.home = home;
        ox.second = second;
        ox.strength = strength;
        ox.ear = ear;
        ox.owner = home;
        ox.at = home;
        now.oxen.add(ox);
        return now.oxen.size() - 1;
    }

    int feed(int... words) {
        if (tape.length + 20 > 300) {
            return -1;
        }
        int from = tape.length;
        tape = Arrays.copyOf(tape, from + 20);
        for (int i = 0; i < 20; i++) {
            tape[from + i] = (byte) (words[i / 4] >> 8 * (3 - i % 4));
        }
        return tape.length;
    }

    int end(int n) {
        if (n < 0 || n > tape.length) {
            return -1;
        }
        tape = Arrays.copyOf(tape, n);
        return n;
    }

    int text() {
        if (now.texts.size() == 4) {
            return -1;
        }
        byte[] bytes = tape;
        tape = new byte[0];
        try {
            now.texts.add(new ModelReader(bytes).read());
            fault = 0;
            faultPlace = -1;
            return now.texts.size() - 1;
        } catch (Fault found) {
            fault = found.kind;
            faultPlace = found.place;
            return -1;
        }
    }

    int fault(int what) {
        return what == 0 ? fault : what == 1 ? faultPlace : -1;
    }

    boolean by(int text) {
        if (!in(text, -1, now.texts.size() - 1)) {
            return false;
        }
        now.ruling = text;
        return true;
    }

    void step() {
        now.past.add(now.copy());
        if (now.past.size() > 20) {
            now.past.remove(0);
        }
    }

    boolean yoke(int one, int other, int field) {
        if (one == other || !oxTold(one) || !oxTold(other) || !fieldTold(field)) {
            return false;
        }
        for (int ox : new int[] {one, other}) {
            Ox it = now.oxen.get(ox);
            if (!(it.at < 10 || it.at == 10 + field && it.mate == -1)) {
                return false;
            }
        }
        step();
        now.oxen.get(one).at = 10 + field;
        now.oxen.get(other).at = 10 + field;
        now.oxen.get(one).mate = other;
        now.oxen.get(other).mate = one;
        return true;
    }

    boolean loose(int ox) {
        if (!oxTold(ox) || now.oxen.get(ox).mate == -1) {
            return false;
        }
        step();
        now.oxen.get(now.oxen.get(ox).mate).mate = -1;
        now.oxen.get(ox).mate = -1;
        return true;
    }

    boolean drive(int ox, int farm) {
        if (!oxTold(ox) || !farmTold(farm) || now.oxen.get(ox).mate != -1) {
            return false;
        }
        step();
        now.oxen.get(ox).at = farm;
        return true;
    }

    boolean sell(int ox, int farm) {
        if (!oxTold(ox) || !farmTold(farm) || now.oxen.get(ox).owner == farm) {
            return false;
        }
        step();
        now.oxen.get(ox).owner = farm;
        now.oxen.get(ox).nights = 0;
        return true;
    }

    Sum law(String clause) {
        return now.ruling == -1 ? null : now.texts.get(now.ruling).get(clause);
    }

    Map<String, Integer> names(int ox, int farm, int pitch, int field, boolean yoked, int hour) {
        Ox it = now.oxen.get(ox);
        Map<String, Integer> names = new HashMap<>();
        names.put("hour", hour);
        names.put("pitch", pitch);
        names.put("farm", farm);
        names.put("ear", it.ear);
        names.put("own", farm != -1 && (it.home == farm || it.second == farm) ? 1 : 0);
        int far = 0;
        if (farm != -1) {
            int[] a = now.farms.get(farm);
            int[] b = now.fields.get(field);
            far = Math.abs(a[0] - b[0]) + Math.abs(a[1] - b[1]);
        }
        names.put("far", far);
        names.put("yoked", yoked ? 1 : 0);
        names.put("ox", ox);
        names.put("strength", it.strength);
        return names;
    }

    boolean wouldHeed(int ox, int farm, int pitch, int field, boolean yoked, int hour) {
        Map<String, Integer> names = names(ox, farm, pitch, field, yoked, hour);
        Sum law = law("heeds");
        return law == null ? names.get("own") == 1 : law.value(names) != 0;
    }

    int blow(int farm, int pitch) {
        Map<Integer, Integer> goes = new HashMap<>();
        for (int ox = 0; ox < now.oxen.size(); ox++) {
            Ox it = now.oxen.get(ox);
            if (it.at >= 10 && wouldHeed(ox, farm, pitch, it.at - 10, it.mate != -1, now.hour)) {
                Sum law = law("second");
                boolean second = it.second != -1 && law != null
                    && law.value(names(ox, farm, pitch, it.at - 10, it.mate != -1, now.hour)) != 0;
                goes.put(ox, second ? it.second : it.home);
            }
        }
        int bits = 0;
        for (int ox : goes.keySet()) {
            bits |= 1 << ox;
            for (Ox any : now.oxen) {
                if (any.mate == ox) {
                    any.mate = -1;
                }
            }
            now.oxen.get(ox).mate = -1;
            now.oxen.get(ox).at = goes.get(ox);
        }
        return bits;
    }

    int whistle(int farm) {
        if (!farmTold(farm)) {
            return -1;
        }
        step();
        return blow(farm, now.farms.get(farm)[2]);
    }

    int work(int one, int other, int field, int hour) {
        int a = now.oxen.get(one).strength;
        int b = now.oxen.get(other).strength;
        Sum law = law("work");
        if (law == null) {
            return a + b;
        }
        Map<String, Integer> names = Map.of("hour", hour, "strength", a + b, "weaker", Math.min(a, b),
            "soil", now.fields.get(field)[2]);
        return (int) Math.max(0, Math.min(99, law.value(names)));
    }

    int plough() {
        step();
        int all = 0;
        for (int ox = 0; ox < now.oxen.size(); ox++) {
            Ox it = now.oxen.get(ox);
            if (it.mate > ox) {
                int[] field = now.fields.get(it.at - 10);
                for (int i = work(ox, it.mate, it.at - 10, now.hour); i > 0 && field[3] > 0; i--) {
                    field[3]--;
                    all++;
                }
            }
        }
        now.hour = now.hour == 23 ? 0 : now.hour + 1;
        return all;
    }

    int night() {
        step();
        int bits = 0;
        for (int ox = 0; ox < now.oxen.size(); ox++) {
            Ox it = now.oxen.get(ox);
            if (it.at == it.owner && it.owner != it.home) {
                it.nights++;
                if (it.nights == 3) {
                    it.home = it.owner;
                    it.nights = 0;
                    bits += 1 << ox;
                }
            }
        }
        return bits;
    }

    int undo() {
        if (now.past.isEmpty()) {
            return -1;
        }
        State before = now.past.remove(now.past.size() - 1);
        now.hour = before.hour;
        for (int i = 0; i < before.oxen.size(); i++) {
            now.oxen.set(i, before.oxen.get(i).copy());
        }
        for (int i = 0; i < before.fields.size(); i++) {
            now.fields.set(i, before.fields.get(i).clone());
        }
        return now.past.size();
    }

    int of(int ox, int what) {
        if (!oxTold(ox) || !in(what, 0, 7)) {
            return -2;
        }
        Ox it = now.oxen.get(ox);
        return List.of(it.home, it.second, it.strength, it.ear, it.owner, it.nights, it.at, it.mate).get(what);
    }

    boolean heeds(int ox, int farm, int pitch, int field, boolean yoked) {
        return oxTold(ox) && farmTold(farm) && in(pitch, 0, 9) && fieldTold(field)
            && wouldHeed(ox, farm, pitch, field, yoked, now.hour);
    }

    int call(int hour, int farm) {
        if (now.calls.size() == 8 || !in(hour, 0, 23) || !farmTold(farm)) {
            return -1;
        }
        now.calls.add(new int[] {hour, farm});
        return now.calls.size();
    }

    int hush() {
        int were = now.calls.size();
        now.calls.clear();
        return were;
    }

    int stayOf(int one, int other, int field, int n) {
        int hour = now.hour;
        for (int gone = 0; gone < n; gone++) {
            for (int[] call : now.calls) {
                int pitch = now.farms.get(call[1])[2];
                if (call[0] == hour && (wouldHeed(one, call[1], pitch, field, true, hour)
                    || wouldHeed(other, call[1], pitch, field, true, hour))) {
                    return gone;
                }
            }
            hour = hour == 23 ? 0 : hour + 1;
        }
        return n;
    }

    int doneOf(int one, int other, int field, int n) {
        int all = 0;
        for (int gone = 0; gone < stayOf(one, other, field, n); gone++) {
            all += work(one, other, field, (now.hour + gone) % 24);
        }
        return Math.min(all, now.fields.get(field)[3]);
    }

    int stay(int one, int other, int field, int n, boolean done) {
        if (one == other || !oxTold(one) || !oxTold(other) || !fieldTold(field) || !in(n, 1, 24)) {
            return -1;
        }
        return done ? doneOf(one, other, field, n) : stayOf(one, other, field, n);
    }

    private int[][] doneTable;
    private int[] bestPlan;
    private int bestDone;

    int plan(int n, int field) {
        if (!in(n, 1, 24) || field != -1 && !fieldTold(field)) {
            return -2;
        }
        doneTable = new int[now.fields.size()][100];
        for (int f = 0; f < now.fields.size(); f++) {
            for (int one = 0; one < now.oxen.size(); one++) {
                for (int other = one + 1; other < now.oxen.size(); other++) {
                    doneTable[f][one * 10 + other] = doneOf(one, other, f, n);
                }
            }
        }
        bestPlan = null;
        tryPlans(new int[now.fields.size()], now.fields.size() - 1, 0, 0);
        return field == -1 ? bestDone : bestPlan[field];
    }

    /** From the last field to the first, all ways, compared whole. */
    private void tryPlans(int[] plan, int field, int used, int done) {
        if (field < 0) {
            if (bestPlan == null || done > bestDone
                || done == bestDone && Arrays.compare(plan, bestPlan) < 0) {
                bestPlan = plan.clone();
                bestDone = done;
            }
            return;
        }
        for (int one = now.oxen.size() - 1; one >= 0; one--) {
            for (int other = now.oxen.size() - 1; other > one; other--) {
                if ((used >> one & 1) == 0 && (used >> other & 1) == 0) {
                    plan[field] = one * 10 + other;
                    tryPlans(plan, field - 1, used | 1 << one | 1 << other, done + doneTable[field][plan[field]]);
                }
            }
        }
        plan[field] = -1;
        tryPlans(plan, field - 1, used, done);
    }

    int longest(int field, int n) {
        if (!fieldTold(field) || !in(n, 1, 24) || now.oxen.size() < 2) {
            return -1;
        }
        int best = -1;
        int pair = -1;
        for (int one = now.oxen.size() - 1; one >= 0; one--) {
            for (int other = now.oxen.size() - 1; other > one; other--) {
                int hours = stayOf(one, other, field, n);
                if (hours >= best) {
                    best = hours;
                    pair = 10 * one + other;
                }
            }
        }
        return pair;
    }

    long dark(int field, int hour, int set, int went, int farm, int what) {
        boolean sets = set >= 0 && set < 1 << now.oxen.size() && went >= 0 && (set | went) == set;
        if (!fieldTold(field) || !in(hour, 0, 23) || !sets || !farmTold(farm) || !in(what, 0, 1)) {
            return -1;
        }
        BigInteger[] weights = new BigInteger[now.farms.size()];
        BigInteger all = BigInteger.ZERO;
        for (int f = 0; f < weights.length; f++) {
            weights[f] = BigInteger.ZERO;
            for (int pitch = 0; pitch < 10; pitch++) {
                weights[f] = weights[f].add(BigInteger.valueOf(weight(f, pitch, field, hour, set, went)));
            }
            all = all.add(weights[f]);
        }
        if (all.signum() == 0) {
            return -1;
        }
        BigInteger common = all.gcd(weights[farm]);
        return (what == 0 ? weights[farm] : all).divide(common).longValueExact();
    }

    private long weight(int farm, int pitch, int field, int hour, int set, int went) {
        Sum calls = law("calls");
        Sum slips = law("slip");
        long weight = calls == null ? 1
            : Math.max(0, Math.min(9, calls.value(Map.of("hour", hour, "pitch", pitch, "farm", farm))));
        for (int ox = 0; ox < now.oxen.size(); ox++) {
            if ((set >> ox & 1) == 1) {
                Map<String, Integer> names = names(ox, farm, pitch, field, false, hour);
                long slip = slips == null ? 0 : Math.max(0, Math.min(9, slips.value(names)));
                boolean says = wouldHeed(ox, farm, pitch, field, false, hour);
                boolean did = (went >> ox & 1) == 1;
                weight = Math.multiplyExact(weight, says == did ? 10 - slip : slip);
            }
        }
        return weight;
    }

    int apart(int d, int field, int farm) {
        if (!in(d, 0, 9) || !fieldTold(field) || farm != -1 && !farmTold(farm)) {
            return -1;
        }
        int count = now.farms.size();
        boolean[][] fits = new boolean[count][10];
        for (int f = 0; f < count; f++) {
            for (int pitch = 0; pitch < 10; pitch++) {
                fits[f][pitch] = true;
                for (int ox = 0; ox < now.oxen.size(); ox++) {
                    Ox it = now.oxen.get(ox);
                    boolean heeds = wouldHeed(ox, f, pitch, field, false, now.hour);
                    fits[f][pitch] &= it.home == f ? heeds : it.second == f || !heeds;
                }
            }
        }
        int best = -1;
        int[] bestSet = null;
        int ways = (int) Math.pow(10, count);
        for (int way = 0; way < ways; way++) {
            int[] set = new int[count];
            for (int f = count - 1, rest = way; f >= 0; f--, rest /= 10) {
                set[f] = rest % 10;
            }
            int change = changeOf(set, fits, d);
            if (change >= 0 && (best == -1 || change < best)) {
                best = change;
                bestSet = set;
            }
        }
        return farm == -1 || best == -1 ? best : bestSet[farm];
    }

    private int changeOf(int[] set, boolean[][] fits, int d) {
        int change = 0;
        for (int f = 0; f < set.length; f++) {
            if (!fits[f][set[f]]) {
                return -1;
            }
            for (int g = 0; g < f; g++) {
                if (Math.abs(set[f] - set[g]) < d) {
                    return -1;
                }
            }
            change += Math.abs(set[f] - now.farms.get(f)[2]);
        }
        return change;
    }

    int thunder(int seed, int n) {
        if (!in(seed, 0, 9999) || !in(n, 1, 99)) {
            return -1;
        }
        State kept = now.copy();
        int count = 0;
        long x = seed * 13L + 2;
        for (int i = 0; i < n; i++) {
            count += Integer.bitCount(blow(-1, (int) (x % 10)));
            x = (x * 163 + 47) % 30059;
        }
        now = kept;
        return count;
    }

    int image() {
        image = now.copy();
        return now.hour;
    }

    int back() {
        now = image.copy();
        return now.hour;
    }

    int about(int what) {
        int[] all = {now.farms.size(), now.fields.size(), now.oxen.size(), now.hour, now.texts.size(),
            now.ruling, now.calls.size(), now.past.size(), tape.length};
        if (in(what, 0, 8)) {
            return all[what];
        }
        if (in(what, 10, 14) && farmTold(what - 10)) {
            return now.farms.get(what - 10)[2];
        }
        return in(what, 20, 23) && fieldTold(what - 20) ? now.fields.get(what - 20)[3] : -2;
    }

    /** Reads a text: first into tokens, up to the first that is none, then by descent. */
    private static final class ModelReader {
        private static final Set<String> OX_NAMES =
            Set.of("hour", "pitch", "farm", "ear", "own", "far", "yoked", "ox", "strength");
        private static final Set<String> WORK_NAMES = Set.of("hour", "strength", "weaker", "soil");
        private static final Set<String> CALL_NAMES = Set.of("hour", "pitch", "farm");

        private final List<String> tokens = new ArrayList<>();
        private final List<Integer> places = new ArrayList<>();
        private int next;
        private Set<String> mine;

        ModelReader(byte[] bytes) {
            StringBuilder signs = new StringBuilder();
            for (byte b : bytes) {
                signs.append((char) (b & 255));
            }
            String text = signs.toString();
            String rest = "\\A(?:[A-Za-z]+|[0-9]+|<=|>=|[<>=#+\\-*/();])";
            java.util.regex.Pattern pattern = java.util.regex.Pattern.compile(rest);
            int at = 0;
            while (at < text.length()) {
                if (text.charAt(at) == 32 || text.charAt(at) == 10) {
                    at++;
                    continue;
                }
                java.util.regex.Matcher matcher = pattern.matcher(text.substring(at));
                String token = matcher.find() ? matcher.group() : "?";
                tokens.add(token);
                places.add(at);
                at += token.length();
            }
            tokens.add("END");
            places.add(text.length());
            // "END" as letters of the text would be a token too: it is set apart by its place.
            for (int i = 0; i < tokens.size() - 1; i++) {
                if (tokens.get(i).equals("END")) {
                    tokens.set(i, "?");
                }
            }
        }

        private String peek() {
            return tokens.get(next);
        }

        private Fault fault(int kind) {
            return new Fault(kind, places.get(next));
        }

        private void take(String due) throws Fault {
            if (!peek().equals(due)) {
                throw fault(1);
            }
            next++;
        }

        Map<String, Sum> read() throws Fault {
            Map<String, Sum> clauses = new HashMap<>();
            while (!peek().equals("END")) {
                String clause = peek();
                if (!List.of("heeds", "second", "slip", "calls", "work").contains(clause)) {
                    throw fault(1);
                }
                if (clauses.containsKey(clause)) {
                    throw fault(4);
                }
                next++;
                mine = clause.equals("work") ? WORK_NAMES : clause.equals("calls") ? CALL_NAMES : OX_NAMES;
                clauses.put(clause, clause.equals("heeds") || clause.equals("second") ? either(0) : sum(0));
                take(";");
            }
            return clauses;
        }

        private Sum either(int open) throws Fault {
            Sum left = both(open);
            while (peek().equals("or")) {
                next++;
                Sum a = left;
                Sum b = both(open);
                left = names -> a.value(names) != 0 || b.value(names) != 0 ? 1 : 0;
            }
            return left;
        }

        private Sum both(int open) throws Fault {
            Sum left = ask(open);
            while (peek().equals("and")) {
                next++;
                Sum a = left;
                Sum b = ask(open);
                left = names -> a.value(names) != 0 && b.value(names) != 0 ? 1 : 0;
            }
            return left;
        }

        private void opens(int open) throws Fault {
            if (open == 8) {
                throw fault(3);
            }
            next++;
        }

        private Sum ask(int open) throws Fault {
            if (peek().equals("not")) {
                opens(open);
                Sum a = ask(open + 1);
                return names -> a.value(names) == 0 ? 1 : 0;
            }
            Sum a = sum(open);
            String how = peek();
            if (!List.of("<", "<=", ">", ">=", "=", "#").contains(how)) {
                throw fault(1);
            }
            next++;
            Sum b = sum(open);
            return names -> {
                int order = Long.compare(a.value(names), b.value(names));
                boolean so = switch (how) {
                    case "<" -> order < 0;
                    case "<=" -> order <= 0;
                    case ">" -> order > 0;
                    case ">=" -> order >= 0;
                    case "=" -> order == 0;
                    default -> order != 0;
                };
                return so ? 1 : 0;
            };
        }

        private static long cut(long value) {
            return value > 1000000 ? 1000000 : value < -1000000 ? -1000000 : value;
        }

        private Sum sum(int open) throws Fault {
            Sum left = product(open);
            while (peek().equals("+") || peek().equals("-")) {
                long sign = peek().equals("+") ? 1 : -1;
                next++;
                Sum a = left;
                Sum b = product(open);
                left = names -> cut(a.value(names) + sign * b.value(names));
            }
            return left;
        }

        private Sum product(int open) throws Fault {
            Sum left = one(open);
            while (peek().equals("*") || peek().equals("/")) {
                boolean times = peek().equals("*");
                next++;
                Sum a = left;
                Sum b = one(open);
                left = names -> {
                    long right = b.value(names);
                    return times ? cut(a.value(names) * right) : right == 0 ? 0 : cut(a.value(names) / right);
                };
            }
            return left;
        }

        private Sum one(int open) throws Fault {
            String token = peek();
            if (token.equals("(")) {
                opens(open);
                Sum a = sum(open + 1);
                take(")");
                return a;
            }
            if (token.equals("-")) {
                opens(open);
                Sum a = one(open + 1);
                return names -> -a.value(names);
            }
            if (Character.isDigit(token.charAt(0))) {
                BigInteger number = new BigInteger(token);
                if (number.compareTo(BigInteger.valueOf(9999)) > 0) {
                    throw fault(2);
                }
                next++;
                return names -> number.longValue();
            }
            if (mine.contains(token)) {
                next++;
                return names -> names.get(token);
            }
            boolean name = OX_NAMES.contains(token) || WORK_NAMES.contains(token);
            throw fault(name ? 5 : 1);
        }
    }
}
