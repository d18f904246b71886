import java.util.ArrayDeque;
import java.util.ArrayList;
import java.util.Arrays;
import java.util.Collections;
import java.util.HashMap;
import java.util.HashSet;
import java.util.List;
import java.util.Map;
import java.util.Random;
import java.util.Set;
import java.util.function.IntPredicate;
import java.util.function.IntUnaryOperator;

/** Made-up offices, each answer against a slow second way of finding it. The seed is fixed. */
public final class ModelTests extends Check {
    private static final Set<String> RESERVED =
        new HashSet<>(Arrays.asList("turn rub weight float magnet spring fed arm out from to at shut".split(" ")));
    private static final List<String> VALUES = Arrays.asList("right left rights lefts wet gives takes high".split(" "));
    private static final List<String> SAYINGS = Arrays.asList("count turn door model rub fed law".split(" "));
    private static final int[] seen = new int[12];

    /** A FAULT met while reading. */
    private static final class Fault extends RuntimeException {
        private static final long serialVersionUID = 1L;
        final int kind;
        final int place;

        Fault(int kind, int place) {
            this.kind = kind;
            this.place = place;
        }
    }

    private static final class Text {
        final List<String> tokens = new ArrayList<>();
        final List<Integer> starts = new ArrayList<>();
        int at = 0;

        Text(String text, int most) {
            int i = 0;
            while (i < text.length() && i < most) {
                char c = text.charAt(i);
                int j = i + 1;
                if (String.valueOf(c).matches("[a-z0-9]")) {
                    while (j < text.length() && text.substring(j, j + 1).matches("[a-z0-9]")) {
                        j++;
                    }
                }
                if (c != ' ' && c != '\n') {
                    String token = text.substring(i, j);
                    tokens.add(token.matches("[a-z]{1,6}|[0-9]{1,3}|[;<=>()]") ? token : "?");
                    starts.add(i);
                }
                i = j;
            }
            tokens.add(text.length() > most ? "?" : "");
            starts.add(Math.min(text.length(), most));
        }

        String peek() {
            return tokens.get(at);
        }

        Fault fault(int kind) {
            return new Fault(kind, starts.get(at));
        }

        String take(String pattern) {
            if (!peek().matches(pattern)) {
                throw fault(1);
            }
            return tokens.get(at++);
        }

        int number(int low, int high) {
            if (!peek().matches("[0-9]+")) {
                throw fault(1);
            }
            int n = Integer.parseInt(peek());
            if (n < low || n > high) {
                throw fault(2);
            }
            at++;
            return n;
        }
    }

    private static final class Slow {
        int n = 24;
        int rub = 0;
        final List<Map<String, Integer>> parts = new ArrayList<>();
        final List<String> kinds = new ArrayList<>();
        private int[] forward;

        /** Each kind's form as a row of what is to come, told by names. */
        static Slow read(String text) {
            Slow d = new Slow();
            Text x = new Text(text, 600);
            if (x.peek().equals("turn")) {
                x.at++;
                if (x.peek().matches("[0-9]+") && Integer.parseInt(x.peek()) % 2 == 1) {
                    throw x.fault(2);
                }
                d.n = x.number(8, 48);
                x.take(";");
            }
            boolean rubbed = false;
            Set<String> names = new HashSet<>();
            while (!x.peek().equals("")) {
                if (x.peek().equals("rub")) {
                    if (rubbed) {
                        throw x.fault(3);
                    }
                    rubbed = true;
                    x.at++;
                    d.rub = x.number(0, 999);
                } else {
                    d.readPart(x, names);
                }
                x.take(";");
            }
            return d;
        }

        private void readPart(Text x, Set<String> names) {
            Map<String, String> forms = new HashMap<>();
            forms.put("weight", "pin w 'arm arm ?out out 'from from 'to to");
            forms.put("float", "pin w 'from from 'to to");
            forms.put("magnet", "pin w 'at at ?shut from 'to to");
            forms.put("spring", "pin w 'from from 'to to");
            forms.put("fed", "pin w");
            if (!forms.containsKey(x.peek())) {
                throw x.fault(1);
            }
            if (parts.size() == 12) {
                throw x.fault(4);
            }
            String kind = x.take(".*");
            if (!x.peek().matches("[a-z]+") || RESERVED.contains(x.peek())) {
                throw x.fault(1);
            }
            if (!names.add(x.peek())) {
                throw x.fault(3);
            }
            x.at++;
            Map<String, Integer> part = new HashMap<>();
            for (String what : forms.get(kind).split(" ")) {
                if (what.startsWith("?") && !x.peek().equals(what.substring(1))) {
                    break;
                } else if (what.startsWith("?") || what.startsWith("'")) {
                    x.take(what.substring(1));
                } else if (what.equals("w")) {
                    part.put(what, x.number(1, 99));
                } else if (what.equals("arm") || what.equals("out")) {
                    part.put(what, x.number(0, 20));
                } else {
                    part.put(what, x.number(0, n - 1));
                }
            }
            kinds.add(kind);
            parts.add(part);
        }

        int high(int j) {
            return Math.min(j, n - j);
        }

        boolean in(int part, int place) {
            Map<String, Integer> p = parts.get(part);
            if (!p.containsKey("to")) {
                return false;
            }
            for (int j = p.get("from");; j = (j + 1) % n) {
                if (j == place) {
                    return true;
                }
                if (j == p.get("to")) {
                    return false;
                }
            }
        }

        int place(int part, int t) {
            return (parts.get(part).get("pin") + t) % n;
        }

        int arm(int part, int place) {
            return parts.get(part).get(in(part, place) ? "out" : "arm");
        }

        int energy(int part, int place) {
            int w = parts.get(part).get("w");
            boolean in = in(part, place);
            String kind = kinds.get(part);
            if (kind.equals("weight")) {
                return w * arm(part, place) * high(place);
            }
            if (kind.equals("float")) {
                return in ? 10 * w * (n / 2 - high(place)) : 0;
            }
            if (kind.equals("spring")) {
                return in ? 40 * w : 0;
            }
            if (kind.equals("magnet") && !in) {
                int at = parts.get(part).get("at");
                for (int d = 0; d < 6; d++) {
                    if ((at + d) % n == place || (place + d) % n == at) {
                        return -w * (6 - d);
                    }
                }
            }
            return 0;
        }

        int gives(int part, int t, int laws) {
            String kind = kinds.get(part);
            if (kind.equals("fed")) {
                return parts.get(part).get("pin") == t ? parts.get(part).get("w") : 0;
            }
            int a = place(part, t);
            int b = place(part, t + 1);
            int g = energy(part, a) - energy(part, b);
            boolean enters = !in(part, a) && in(part, b);
            boolean leaves = in(part, a) && !in(part, b);
            if (kind.equals("float") && (laws & 1) != 0 && enters) {
                return 0;
            }
            if (kind.equals("magnet") && (laws & 2) != 0 && (enters || leaves)) {
                return 0;
            }
            if (kind.equals("spring") && (laws & 4) != 0 && enters) {
                return 0;
            }
            if (kind.equals("weight") && (laws & 8) != 0 && high(b) > high(a)) {
                return Integer.signum(g) * (Math.abs(g) / 2);
            }
            return g;
        }

        int sum(int part, int laws) {
            int all = 0;
            for (int t = 0; t < n; t++) {
                all += gives(part, t, laws);
            }
            return all;
        }

        int rub(int laws) {
            return laws >= 16 ? 0 : rub;
        }

        int whole(int laws) {
            int all = -n * rub(laws);
            for (int part = 0; part < parts.size(); part++) {
                all += sum(part, laws);
            }
            return all;
        }

        int all(int t, int laws, boolean fed) {
            int all = 0;
            for (int part = 0; part < parts.size(); part++) {
                if (fed || !kinds.get(part).equals("fed")) {
                    all += gives(part, t, laws);
                }
            }
            return all;
        }

        /** Steps, t, E, turnings, greatest E, rests. */
        int[] run(int t, int push, int laws) {
            int[] forward = new int[n];
            int[] backward = new int[n];
            for (int i = 0; i < n; i++) {
                forward[i] = all(i, laws, true) - rub(laws);
                backward[i] = -all(i, laws, false) - rub(laws);
            }
            int e = push;
            int steps = 0;
            int turnings = 0;
            int greatest = push;
            int direction = 1;
            int stuck = 0;
            while (steps < 20000 && stuck < 2) {
                int step = direction > 0 ? t : (t + n - 1) % n;
                int next = e + (direction > 0 ? forward[step] : backward[step]);
                if (next < 0) {
                    direction = -direction;
                    turnings++;
                    stuck++;
                } else {
                    e = next;
                    steps++;
                    t = (t + direction + n) % n;
                    greatest = Math.max(greatest, e);
                    stuck = 0;
                }
            }
            return new int[] {steps, t, e, turnings, greatest, stuck == 2 ? 1 : 0};
        }

        int value(int v, int t) {
            if (t < 0) {
                int all = 0;
                for (int u = 0; u < n; u++) {
                    all += value(v, u);
                }
                return all;
            }
            int all = 0;
            for (int part = 0; part < parts.size(); part++) {
                String kind = kinds.get(part);
                int place = place(part, t);
                boolean weight = kind.equals("weight");
                int side = place == 0 || place == n / 2 ? -1 : place > n / 2 ? 0 : 1;
                if (weight && v < 2 && side == v) {
                    all += parts.get(part).get("w") * arm(part, place);
                } else if (weight && side >= 0 && v == 2 + side) {
                    all++;
                } else if (v == 4 && kind.equals("float") && in(part, place)) {
                    all++;
                } else if (v == 5) {
                    all += Math.max(0, gives(part, t, 0));
                } else if (v == 6) {
                    all += Math.max(0, -gives(part, t, 0));
                } else if (weight && v == 7) {
                    all += high(place);
                }
            }
            return all;
        }

        /** All GIVES of STEP t less rub; found once, as it is asked for so often. */
        int forward(int t) {
            if (forward == null) {
                forward = new int[n];
                for (int u = 0; u < n; u++) {
                    forward[u] = all(u, 0, true) - rub;
                }
            }
            return forward[t];
        }

        boolean comes(int[] row, int t, int push, int x, int g) {
            int e = push;
            for (int shown : row) {
                e += forward(t) + (t == x ? g : 0);
                if (e < 0 || e / 10 != shown) {
                    return false;
                }
                t = (t + 1) % n;
            }
            return true;
        }

        boolean lifts(int w, int pin, int t, int push, int load) {
            int e = push;
            for (int i = 0; i < 20 * n; i++) {
                e += forward(t) + (t == pin ? w : 0) - (t == 0 ? load : 0);
                if (e < 0) {
                    return false;
                }
                t = (t + 1) % n;
            }
            return true;
        }

        List<String> turned(int r) {
            List<String> rows = new ArrayList<>();
            for (int part = 0; part < parts.size(); part++) {
                Map<String, Integer> p = new java.util.TreeMap<>(parts.get(part));
                int by = kinds.get(part).equals("fed") ? n - r : r;
                p.put("pin", (p.get("pin") + by) % n);
                rows.add(kinds.get(part) + p);
            }
            Collections.sort(rows);
            return rows;
        }

        int same(Slow other) {
            for (int r = 0; r < n && n == other.n && rub == other.rub; r++) {
                if (turned(r).equals(other.turned(0))) {
                    return r;
                }
            }
            return NONE;
        }

        boolean right(int s) {
            boolean right = s == 1;
            for (int part = 0; part < parts.size(); part++) {
                String kind = kinds.get(part);
                right |= s == 5 && kind.equals("fed");
                right &= s != 1 || kind.equals("fed") || sum(part, 0) == 0;
                for (int t = 0; t < n; t++) {
                    boolean before = in(part, place(part, t));
                    boolean after = in(part, place(part, t + 1));
                    boolean door = kind.equals("float") && !before && after || kind.equals("magnet") && before != after;
                    right |= s == 2 && door && gives(part, t, 0) < 0;
                }
            }
            for (int t = 0; t < n; t++) {
                right |= s == 0 && value(3, t) > value(2, t);
            }
            right |= s == 3 && run(0, 1000, 0)[5] == 1;
            right |= s == 4 && rub > 0;
            for (int laws = 1; laws < 32; laws++) {
                right |= s == 6 && whole(laws) > 0 && whole(0) <= 0;
            }
            return right;
        }
    }

    private static final class SlowClaim {
        private final Text x;
        private final Slow d;
        String kind;
        int ones = 0;
        IntPredicate so;

        SlowClaim(String text, Slow d) {
            this.x = new Text(text, 200);
            this.d = d;
            kind = x.take("each|some|all");
            so = condition(0);
            x.take("");
        }

        private IntPredicate condition(int within) {
            IntPredicate p = all(within);
            while (x.peek().equals("or")) {
                x.at++;
                p = p.or(all(within));
            }
            return p;
        }

        private IntPredicate all(int within) {
            IntPredicate p = one(within);
            while (x.peek().equals("and")) {
                x.at++;
                p = p.and(one(within));
            }
            return p;
        }

        private IntPredicate one(int within) {
            String first = x.peek();
            if (!first.matches("not|\\(|[0-9]+") && !VALUES.contains(first)) {
                throw x.fault(1);
            }
            ones++;
            if (ones == 21 || within == 8) {
                throw x.fault(4);
            }
            if (first.equals("not")) {
                x.at++;
                return one(within + 1).negate();
            }
            if (first.equals("(")) {
                x.at++;
                IntPredicate p = condition(within + 1);
                x.take("\\)");
                return p;
            }
            IntUnaryOperator a = value();
            String sign = x.take("[<=>]");
            IntUnaryOperator b = value();
            int want = "<=>".indexOf(sign) - 1;
            return t -> Integer.compare(a.applyAsInt(t), b.applyAsInt(t)) == want;
        }

        private IntUnaryOperator value() {
            String token = x.peek();
            if (token.matches("[0-9]+")) {
                int number = Integer.parseInt(token);
                x.at++;
                return t -> number;
            }
            if (!VALUES.contains(token)) {
                throw x.fault(1);
            }
            x.at++;
            return t -> d.value(VALUES.indexOf(token), t);
        }

        int where() {
            for (int t = 0; t < d.n; t++) {
                if (!so.test(t)) {
                    return t;
                }
            }
            return NONE;
        }

        boolean holds() {
            if (kind.equals("all")) {
                return so.test(NONE);
            }
            boolean some = false;
            for (int t = 0; t < d.n; t++) {
                some |= so.test(t);
            }
            return kind.equals("some") ? some : where() == NONE;
        }
    }

    private static Map<String, Integer> readInventor(String text, int[] lines) {
        Map<String, Integer> leads = new HashMap<>();
        Text x = new Text(text, 600);
        while (!x.peek().equals("")) {
            if (x.peek().equals("in") && lines[0] == 20) {
                throw x.fault(4);
            }
            x.take("in");
            int from = x.number(0, 9);
            x.take("hears");
            String word = x.take(String.join("|", SAYINGS));
            x.take("goes");
            int to = x.number(0, 9);
            x.take(";");
            leads.putIfAbsent(from + word, to);
            lines[0]++;
        }
        return leads;
    }

    /** The first row that a search in width meets, its rows being tried SAYING by SAYING. */
    private static List<Integer> answer(Map<String, Integer> leads, Slow d) {
        boolean[] right = new boolean[7];
        for (int s = 0; s < 7; s++) {
            right[s] = d.right(s);
        }
        ArrayDeque<List<Integer>> rows = new ArrayDeque<>();
        ArrayDeque<Integer> states = new ArrayDeque<>();
        rows.add(new ArrayList<>());
        states.add(0);
        Set<Integer> met = new HashSet<>(states);
        while (!rows.isEmpty()) {
            List<Integer> row = rows.remove();
            int state = states.remove();
            for (int s = 0; s < 7; s++) {
                int next = leads.getOrDefault(state + SAYINGS.get(s), state);
                if (right[s] && met.add(next)) {
                    List<Integer> longer = new ArrayList<>(row);
                    longer.add(s);
                    if (next == 9) {
                        return longer;
                    }
                    rows.add(longer);
                    states.add(next);
                }
            }
        }
        return null;
    }

    private static String makePart(Random r, int n, String name) {
        String head = " " + name + " " + r.nextInt(n) + " " + (1 + r.nextInt(r.nextBoolean() ? 99 : 9));
        String range = r.nextInt(n) + " to " + r.nextInt(n);
        switch (r.nextInt(5)) {
            case 0:
                return "weight" + head + " arm " + r.nextInt(21) + (r.nextBoolean() ? " out " + r.nextInt(21) + " from " + range : "");
            case 1:
                return "float" + head + " from " + range;
            case 2:
                return "magnet" + head + " at " + r.nextInt(n) + (r.nextBoolean() ? " shut " + range : "");
            case 3:
                return "spring" + head + " from " + range;
            default:
                return "fed" + head;
        }
    }

    private static String makeDrawing(Random r) {
        boolean turn = r.nextInt(6) > 0;
        int n = turn ? 8 + 2 * r.nextInt(21) : 24;
        StringBuilder text = new StringBuilder(turn ? "turn " + n + ";" : "");
        int size = r.nextInt(13);
        int rubAt = r.nextInt(14);
        for (int i = 0; i < size; i++) {
            if (i == rubAt) {
                text.append("rub ").append(r.nextInt(r.nextBoolean() ? 10 : 1000)).append(";");
            }
            text.append(makePart(r, n, "p" + (char) ('a' + i))).append(r.nextInt(5) == 0 ? " ;\n" : ";");
        }
        return text.toString();
    }

    private static String makeOne(Random r, int depth) {
        int pick = r.nextInt(depth > 3 ? 3 : 6);
        if (pick == 3) {
            return "not " + makeOne(r, depth + 1);
        }
        if (pick == 4) {
            return "(" + makeOne(r, depth + 1) + " or " + makeOne(r, depth + 1) + ")";
        }
        if (pick == 5) {
            return "(" + makeOne(r, depth + 1) + " and " + makeOne(r, depth + 1) + ")";
        }
        String second = r.nextBoolean() ? VALUES.get(r.nextInt(8)) : "" + r.nextInt(r.nextBoolean() ? 4 : 1000);
        return VALUES.get(r.nextInt(8)) + "<=>".charAt(r.nextInt(3)) + second;
    }

    private static String makeClaim(Random r) {
        StringBuilder text = new StringBuilder(new String[] {"each ", "some ", "all "}[r.nextInt(3)]);
        text.append(makeOne(r, 0));
        for (int i = r.nextInt(r.nextInt(10) == 0 ? 25 : 4); i > 0; i--) {
            text.append(r.nextBoolean() ? " and " : " or ").append(makeOne(r, i > 4 ? 4 : 0));
        }
        return text.toString();
    }

    private static String makeInventor(Random r) {
        StringBuilder text = new StringBuilder();
        for (int i = r.nextInt(22); i > 0; i--) {
            text.append("in ").append(r.nextInt(5)).append(" hears ").append(SAYINGS.get(r.nextInt(7)));
            text.append(" goes ").append(r.nextInt(8) == 0 ? 9 : r.nextInt(6)).append(';');
        }
        return text.toString();
    }

    /** A text with something taken out, put in or told again. */
    private static String spoil(Random r, String text, int most) {
        StringBuilder spoilt = new StringBuilder(text);
        int at = r.nextInt(text.length() + 1);
        switch (r.nextInt(7)) {
            case 0:
                spoilt.setLength(at);
                break;
            case 1:
                spoilt.delete(at, Math.min(text.length(), at + 1 + r.nextInt(4)));
                break;
            case 2:
                spoilt.insert(at, " ;<=>()?\n09az\u00ff".charAt(r.nextInt(14)));
                break;
            case 3:
                spoilt.insert(at, " rub 3;");
                break;
            case 4:
                spoilt.insert(at, text.substring(r.nextInt(at + 1), at));
                break;
            case 5:
                spoilt.insert(at, " ".repeat(Math.max(0, most + 3 - r.nextInt(8) - text.length())));
                break;
            default:
                spoilt.insert(at, " pa" + r.nextInt(60) + " ");
        }
        return spoilt.length() > 640 ? spoilt.substring(0, 640) : spoilt.toString();
    }

    private static void checkParts(ForeverOffice o, Slow d, String text) {
        for (int part = 0; part < d.parts.size(); part++) {
            for (int t = 0; t < d.n; t++) {
                due("place " + part + " " + t + text, o.place(part, t), d.place(part, t));
                due("energy " + part + " " + t + text, o.energy(part, t), d.energy(part, t));
            }
            for (int laws = 0; laws < 32; laws += laws < 8 ? 1 : 7) {
                due("sum " + part + " " + laws + text, o.sum(part, laws), d.sum(part, laws));
                for (int t = 0; t < d.n; t++) {
                    due("gives " + part + " " + t + " " + laws + text, o.gives(part, t, laws), d.gives(part, t, laws));
                }
            }
        }
        for (int v = 0; v < 8; v++) {
            for (int t = -1; t < d.n; t++) {
                due("value " + v + " " + t + text, o.value(v, t), d.value(v, t));
            }
        }
    }

    private static void checkLaws(ForeverOffice o, Slow d, String text) {
        List<Integer> goers = new ArrayList<>();
        for (int laws = 0; laws < 32; laws++) {
            due("WHOLE " + laws + text, o.sum(NONE, laws), d.whole(laws));
            due("goes " + laws + text, o.goes(laws), d.whole(laws) > 0 ? 1 : 0);
            if (d.whole(laws) > 0) {
                goers.add(laws);
            }
        }
        due("GOERS" + text, o.goes(NONE), goers.size());
        int k = 0;
        for (int laws : goers) {
            if (goers.stream().noneMatch(g -> g != laws && (g | laws) == laws)) {
                due("least " + k + text, o.least(k), laws);
                k++;
            }
        }
        due("least behind" + text, o.least(k), NONE);
        for (int law = 1; law < 16; law *= 2) {
            int bits = 0;
            for (int part = 0; part < d.parts.size(); part++) {
                bits += d.sum(part, 0) != d.sum(part, law) ? 1 << part : 0;
            }
            due("needs " + law + text, o.needs(law), bits);
        }
    }

    private static void checkRuns(Random r, ForeverOffice o, Slow d, String text) {
        for (int i = 0; i < 4; i++) {
            int t = r.nextInt(d.n);
            int push = r.nextInt(new int[] {100, 3000, 100001, 1}[i]);
            int laws = r.nextInt(32);
            int[] want = d.run(t, push, laws);
            String call = "run " + t + " " + push + " " + laws + text;
            due(call, o.run(t, push, laws), want[0]);
            for (int what = 0; what < 5; what++) {
                due("ran " + what + " of " + call, o.ran(what), want[what + 1]);
            }
            seen[want[5]]++;
        }
        int laws = r.nextInt(32);
        List<Integer> stands = new ArrayList<>();
        for (int t = 0; t < d.n; t++) {
            int[] run = d.run(t, 0, laws);
            if (run[0] == 0 && run[5] == 1) {
                stands.add(t);
            }
        }
        due("stands " + laws + text, o.stands(laws), stands.size());
        for (int k = 0; k <= stands.size(); k++) {
            due("stand " + k + text, o.stand(k), k < stands.size() ? stands.get(k) : NONE);
        }
    }

    private static void checkFeeding(Random r, ForeverOffice o, Slow d, String text) {
        int pin = r.nextInt(d.n);
        int t = r.nextInt(d.n);
        int push = r.nextInt(r.nextBoolean() ? 100001 : 3000);
        int load = r.nextInt(r.nextBoolean() ? 10000 : 500);
        int want = NONE;
        for (int w = 999; w >= 1 && d.lifts(w, pin, t, push, load); w--) {
            want = w;
        }
        due("feeding " + pin + " " + t + " " + push + " " + load + text, o.feeding(pin, t, push, load), want);
        seen[want > 1 ? 2 : 3]++;
    }

    private static void checkHidden(Random r, ForeverOffice o, Slow d, String text) {
        int[] row = new int[1 + r.nextInt(60)];
        int start = r.nextInt(d.n);
        int push = r.nextInt(r.nextBoolean() ? 1000 : 90000);
        int x = (start + r.nextInt(Math.min(d.n, row.length))) % d.n;
        int g = 1 + r.nextInt(r.nextBoolean() ? 20 : 999);
        int e = push;
        int t = start;
        StringBuilder tape = new StringBuilder();
        for (int i = 0; i < row.length; i++) {
            e += d.all(t, 0, true) - d.rub + (t == x ? g : 0);
            row[i] = Math.max(0, Math.min(65535, e / 10));
            tape.append((char) (row[i] / 256)).append((char) (row[i] % 256));
            t = (t + 1) % d.n;
        }
        List<int[]> finds = new ArrayList<>();
        for (int y = 0; y < d.n; y++) {
            for (int h = 1; h <= 999; h++) {
                if (d.comes(row, start, push, y, h)) {
                    finds.add(new int[] {y, h});
                }
            }
        }
        boolean without = d.comes(row, start, push, 0, 0);
        put(o, tape.toString());
        String call = "hidden " + start + " " + push + " " + Arrays.toString(row) + text;
        due(call, o.hidden(start, push), without ? -2 : finds.size());
        seen[without ? 4 : finds.isEmpty() ? 5 : 6]++;
        for (int k = 0; k < 201 && !without; k++) {
            boolean told = k < finds.size() && k < 200;
            due("hiddenAt " + k + " 0 of " + call, o.hiddenAt(k, 0), told ? finds.get(k)[0] : NONE);
            due("hiddenAt " + k + " 1 of " + call, o.hiddenAt(k, 1), told ? finds.get(k)[1] : NONE);
        }
        if (!without) {
            checkLooks(r, o, finds);
        }
    }

    private static void checkLooks(Random r, ForeverOffice o, List<int[]> finds) {
        boolean[][] looks = new boolean[1 + r.nextInt(10)][48];
        StringBuilder tape = new StringBuilder();
        int chance = 1 + r.nextInt(5);
        for (boolean[] look : looks) {
            for (int b = 0; b < 6; b++) {
                int bits = 0;
                for (int i = 0; i < 8; i++) {
                    look[8 * b + i] = r.nextInt(6) < chance;
                    bits += look[8 * b + i] ? 1 << i : 0;
                }
                tape.append((char) bits);
            }
        }
        int best = NONE;
        for (int set = (1 << looks.length) - 1; set >= 0; set--) {
            boolean bars = true;
            for (int[] find : finds) {
                boolean barred = false;
                for (int i = 0; i < looks.length; i++) {
                    barred |= (set >> i) % 2 == 1 && looks[i][find[0]];
                }
                bars &= barred;
            }
            if (bars && (best == NONE || Integer.bitCount(set) <= Integer.bitCount(best))) {
                best = set;
            }
        }
        int before = o.lookSet();
        put(o, tape.toString());
        due("looks", o.looks(), best == NONE ? NONE : Integer.bitCount(best));
        due("lookSet", o.lookSet(), best == NONE ? before : best);
        seen[best == NONE ? 7 : Integer.bitCount(best) > 1 ? 8 : 9]++;
    }

    private static void checkClaim(ForeverOffice o, Slow d, String claim, String text) {
        put(o, claim);
        int got = o.claim();
        try {
            SlowClaim slow = new SlowClaim(claim, d);
            due("claim " + claim, got, slow.ones);
            due("fault of " + claim, o.fault(), 0);
            due("holds " + claim + text, o.holds(), slow.holds() ? 1 : 0);
            due("where " + claim + text, o.where(), slow.kind.equals("each") ? slow.where() : NONE);
        } catch (Fault f) {
            due("claim " + claim, got, -1 - f.place);
            due("fault of " + claim, o.fault(), f.kind);
        }
    }

    private static void checkInventor(ForeverOffice o, Slow d, String inventor, String text) {
        put(o, inventor);
        int got = o.inventor();
        int[] lines = new int[1];
        try {
            Map<String, Integer> leads = readInventor(inventor, lines);
            due("inventor " + inventor, got, lines[0]);
            List<Integer> row = answer(leads, d);
            due("answer " + inventor + text, o.answer(), row == null ? NONE : row.size());
            for (int k = 0; row != null && k <= row.size(); k++) {
                due("answerAt " + k + " " + inventor + text, o.answerAt(k), k < row.size() ? row.get(k) : NONE);
            }
            seen[row == null ? 10 : 11]++;
        } catch (Fault f) {
            due("inventor " + inventor, got, -1 - f.place);
            due("fault of " + inventor, o.fault(), f.kind);
        }
    }

    /** The same drawing told otherwise: turned, and its PARTS in another order. */
    private static void checkSame(Random r, ForeverOffice o, Slow d, String text) {
        o.keep(3);
        int by = r.nextInt(d.n);
        List<String> lines = new ArrayList<>();
        for (int part = 0; part < d.parts.size(); part++) {
            Map<String, Integer> p = d.parts.get(part);
            String kind = d.kinds.get(part);
            int pin = (p.get("pin") + (kind.equals("fed") ? by : d.n - by)) % d.n;
            int w = r.nextInt(60) == 0 ? 7 : p.get("w");
            String range = p.get("from") + " to " + p.get("to");
            String rest = kind.equals("weight") ? " arm " + p.get("arm") + (p.containsKey("out") ? " out " + p.get("out") + " from " + range : "")
                : kind.equals("magnet") ? " at " + p.get("at") + (p.containsKey("to") ? " shut " + range : "")
                : kind.equals("fed") ? "" : " from " + range;
            lines.add(kind + " q" + (char) ('a' + part) + " " + pin + " " + w + rest + ";");
        }
        Collections.shuffle(lines, r);
        String other = "turn " + d.n + ";rub " + d.rub + ";" + String.join("", lines);
        if (other.length() > 600) {
            return;
        }
        put(o, other);
        due("drawing " + other, o.drawing(), d.parts.size());
        due("same" + text + " as " + other, o.same(3), Slow.read(other).same(d));
    }

    private static Slow checkDrawing(ForeverOffice o, String text) {
        put(o, text);
        int got = o.drawing();
        try {
            Slow d = Slow.read(text);
            due("drawing " + text, got, d.parts.size());
            due("fault of " + text, o.fault(), 0);
            return d;
        } catch (Fault f) {
            due("drawing " + text, got, -1 - f.place);
            due("fault of " + text, o.fault(), f.kind);
            return null;
        }
    }

    public static void main(String[] args) {
        Random r = new Random(20261118L);
        for (int round = 0; round < 300; round++) {
            ForeverOffice o = new ForeverOffice();
            String drawing = makeDrawing(r);
            Slow d = checkDrawing(o, drawing);
            if (d == null) {
                continue;
            }
            String text = " of " + drawing;
            checkParts(o, d, text);
            checkLaws(o, d, text);
            checkRuns(r, o, d, text);
            for (int i = 0; i < 6; i++) {
                checkFeeding(r, o, d, text);
                checkClaim(o, d, makeClaim(r), text);
                checkInventor(o, d, makeInventor(r), text);
                checkDrawing(new ForeverOffice(), spoil(r, drawing, 600));
                checkClaim(o, d, spoil(r, makeClaim(r), 200), text);
                checkInventor(o, d, spoil(r, makeInventor(r), 600), text);
            }
            for (int i = 0; i < 2; i++) {
                checkHidden(r, o, d, text);
            }
            for (int s = 0; s < 7; s++) {
                due("right " + s + text, o.right(s), d.right(s) ? 1 : 0);
            }
            checkSame(r, o, d, text);
        }
        for (int i = 0; i < seen.length; i++) {
            due("something made up was of sort " + i, seen[i] > 0, true);
        }
        System.out.println("ModelTests: sorts seen " + Arrays.toString(seen));
        tell("ModelTests");
    }
}
