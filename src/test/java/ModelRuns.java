import java.util.ArrayDeque;
import java.util.ArrayList;
import java.util.Arrays;
import java.util.HashMap;
import java.util.List;
import java.util.Map;
import java.util.regex.Matcher;
import java.util.regex.Pattern;

/**
 * Long runs of calls on the class and on a model that is slow on purpose: it tells every WAY one by
 * one, adds RUST year by year, and finds exchanges by breadth. The calls come of a fixed seed.
 */
public final class ModelRuns {
    private static final int RUNS = 150, CALLS = 512;
    private static long seed = 20261119L;
    private static int wrong = 0;

    public static void main(String[] args) {
        for (int run = 0; run < RUNS; run++) {
            playRun(run);
        }
        Faults.play();
        Swaps.play();
        if (wrong != 0) {
            System.out.println(wrong + " answers are not as due");
            System.exit(1);
        }
    }

    static int below(int bound) {
        seed = seed * 6364136223846793005L + 1442695040888963407L;
        return (int) ((seed >>> 33) % bound);
    }

    static void due(String call, long got, long want) {
        if (got != want) {
            wrong++;
            if (wrong <= 20) {
                System.out.println(call + " answered " + got + ", due is " + want);
            }
        }
    }

    private static void playRun(int run) {
        LeanedBars x = new LeanedBars();
        Model m = new Model();
        int call = 0;
        while (call < CALLS) {
            if (call == 0 || below(120) == 0) {
                call += tell(run, x, m);
            } else {
                playCall("run " + run + ", call " + call + ": ", x, m);
                call++;
            }
        }
    }

    private static int tell(int run, LeanedBars x, Model m) {
        String text = Texts.whole();
        for (int i = 0; i < text.length(); i++) {
            due("run " + run + ": type", x.type(text.charAt(i), 1), m.type(text.charAt(i), 1));
        }
        due("run " + run + ": square of " + m.text, x.square(), m.square());
        return 1 + text.length();
    }

    /** Mostly in bounds, now and then just beyond them, or far. */
    private static int number(int least, int most) {
        int kind = below(40);
        if (kind == 0) {
            return below(2) == 0 ? least - 1 : most + 1;
        }
        if (kind == 1) {
            int[] odd = {Integer.MIN_VALUE, Integer.MAX_VALUE, -4, -9, 100, 0x10000};
            return odd[below(odd.length)];
        }
        return most < least ? least : least + below(most - least + 1);
    }

    private static void playCall(String at, LeanedBars x, Model m) {
        int b = number(0, m.metals.size() - 1);
        int p = number(0, m.grips.size() - 1);
        int y = number(0, 9);
        int w = number(1, 10);
        int what = number(0, 1);
        switch (below(27)) {
            case 0: due(at + "bar " + b, x.bar(b), m.bar(b)); break;
            case 1: due(at + "person " + p, x.person(p), m.person(p)); break;
            case 2: due(at + "rain " + y, x.rain(y), m.rain(y)); break;
            case 3: due(at + "paint " + b + " " + y, x.paint(b, y), m.paint(b, y)); break;
            case 4: case 5: case 6: {
                int n = number(1, Math.max(1, 10 - Math.max(0, Math.min(9, y))));
                due(at + "holds " + p + " " + b + " " + y + " " + n, x.holds(p, b, y, n), m.holds(p, b, y, n));
                break;
            }
            case 7: due(at + "undo", x.undo(), m.undo()); break;
            case 8: {
                int i = number(0, m.now.holds.size() - 1);
                int part = number(0, 3);
                due(at + "held " + i + " " + part, x.held(i, part), m.held(i, part));
                break;
            }
            case 9: due(at + "rust " + b + " " + y, x.rust(b, y), m.rust(b, y)); break;
            case 10: case 11: case 12: {
                int rust = sight(m, b);
                due(at + "saw " + b + " " + rust, x.saw(b, rust), m.saw(b, rust));
                break;
            }
            case 13: due(at + "hide " + b, x.hide(b), m.hide(b)); break;
            case 14: due(at + "seen " + b, x.seen(b), m.seen(b)); break;
            case 15: due(at + "fits", x.fits(), m.fits()); break;
            case 16: due(at + "sure " + p, x.sure(p), m.sure(p)); break;
            case 17: {
                int which = below(3) == 0 ? -4 : b;
                due(at + "odds " + p + " " + which + " " + what, x.odds(p, which, what), m.odds(p, which, what));
                break;
            }
            case 18: due(at + "claim " + p + " " + b + " " + w, x.claim(p, b, w), m.claim(p, b, w)); break;
            case 19: due(at + "saves " + p + " " + b + " " + w, x.saves(p, b, w), m.saves(p, b, w)); break;
            case 20: due(at + "scrape " + what, x.scrape(what), m.scrape(what)); break;
            case 21: {
                if (below(2) == 0) {
                    changeAbout(x, m);
                }
                due(at + "swaps", x.swaps(), m.swaps());
                break;
            }
            case 22: {
                int kind = number(0, 5);
                due(at + "rate " + kind + " " + b, x.rate(kind, b), m.rate(kind, b));
                break;
            }
            case 23: due(at + "keep " + what, x.keep(what), m.keep(what)); break;
            case 24: due(at + "back " + what, x.back(what), m.back(what)); break;
            case 25: {
                int kind = number(0, 5);
                due(at + "count " + kind, x.count(kind), m.count(kind));
                break;
            }
            default: due(at + "trace", x.trace(), m.trace); break;
        }
    }

    /** Sees on some of the BARS what HOLDS leave on them, in another order. */
    private static void changeAbout(LeanedBars x, Model m) {
        List<Integer> which = new ArrayList<>();
        List<Integer> rusts = new ArrayList<>();
        for (int b = 0; b < m.metals.size(); b++) {
            if (below(6) > 0) {
                which.add(b);
                rusts.add(below(rusts.size() + 1), m.rustIn(b, 9));
            } else {
                due("hide " + b, x.hide(b), m.hide(b));
            }
        }
        for (int i = 0; i < which.size(); i++) {
            due("saw " + which.get(i), x.saw(which.get(i), rusts.get(i)), m.saw(which.get(i), rusts.get(i)));
        }
    }

    /** What some WAY leaves, or what HOLDS leave on some BAR, so that questions have answers. */
    private static int sight(Model m, int b) {
        if (!m.hasBar(b) || below(20) == 0) {
            return number(0, 999);
        }
        if (below(3) == 0) {
            return m.rustIn(below(m.metals.size()), 9);
        }
        int rust = m.weather(b, 9);
        for (int p = 0; p < m.grips.size(); p++) {
            if (below(2) == 0) {
                rust += m.grips.get(p) * m.dry(b, 0, below(10));
            }
        }
        return rust;
    }

    /** Texts that can be read. */
    static final class Texts {
        static String whole() {
            StringBuilder text = new StringBuilder();
            int bars = below(8) == 0 ? 0 : 1 + below(6);
            int people = below(8) == 0 ? 0 : 1 + below(3);
            for (int i = 0; i < bars; i++) {
                add(text, "bar", 1 + below(3));
            }
            for (int i = 0; i < people; i++) {
                add(text, "person", 1 + below(9));
            }
            for (int i = below(5); i > 0; i--) {
                add(text, "rain", below(10), below(4));
            }
            for (int i = bars == 0 ? 0 : below(9); i > 0; i--) {
                add(text, "paint", below(bars), below(3) == 0 ? 0 : below(10), 1 + below(5));
            }
            return text.toString();
        }

        static void add(StringBuilder text, String word, int... numbers) {
            text.append(word);
            for (int i = 0; i < numbers.length; i++) {
                text.append(i > 0 || below(2) == 0 ? " " : "").append(numbers[i]);
            }
            text.append(below(4) == 0 ? " ;" : ";").append(below(4) == 0 ? " " : "");
        }
    }

    /** Texts that have been spoilt, each on an object of its own. */
    static final class Faults {
        static void play() {
            for (int i = 0; i < 40000; i++) {
                String text = spoilt();
                LeanedBars x = new LeanedBars();
                Model m = new Model();
                for (int at = 0; at < text.length(); at++) {
                    x.type(text.charAt(at), 1);
                    m.type(text.charAt(at), 1);
                }
                due("square of \"" + text + "\"", x.square(), m.square());
                due("bytes of \"" + text + "\"", x.count(5), m.count(5));
                due("bars of \"" + text + "\"", x.count(0), m.count(0));
                due("paint of \"" + text + "\"", x.count(2), m.count(2));
            }
        }

        static String spoilt() {
            StringBuilder text = new StringBuilder(Texts.whole());
            if (below(3) == 0) {
                text.append(text);
            }
            String signs = "bar personit 0123456789;; #Z\u00ff\u0001";
            for (int i = below(3); i > 0 && text.length() > 0; i--) {
                int at = below(text.length());
                switch (below(4)) {
                    case 0: text.deleteCharAt(at); break;
                    case 1: text.insert(at, signs.charAt(below(signs.length()))); break;
                    case 2: text.setCharAt(at, signs.charAt(below(signs.length()))); break;
                    default: text.setLength(at); break;
                }
            }
            text.setLength(Math.min(300, text.length()));
            return text.toString();
        }
    }

    /** BARS that share few RUSTS, changed about. */
    static final class Swaps {
        static void play() {
            for (int i = 0; i < 300; i++) {
                StringBuilder text = new StringBuilder();
                int kinds = 1 + below(3);
                for (int b = 0; b < 6; b++) {
                    text.append("bar").append(1 + below(kinds)).append(';');
                }
                LeanedBars x = new LeanedBars();
                Model m = new Model();
                for (int at = 0; at < text.length(); at++) {
                    x.type(text.charAt(at), 1);
                    m.type(text.charAt(at), 1);
                }
                due("square", x.square(), m.square());
                for (int again = 0; again < 3; again++) {
                    changeAbout(x, m);
                    due("swaps of " + text + " " + m.now.seen, x.swaps(), m.swaps());
                }
            }
        }
    }

    static final class State {
        final List<int[]> holds = new ArrayList<>();
        final Map<Integer, Integer> seen = new HashMap<>();

        State copy() {
            State other = new State();
            other.holds.addAll(holds);
            other.seen.putAll(seen);
            return other;
        }
    }

    static final class Model {
        private static final Pattern TOKEN = Pattern.compile(" *([a-z]+|[0-9]+|;|[^ ])");
        String text = "";
        List<Integer> metals = new ArrayList<>();
        List<Integer> grips = new ArrayList<>();
        int[] rains = new int[10];
        List<int[]> paints = new ArrayList<>();
        State now = new State();
        final State[] images = new State[2];
        long trace = 0;

        Model() {
            Arrays.fill(rains, 1);
        }

        int type(long v, int n) {
            if (n < 1 || n > 8) {
                return -1;
            }
            if (text.length() + n > 300) {
                return -3;
            }
            for (int i = n - 1; i >= 0; i--) {
                text += (char) (v >> 8 * i & 255);
            }
            return text.length();
        }

        /** What may stand at each place of an ITEM of a word. */
        private boolean stands(List<String> item, String token, Model draft) {
            if (item.isEmpty()) {
                switch (token) {
                    case "bar": return draft.metals.size() < 6;
                    case "person": return draft.grips.size() < 3;
                    case "paint": return draft.paints.size() < 8;
                    default: return token.equals("rain");
                }
            }
            int[][] bounds;
            switch (item.get(0)) {
                case "bar": bounds = new int[][] {{1, 3}}; break;
                case "person": bounds = new int[][] {{1, 9}}; break;
                case "rain": bounds = new int[][] {{0, 9}, {0, 3}}; break;
                default: bounds = new int[][] {{0, draft.metals.size() - 1}, {0, 9}, {1, 5}}; break;
            }
            if (item.size() > bounds.length) {
                return token.equals(";");
            }
            if (!token.matches("0|[1-9][0-9]?")) {
                return false;
            }
            int n = Integer.parseInt(token);
            return n >= bounds[item.size() - 1][0] && n <= bounds[item.size() - 1][1];
        }

        int square() {
            Model draft = new Model();
            List<String> item = new ArrayList<>();
            int items = 0;
            Matcher tokens = TOKEN.matcher(text);
            int at = 0;
            while (at < text.length() && tokens.find(at) && tokens.start() == at) {
                String token = tokens.group(1);
                if (!stands(item, token, draft)) {
                    return -10 - tokens.start(1);
                }
                item.add(token);
                if (token.equals(";")) {
                    draft.tell(item);
                    item.clear();
                    items++;
                }
                at = tokens.end();
            }
            if (!item.isEmpty()) {
                return -10 - text.length();
            }
            metals = draft.metals;
            grips = draft.grips;
            rains = draft.rains;
            paints = draft.paints;
            now = new State();
            Arrays.fill(images, null);
            text = "";
            return items;
        }

        private void tell(List<String> item) {
            int[] n = new int[3];
            for (int i = 1; i < item.size() - 1; i++) {
                n[i - 1] = Integer.parseInt(item.get(i));
            }
            switch (item.get(0)) {
                case "bar": metals.add(n[0]); break;
                case "person": grips.add(n[0]); break;
                case "rain": rains[n[0]] = n[1]; break;
                default: paints.add(n); break;
            }
        }

        boolean hasBar(int b) {
            return b >= 0 && b < metals.size();
        }

        boolean hasPerson(int p) {
            return p >= 0 && p < grips.size();
        }

        int bar(int b) {
            return hasBar(b) ? metals.get(b) : -1;
        }

        int person(int p) {
            return hasPerson(p) ? grips.get(p) : -1;
        }

        int rain(int y) {
            return y >= 0 && y <= 9 ? rains[y] : -1;
        }

        int paint(int b, int y) {
            if (!hasBar(b) || y < 0 || y > 9) {
                return -1;
            }
            int most = 0;
            for (int[] paint : paints) {
                for (int k = 0; k < paint[2]; k++) {
                    if (paint[0] == b && paint[1] + k == y) {
                        most = Math.max(most, k == 0 ? 2 : 1);
                    }
                }
            }
            return most;
        }

        int holds(int p, int b, int from, int n) {
            if (!hasPerson(p) || !hasBar(b) || from < 0 || from > 9 || n < 1 || n > 10 || from + n - 1 > 9) {
                return -1;
            }
            if (now.holds.size() == 12) {
                return -3;
            }
            now.holds.add(new int[] {p, b, from, n});
            return now.holds.size();
        }

        int undo() {
            if (now.holds.isEmpty()) {
                return -2;
            }
            now.holds.remove(now.holds.size() - 1);
            return now.holds.size();
        }

        int held(int i, int what) {
            if (i < 0 || i >= now.holds.size() || what < 0 || what > 3) {
                return -1;
            }
            return now.holds.get(i)[what];
        }

        int weather(int b, int y) {
            int sum = 0;
            for (int t = 0; t <= y; t++) {
                sum += paint(b, t) == 0 ? rains[t] * metals.get(b) : 0;
            }
            return sum;
        }

        int dry(int b, int first, int last) {
            int years = 0;
            for (int t = first; t <= last; t++) {
                years += paint(b, t) == 2 ? 0 : 1;
            }
            return years;
        }

        int rustIn(int b, int y) {
            int sum = 0;
            for (int t = 0; t <= y; t++) {
                sum += paint(b, t) == 0 ? rains[t] * metals.get(b) : 0;
                for (int[] hold : now.holds) {
                    if (hold[1] == b && t >= hold[2] && t < hold[2] + hold[3] && paint(b, t) != 2) {
                        sum += grips.get(hold[0]);
                    }
                }
            }
            return sum;
        }

        int rust(int b, int y) {
            return hasBar(b) && y >= 0 && y <= 9 ? rustIn(b, y) : -1;
        }

        int saw(int b, int rust) {
            if (!hasBar(b) || rust < 0 || rust > 999) {
                return -1;
            }
            Integer before = now.seen.put(b, rust);
            return before == null ? -9 : before;
        }

        int hide(int b) {
            if (!hasBar(b)) {
                return -1;
            }
            Integer before = now.seen.remove(b);
            return before == null ? -2 : before;
        }

        int seen(int b) {
            return hasBar(b) ? now.seen.getOrDefault(b, -9) : -1;
        }

        /** Each WAY: for each PERSON BAR and WINTERS (-4, 0: none), then the RUST of each BAR. */
        List<int[]> ways() {
            int people = grips.size();
            int options = 1 + 10 * metals.size();
            int[][] left = new int[people * options][];
            int[] weathers = new int[metals.size()];
            for (int b = 0; b < metals.size(); b++) {
                weathers[b] = weather(b, 9);
                for (int p = 0; p < people; p++) {
                    for (int w = 1; w <= 10; w++) {
                        left[p * options + 10 * b + w] = new int[] {b, w, grips.get(p) * dry(b, 0, w - 1)};
                    }
                }
            }
            int all = 1;
            for (int p = 0; p < people; p++) {
                all *= options;
            }
            List<int[]> found = new ArrayList<>();
            for (int code = 0; code < all; code++) {
                int[] way = new int[2 * people + metals.size()];
                System.arraycopy(weathers, 0, way, 2 * people, weathers.length);
                int rest = code;
                for (int p = 0; p < people; p++) {
                    int[] option = left[p * options + rest % options];
                    rest /= options;
                    way[2 * p] = option == null ? -4 : option[0];
                    way[2 * p + 1] = option == null ? 0 : option[1];
                    if (option != null) {
                        way[2 * people + option[0]] += option[2];
                    }
                }
                boolean fits = true;
                for (Map.Entry<Integer, Integer> sight : now.seen.entrySet()) {
                    fits &= way[2 * people + sight.getKey()] == sight.getValue();
                }
                if (fits) {
                    found.add(way);
                }
            }
            return found;
        }

        int fits() {
            return ways().size();
        }

        int sure(int p) {
            if (!hasPerson(p)) {
                return -1;
            }
            int sure = -9;
            for (int[] way : ways()) {
                if (sure != -9 && sure != way[2 * p]) {
                    return -5;
                }
                sure = way[2 * p];
            }
            return sure;
        }

        int odds(int p, int b, int what) {
            if (!hasPerson(p) || b != -4 && !hasBar(b) || what < 0 || what > 1) {
                return -1;
            }
            List<int[]> ways = ways();
            int upper = 0;
            for (int[] way : ways) {
                upper += way[2 * p] == b ? 1 : 0;
            }
            if (upper == 0) {
                return what;
            }
            java.math.BigInteger part = java.math.BigInteger.valueOf(upper);
            int divisor = part.gcd(java.math.BigInteger.valueOf(ways.size())).intValue();
            return (what == 0 ? upper : ways.size()) / divisor;
        }

        int claim(int p, int b, int w) {
            if (!hasPerson(p) || !hasBar(b) || w < 1 || w > 10) {
                return -1;
            }
            for (int[] way : ways()) {
                if (way[2 * p] == b && way[2 * p + 1] == w) {
                    return 1;
                }
            }
            return 0;
        }

        int saves(int p, int b, int w) {
            if (!hasPerson(p) || !hasBar(b) || w < 1 || w > 10) {
                return -1;
            }
            int best = -9;
            for (int[] way : ways()) {
                int winters = way[2 * p + 1];
                if (way[2 * p] == b) {
                    int away = Math.abs(winters - w);
                    if (best < 0 || away < Math.abs(best - w) || away == Math.abs(best - w) && winters < best) {
                        best = winters;
                    }
                }
            }
            return best;
        }

        int scrape(int what) {
            if (what < 0 || what > 1) {
                return -1;
            }
            List<int[]> ways = ways();
            int[] best = {-9, -9};
            for (int b = 0; b < metals.size() && !ways.isEmpty(); b++) {
                if (!now.seen.containsKey(b)) {
                    Map<Integer, Integer> leaves = new HashMap<>();
                    int worst = 0;
                    for (int[] way : ways) {
                        worst = Math.max(worst, leaves.merge(way[2 * grips.size() + b], 1, Integer::sum));
                    }
                    if (best[0] == -9 || worst < best[1]) {
                        best = new int[] {b, worst};
                    }
                }
            }
            return best[what];
        }

        int swaps() {
            List<Integer> start = new ArrayList<>();
            List<Integer> goal = new ArrayList<>();
            for (int b = 0; b < metals.size(); b++) {
                if (now.seen.containsKey(b)) {
                    start.add(rustIn(b, 9));
                    goal.add(now.seen.get(b));
                }
            }
            Map<List<Integer>, Integer> steps = new HashMap<>();
            ArrayDeque<List<Integer>> open = new ArrayDeque<>();
            steps.put(start, 0);
            open.add(start);
            while (!open.isEmpty()) {
                List<Integer> row = open.remove();
                for (int i = 0; i < row.size(); i++) {
                    for (int j = i + 1; j < row.size(); j++) {
                        List<Integer> next = new ArrayList<>(row);
                        next.set(i, row.get(j));
                        next.set(j, row.get(i));
                        if (!steps.containsKey(next)) {
                            steps.put(next, steps.get(row) + 1);
                            open.add(next);
                        }
                    }
                }
            }
            return steps.getOrDefault(goal, -9);
        }

        int rate(int kind, int b) {
            if (kind < 0 || kind > 5 || !hasBar(b)) {
                return -1000000;
            }
            int[] above = {-1, 0, 0, 1, 2, 0};
            int[] marks = {1, 10, 100, 1000, 10000, 100000};
            trace += marks[kind];
            int up = kind == 0 ? 0 : rate(above[kind], b);
            int covered = 0;
            for (int y = 0; y <= 9; y++) {
                covered += paint(b, y) > 0 ? 1 : 0;
            }
            int held = 0;
            for (int[] hold : now.holds) {
                held += hold[1] == b ? 1 : 0;
            }
            int[] rates = {metals.get(b), up + covered, up - held, 2 * up, up + b, up + rustIn(b, 9)};
            return rates[kind];
        }

        int keep(int image) {
            if (image < 0 || image > 1) {
                return -1;
            }
            images[image] = now.copy();
            return now.holds.size();
        }

        int back(int image) {
            if (image < 0 || image > 1) {
                return -1;
            }
            if (images[image] == null) {
                return -2;
            }
            now = images[image].copy();
            return now.holds.size();
        }

        int count(int what) {
            int[] counts = {metals.size(), grips.size(), paints.size(), now.holds.size(), now.seen.size(), text.length()};
            return what < 0 || what > 5 ? -1 : counts[what];
        }
    }
}
