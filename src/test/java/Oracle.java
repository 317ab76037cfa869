import java.util.ArrayDeque;
import java.util.ArrayList;
import java.util.Arrays;
import java.util.Deque;
import java.util.HashMap;
import java.util.List;
import java.util.Map;
import java.util.TreeSet;
import java.util.regex.Matcher;
import java.util.regex.Pattern;

/** The document told a second time, slowly and by other means, to compare answers with. */
final class Oracle {
    private static final int NONE = -1000000, BAD = -1000001, STATE = -1000002, FULL = -1000003;

    /** Who lives, what is open: everything that an image keeps. */
    private static final class Plan {
        int plots, near, tie, day;
        List<int[]> gates = new ArrayList<>();
        String sorts = "";
        List<int[]> people = new ArrayList<>();
        TreeSet<Integer> open = new TreeSet<>();
        TreeSet<Integer> spent = new TreeSet<>();

        Plan twin() {
            Plan t = new Plan();
            t.plots = plots;
            t.near = near;
            t.tie = tie;
            t.day = day;
            t.sorts = sorts;
            gates.forEach(g -> t.gates.add(g.clone()));
            people.forEach(p -> t.people.add(p.clone()));
            t.open.addAll(open);
            t.spent.addAll(spent);
            return t;
        }

        int[][] ways() {
            int[][] way = new int[plots][plots];
            for (int[] line : way) {
                Arrays.fill(line, 1000);
            }
            for (int k = 0; k < plots; k++) {
                way[k][k] = 0;
            }
            for (int g : open) {
                way[gates.get(g)[0]][gates.get(g)[1]] = 1;
                way[gates.get(g)[1]][gates.get(g)[0]] = 1;
            }
            for (int k = 0; k < plots; k++) {
                for (int i = 0; i < plots; i++) {
                    for (int j = 0; j < plots; j++) {
                        way[i][j] = Math.min(way[i][j], way[i][k] + way[k][j]);
                    }
                }
            }
            return way;
        }

        int steps(int p, int g) {
            int[] way = ways()[people.get(p)[0]];
            return Math.min(way[gates.get(g)[0]], way[gates.get(g)[1]]);
        }

        boolean glad(int p) {
            return ways()[people.get(p)[0]][people.get(p)[1]] < 1000;
        }

        boolean walledIn(int p) {
            int home = people.get(p)[0];
            return open.stream().noneMatch(g -> gates.get(g)[0] == home || gates.get(g)[1] == home);
        }

        int gladSet() {
            int set = 0;
            for (int p = 0; p < people.size(); p++) {
                set += glad(p) ? 1 << p : 0;
            }
            return set;
        }

        int walledSet() {
            int set = 0;
            for (int p = 0; p < people.size(); p++) {
                set += walledIn(p) ? 1 << p : 0;
            }
            return set;
        }

        boolean wants(int p, int g) {
            return people.get(p)[2] / (1 << g) % 2 == 1;
        }

        void want(int p, int g, boolean is) {
            if (wants(p, g) != is) {
                people.get(p)[2] += is ? 1 << g : -(1 << g);
            }
        }

        int[] sums(int g) {
            int[] sum = new int[2];
            for (int p = 0; p < people.size(); p++) {
                char sort = sorts.charAt(p);
                int steps = steps(p, g);
                int voice = steps <= near ? Math.max(people.get(p)[3] - steps, 0)
                    : sort == 'w' && walledIn(p) ? 1 : 0;
                boolean forOpen = sort == 'm' ? open.contains(g) : wants(p, g);
                sum[forOpen ? 0 : 1] += sort == 's' ? 0 : voice;
            }
            return sum;
        }

        void dawn() {
            TreeSet<Integer> then = new TreeSet<>();
            TreeSet<Integer> spentThen = new TreeSet<>(spent);
            for (int g = 0; g < gates.size(); g++) {
                int[] sum = sums(g);
                boolean is = sum[0] > sum[1] || sum[0] == sum[1] && (tie == 1 || tie == 2 && open.contains(g));
                for (int p = 0; is && p < people.size(); p++) {
                    if (sorts.charAt(p) == 'x' && steps(p, g) <= near && !wants(p, g) && spentThen.add(p)) {
                        is = false;
                    }
                }
                if (is) {
                    then.add(g);
                }
            }
            open = then;
            spent = spentThen;
            day++;
        }

        Plan behind(int n) {
            Plan t = twin();
            for (int k = 0; k < n; k++) {
                t.dawn();
            }
            return t;
        }

        int all() {
            return (1 << gates.size()) - 1;
        }
    }

    private final Map<Integer, Object> rows = new HashMap<>();
    private final StringBuilder tape = new StringBuilder();
    private Plan plan;
    private final Plan[] images = new Plan[2];
    private final Deque<Plan> acts = new ArrayDeque<>();
    private List<Integer> traced = new ArrayList<>();
    private int fault;
    private int status;

    private static int bits(Iterable<Integer> set) {
        int bits = 0;
        for (int k : set) {
            bits += 1 << k;
        }
        return bits;
    }

    private static TreeSet<Integer> members(int bits) {
        TreeSet<Integer> set = new TreeSet<>();
        for (int k = 0; k < 8; k++) {
            if (bits / (1 << k) % 2 == 1) {
                set.add(k);
            }
        }
        return set;
    }

    private int found(int number) {
        status = number;
        return -1000010 - number;
    }

    private int well(int answer) {
        status = 0;
        return answer;
    }

    private boolean noPerson(int p) {
        return plan == null || p < 0 || p >= plan.people.size();
    }

    private boolean noGate(int g) {
        return plan == null || g < 0 || g >= plan.gates.size();
    }

    private static int length(Object row) {
        return row instanceof byte[] b ? b.length : row instanceof short[] s ? s.length : ((int[]) row).length;
    }

    int row(int row, int lane, int n) {
        if (row < 0 || row > 7 || lane < 0 || lane > 2 || n > 40) {
            return BAD;
        }
        if (n < 0) {
            return found(4);
        }
        rows.put(row, lane == 0 ? new byte[n] : lane == 1 ? new short[n] : new int[n]);
        return well(n);
    }

    int set(int row, int i, int v) {
        if (row < 0 || row > 7) {
            return BAD;
        }
        Object r = rows.get(row);
        if (r == null) {
            return found(1);
        }
        if (i < 0 || i >= length(r)) {
            return found(2);
        }
        if (r instanceof byte[] b) {
            b[i] = (byte) v;
            return well(b[i]);
        }
        if (r instanceof short[] s) {
            s[i] = (short) v;
            return well(s[i]);
        }
        ((int[]) r)[i] = v;
        return well(v);
    }

    int copy(int a, int i, int b, int j, int n) {
        if (a < 0 || a > 7 || b < 0 || b > 7) {
            return BAD;
        }
        Object from = rows.get(a);
        Object to = rows.get(b);
        if (from == null || to == null) {
            return found(1);
        }
        if (from.getClass() != to.getClass()) {
            return found(5);
        }
        if (i < 0 || j < 0 || n < 0 || (long) i + n > length(from) || (long) j + n > length(to)) {
            return found(2);
        }
        System.arraycopy(from, i, to, j, n);
        return well(n);
    }

    int drop(int row) {
        if (row < 0 || row > 7) {
            return BAD;
        }
        Object r = rows.remove(row);
        return r == null ? found(1) : well(length(r));
    }

    int feed(int letter) {
        if (letter < 0 || letter > 255) {
            return BAD;
        }
        if (tape.length() == 160) {
            return FULL;
        }
        tape.append((char) letter);
        return tape.length();
    }

    /** Tokens first, then what stands where: "place number" of a fault, or null. */
    private static String read(String text, Plan c) {
        List<String> tokens = new ArrayList<>();
        List<Integer> places = new ArrayList<>();
        Matcher m = Pattern.compile("[0-9]+|.", Pattern.DOTALL).matcher(text);
        while (m.find()) {
            tokens.add(m.group());
            places.add(m.start());
        }
        tokens.add("end");
        places.add(text.length());
        String shape = "p#,#,#;";
        int[] numbers = new int[4];
        int told = 0;
        int at = 0;
        int k = 0;
        char what = 'p';
        while (true) {
            String token = tokens.get(k);
            int place = places.get(k);
            if (at == shape.length()) {
                if (what == 'p') {
                    c.plots = numbers[0];
                    c.near = numbers[1];
                    c.tie = numbers[2];
                } else if (what == 'g') {
                    if (numbers[2] == 1) {
                        c.open.add(c.gates.size());
                    }
                    c.gates.add(new int[] {numbers[0], numbers[1]});
                } else {
                    c.sorts += what;
                    c.people.add(numbers.clone());
                }
                if (token.equals("end")) {
                    return null;
                }
                String may = c.people.isEmpty() ? "gvwmxs" : "vwmxs";
                if (token.length() != 1 || may.indexOf(token.charAt(0)) < 0) {
                    return place + " 1";
                }
                what = token.charAt(0);
                if (what == 'g' ? c.gates.size() == 8 : c.people.size() == 5) {
                    return place + " 3";
                }
                shape = what == 'g' ? "g#,#,#;" : what + "#,#,#,#;";
                at = 1;
                told = 0;
                k++;
                continue;
            }
            if (shape.charAt(at) == '#') {
                if (!token.matches("[0-9]{1,3}")) {
                    return place + " 1";
                }
                int value = Integer.parseInt(token);
                int least = what == 'p' && told == 0 ? 2 : 0;
                int[] most = what == 'p' ? new int[] {6, 3, 2}
                    : what == 'g' ? new int[] {c.plots - 1, c.plots - 1, 1}
                    : new int[] {c.plots - 1, c.plots - 1, c.all(), 20};
                if (value < least || value > most[told] || what == 'g' && told == 1 && value == numbers[0]) {
                    return place + " 2";
                }
                numbers[told] = value;
                told++;
            } else if (!token.equals("" + shape.charAt(at))) {
                return place + " 1";
            }
            at++;
            k++;
        }
    }

    int city() {
        Plan c = new Plan();
        String wrong = read(tape.toString(), c);
        tape.setLength(0);
        if (wrong != null) {
            fault = Integer.parseInt(wrong.split(" ")[1]);
            return -1000100 - Integer.parseInt(wrong.split(" ")[0]);
        }
        plan = c;
        acts.clear();
        return c.plots;
    }

    int fault() {
        return fault;
    }

    private void act() {
        acts.push(plan.twin());
        if (acts.size() > 24) {
            acts.removeLast();
        }
    }

    int dawn(int n) {
        if (plan == null) {
            return STATE;
        }
        if (n < 1 || n > 20) {
            return BAD;
        }
        if (plan.day + n > 999) {
            return FULL;
        }
        for (int k = 0; k < n; k++) {
            act();
            plan.dawn();
        }
        return bits(plan.open);
    }

    int turn(int gate) {
        if (noGate(gate)) {
            return BAD;
        }
        act();
        if (plan.open.remove(gate)) {
            return 0;
        }
        plan.open.add(gate);
        return 1;
    }

    int wish(int person, int set) {
        if (noPerson(person) || set < 0 || set > plan.all()) {
            return BAD;
        }
        act();
        int was = plan.people.get(person)[2];
        plan.people.get(person)[2] = set;
        return was;
    }

    int undo() {
        if (acts.isEmpty()) {
            return STATE;
        }
        plan = acts.pop();
        return acts.size();
    }

    int person(int person, int what) {
        if (noPerson(person) || what < 0 || what > 4) {
            return BAD;
        }
        return what < 4 ? plan.people.get(person)[what] : plan.spent.contains(person) ? 1 : 0;
    }

    int gate(int gate, int what) {
        if (noGate(gate) || what < 0 || what > 2) {
            return BAD;
        }
        return what < 2 ? plan.gates.get(gate)[what] : plan.open.contains(gate) ? 1 : 0;
    }

    private static int reached(Plan c, int plot) {
        int set = 0;
        for (int k = 0; k < c.plots; k++) {
            set += c.ways()[plot][k] < 1000 ? 1 << k : 0;
        }
        return set;
    }

    int reach(int plot) {
        return plan == null || plot < 0 || plot >= plan.plots ? BAD : reached(plan, plot);
    }

    int steps(int person, int gate) {
        if (noPerson(person) || noGate(gate)) {
            return BAD;
        }
        int steps = plan.steps(person, gate);
        return steps >= 1000 ? NONE : steps;
    }

    int votes(int gate, int what) {
        return noGate(gate) || what < 0 || what > 1 ? BAD : plan.sums(gate)[what];
    }

    int ahead(int n, int what) {
        if (plan == null) {
            return STATE;
        }
        if (n < 0 || n > 60 || what < 0 || what > 2) {
            return BAD;
        }
        Plan then = plan.behind(n);
        return what == 0 ? bits(then.open) : what == 1 ? then.walledSet() : then.gladSet();
    }

    int round(int what) {
        if (plan == null) {
            return STATE;
        }
        if (what < 0 || what > 1) {
            return BAD;
        }
        Map<String, Integer> mornings = new HashMap<>();
        Plan t = plan.twin();
        for (int n = 0;; n++) {
            Integer first = mornings.put(t.open + " " + t.spent, n);
            if (first != null) {
                return what == 0 ? first : n - first;
            }
            t.dawn();
        }
    }

    private int fewest(int gate, boolean is, int n, int what) {
        for (int many = 0; many <= plan.people.size(); many++) {
            for (int set = 0; set < 1 << plan.people.size(); set++) {
                if (members(set).size() == many && stays(set, gate, is, n)) {
                    return what == 0 ? many : set;
                }
            }
        }
        return NONE;
    }

    private boolean stays(int set, int gate, boolean is, int n) {
        Plan t = plan.twin();
        members(set).forEach(p -> t.want(p, gate, is));
        boolean stays = true;
        for (int k = 0; k < n; k++) {
            t.dawn();
            stays = stays && t.open.contains(gate) == is;
        }
        return stays;
    }

    int won(int gate, int is, int what) {
        return noGate(gate) || is < 0 || is > 1 || what < 0 || what > 1 ? BAD : fewest(gate, is == 1, 1, what);
    }

    int kept(int gate, int n, int what) {
        return noGate(gate) || n < 1 || n > 10 || what < 0 || what > 1 ? BAD : fewest(gate, true, n, what);
    }

    int swap(int a, int b) {
        if (noPerson(a) || noPerson(b) || a == b) {
            return BAD;
        }
        Plan none = plan.behind(1);
        if (none.glad(a) && none.glad(b)) {
            return NONE;
        }
        for (int both = 0; both < 64; both++) {
            int one = both / 8;
            int two = both % 8;
            if (one != two && !noGate(one) && !noGate(two)) {
                Plan t = plan.twin();
                t.want(a, one, plan.wants(b, one));
                t.want(b, two, plan.wants(a, two));
                t.dawn();
                if (t.glad(a) && t.glad(b)) {
                    return both;
                }
            }
        }
        return NONE;
    }

    int best(int person) {
        if (noPerson(person)) {
            return BAD;
        }
        for (int wish = 0; wish <= plan.all(); wish++) {
            Plan t = plan.twin();
            t.people.get(person)[2] = wish;
            t.dawn();
            if (t.glad(person)) {
                return wish;
            }
        }
        return NONE;
    }

    int laws(int n, int what) {
        if (plan == null) {
            return STATE;
        }
        if (n < 1 || n > 10 || what < 0 || what > 2) {
            return BAD;
        }
        int[] best = {0, 0, -1};
        for (int law = 0; law < 12; law++) {
            Plan t = plan.twin();
            t.near = law / 3;
            t.tie = law % 3;
            int many = Integer.bitCount(t.behind(n).gladSet());
            if (many > best[2]) {
                best = new int[] {law / 3, law % 3, many};
            }
        }
        return best[what];
    }

    private static int item(Object row, int i) {
        return row instanceof byte[] b ? b[i] : row instanceof short[] s ? s[i] : ((int[]) row)[i];
    }

    int opened(int row, int i, int n, int what) {
        if (plan == null) {
            return STATE;
        }
        if (row < 0 || row > 7 || n < 0 || n > 10 || what < 0 || what > 2) {
            return BAD;
        }
        Object r = rows.get(row);
        if (r == null) {
            return found(1);
        }
        if (i < 0 || (long) i + 2 * n > length(r)) {
            return found(2);
        }
        for (int k = 0; k < n; k++) {
            int is = item(r, i + 2 * k + 1);
            if (noPerson(item(r, i + 2 * k)) || is != 0 && is != 1) {
                return BAD;
            }
        }
        List<TreeSet<Integer>> fits = new ArrayList<>();
        for (int set = 0; set <= plan.all(); set++) {
            Plan t = plan.twin();
            t.open = members(set);
            boolean so = true;
            for (int k = 0; k < n; k++) {
                so = so && t.glad(item(r, i + 2 * k)) == (item(r, i + 2 * k + 1) == 1);
            }
            if (so) {
                fits.add(t.open);
            }
        }
        if (what == 0 || fits.isEmpty()) {
            return well(what == 0 ? fits.size() : NONE);
        }
        TreeSet<Integer> gates = members(plan.all());
        gates.removeIf(g -> fits.stream().anyMatch(open -> open.contains(g) != (what == 1)));
        return well(bits(gates));
    }

    int sold(int gates) {
        if (plan == null) {
            return STATE;
        }
        if (gates < 0 || gates > plan.all()) {
            return BAD;
        }
        TreeSet<Integer> sellers = new TreeSet<>();
        for (int p = 0; p < plan.people.size(); p++) {
            for (int g = 0; g < plan.gates.size(); g++) {
                Plan t = plan.twin();
                t.want(p, g, !plan.wants(p, g));
                t.dawn();
                if (bits(t.open) == gates) {
                    sellers.add(p);
                }
            }
        }
        return bits(sellers);
    }

    int image(int k) {
        if (k < 0 || k > 1) {
            return BAD;
        }
        if (plan == null) {
            return STATE;
        }
        images[k] = plan.twin();
        return 1;
    }

    int restore(int k) {
        if (k < 0 || k > 1) {
            return BAD;
        }
        if (images[k] == null) {
            return STATE;
        }
        plan = images[k].twin();
        acts.clear();
        return 1;
    }

    int kind(int person) {
        return noPerson(person) ? BAD : "vwmxs".indexOf(plan.sorts.charAt(person)) + 1;
    }

    int as(int person, int kind) {
        if (noPerson(person) || kind < 0 || kind > 5) {
            return BAD;
        }
        String[] kinds = {"vwmxs", "vwm", "w", "m", "xs", "s"};
        return kinds[kind].indexOf(plan.sorts.charAt(person)) >= 0 ? well(person) : found(3);
    }

    private int leave(int body, int answer) {
        traced.add(0, body);
        return answer;
    }

    /** The bodies are left from the last to the first, thus each one ahead of all it asks for. */
    private int sizeOf(int p) {
        int weight = plan.people.get(p)[3];
        switch (plan.sorts.charAt(p)) {
            case 'x': {
                int ten = leave(10, weight);
                return leave(13, ten - 100);
            }
            case 's': {
                int ten = leave(10, weight);
                return leave(14, 2 * leave(13, ten - 100));
            }
            default: {
                int mark = markOf(p);
                int eleven = leave(11, leave(10, weight) + mark);
                return plan.sorts.charAt(p) == 'w' ? leave(12, -eleven) : eleven;
            }
        }
    }

    private int markOf(int p) {
        if ("xs".indexOf(plan.sorts.charAt(p)) >= 0) {
            int size = sizeOf(p);
            return leave(23, leave(20, p) - size);
        }
        int twentyOne = leave(20, p) + Integer.bitCount(reached(plan, plan.people.get(p)[0]));
        leave(21, 0);
        switch (plan.sorts.charAt(p)) {
            case 'm': return leave(22, twentyOne - 1000);
            case 'w': return leave(24, 2 * twentyOne);
            default: return twentyOne;
        }
    }

    int ask(int person, int what) {
        if (noPerson(person) || what < 0 || what > 1) {
            return BAD;
        }
        traced = new ArrayList<>();
        return what == 0 ? sizeOf(person) : markOf(person);
    }

    int trace(int i) {
        return i < 0 || i >= Math.min(16, traced.size()) ? NONE : traced.get(i);
    }

    int count(int what) {
        switch (what) {
            case 0: return rows.size();
            case 7: return acts.size();
            case 8: return tape.length();
            default: break;
        }
        if (what < 0 || what > 8) {
            return BAD;
        }
        if (plan == null) {
            return 0;
        }
        int[] counts = {0, plan.plots, plan.gates.size(), plan.people.size(), plan.day, bits(plan.open),
            bits(plan.spent)};
        return counts[what];
    }

    int status() {
        return status;
    }
}
