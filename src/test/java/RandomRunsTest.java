/** All promises: long runs of thrown calls answer as the Oracle does. */
final class RandomRunsTest {
    private static final Check check = new Check("RandomRunsTest");
    private static VotedMap map;
    private static Oracle oracle;

    public static void main(String[] args) {
        for (int seed = 1; seed <= 1500 && check.wrong() == 0; seed++) {
            run(new Dice(seed), 150);
        }
        for (int seed = 2001; seed <= 5000 && check.wrong() == 0; seed++) {
            texts(new Dice(seed));
        }
        check.finish();
    }

    private static void run(Dice d, int calls) {
        map = new VotedMap();
        oracle = new Oracle();
        for (int k = 0; k < 15; k++) {
            rows(d);
            acts(d, 0);
        }
        feedBoth(d.cityText());
        for (int k = 0; k < calls && check.wrong() == 0; k++) {
            any(d);
        }
    }

    private static void texts(Dice d) {
        map = new VotedMap();
        oracle = new Oracle();
        for (int k = 0; k < 6; k++) {
            feedBoth(d.spoilt(d.cityText()));
        }
    }

    private static void feedBoth(String text) {
        for (int i = 0; i < text.length(); i++) {
            check.due("feed " + text.charAt(i), map.feed(text.charAt(i)), oracle.feed(text.charAt(i)));
        }
        check.due("city " + text, map.city(), oracle.city());
        check.due("fault " + text, map.fault(), oracle.fault());
        counts();
    }

    private static void counts() {
        for (int what = -1; what <= 9; what++) {
            check.due("count " + what, map.count(what), oracle.count(what));
        }
        check.due("status", map.status(), oracle.status());
        check.due("fault", map.fault(), oracle.fault());
    }

    private static void any(Dice d) {
        switch (d.below(8)) {
            case 0: case 1: acts(d, d.below(9)); break;
            case 2: told(d); break;
            case 3: case 4: foretold(d); break;
            case 5: asked(d); break;
            case 6: rows(d); break;
            default: pairs(d); break;
        }
        counts();
    }

    private static void rows(Dice d) {
        int a = d.about(7);
        int b = d.about(7);
        int i = d.about(12);
        int n = d.about(12);
        switch (d.below(5)) {
            case 0: {
                int lane = d.about(2);
                check.due("row " + a + " " + lane + " " + n, map.row(a, lane, 3 * n), oracle.row(a, lane, 3 * n));
                break;
            }
            case 1: case 2: {
                int v = d.below(3) == 0 ? d.wild() * 77 : d.about(2);
                check.due("set " + a + " " + i + " " + v, map.set(a, i, v), oracle.set(a, i, v));
                break;
            }
            case 3: {
                int j = d.about(12);
                String call = "copy " + a + " " + i + " " + b + " " + j + " " + n;
                check.due(call, map.copy(a, i, b, j, n), oracle.copy(a, i, b, j, n));
                break;
            }
            default:
                if (d.below(4) == 0) {
                    check.due("drop " + a, map.drop(a), oracle.drop(a));
                }
                break;
        }
    }

    private static void acts(Dice d, int kind) {
        switch (kind) {
            case 0: {
                int k = d.below(40) == 0 ? d.wild() : d.below(40) == 0 ? 'p' : 32;
                if (k != 32) {
                    check.due("feed " + k, map.feed(k), oracle.feed(k));
                }
                break;
            }
            case 1: case 2: {
                int n = d.below(3) > 0 ? 1 : d.about(20);
                check.due("dawn " + n, map.dawn(n), oracle.dawn(n));
                break;
            }
            case 3: case 4: {
                int gate = d.about(5);
                check.due("turn " + gate, map.turn(gate), oracle.turn(gate));
                break;
            }
            case 5: case 6: {
                int person = d.about(3);
                int set = d.about(31);
                check.due("wish " + person + " " + set, map.wish(person, set), oracle.wish(person, set));
                break;
            }
            case 7:
                check.due("undo", map.undo(), oracle.undo());
                break;
            default:
                images(d);
                break;
        }
    }

    private static void images(Dice d) {
        int k = d.about(1);
        switch (d.below(6)) {
            case 0: case 1: case 2:
                check.due("image " + k, map.image(k), oracle.image(k));
                break;
            case 3: case 4:
                check.due("restore " + k, map.restore(k), oracle.restore(k));
                break;
            default: {
                String text = d.cityText();
                feedBoth(d.below(3) == 0 ? d.spoilt(text) : text);
                break;
            }
        }
    }

    private static void told(Dice d) {
        int person = d.about(4);
        int gate = d.about(6);
        int what = d.about(4);
        check.due("person " + person + " " + what, map.person(person, what), oracle.person(person, what));
        check.due("gate " + gate + " " + what, map.gate(gate, what), oracle.gate(gate, what));
        check.due("reach " + gate, map.reach(gate), oracle.reach(gate));
        check.due("steps " + person + " " + gate, map.steps(person, gate), oracle.steps(person, gate));
        int open = d.about(1);
        check.due("votes " + gate + " " + open, map.votes(gate, open), oracle.votes(gate, open));
    }

    private static void foretold(Dice d) {
        int gate = d.about(6);
        int person = d.about(4);
        int other = d.about(4);
        int what = d.about(1);
        int is = d.about(1);
        switch (d.below(7)) {
            case 0: {
                int n = d.below(2) == 0 ? d.below(5) : d.about(60);
                int which = d.about(2);
                check.due("ahead " + n + " " + which, map.ahead(n, which), oracle.ahead(n, which));
                break;
            }
            case 1:
                check.due("round " + what, map.round(what), oracle.round(what));
                break;
            case 2:
                check.due("won " + gate + " " + is + " " + what, map.won(gate, is, what), oracle.won(gate, is, what));
                break;
            case 3: {
                int n = d.about(11);
                check.due("kept " + gate + " " + n + " " + what, map.kept(gate, n, what), oracle.kept(gate, n, what));
                break;
            }
            case 4:
                check.due("swap " + person + " " + other, map.swap(person, other), oracle.swap(person, other));
                check.due("best " + person, map.best(person), oracle.best(person));
                break;
            case 5: {
                int n = d.about(10);
                int which = d.about(2);
                check.due("laws " + n + " " + which, map.laws(n, which), oracle.laws(n, which));
                break;
            }
            default:
                sold(d);
                break;
        }
    }

    private static void sold(Dice d) {
        int gates = map.count(5);
        if (d.below(2) == 0) {
            gates = oracle.ahead(1, 0);
        }
        if (d.below(2) == 0) {
            gates ^= 1 << d.below(6);
        }
        if (d.below(20) == 0) {
            gates = d.wild();
        }
        check.due("sold " + gates, map.sold(gates), oracle.sold(gates));
    }

    private static void asked(Dice d) {
        int person = d.about(4);
        int what = d.about(1);
        int kind = d.about(5);
        check.due("kind " + person, map.kind(person), oracle.kind(person));
        check.due("as " + person + " " + kind, map.as(person, kind), oracle.as(person, kind));
        check.due("ask " + person + " " + what, map.ask(person, what), oracle.ask(person, what));
        for (int i = -1; i <= 17; i++) {
            check.due("trace " + i, map.trace(i), oracle.trace(i));
        }
    }

    private static void pairs(Dice d) {
        int row = d.about(7);
        int from = d.below(4);
        int n = d.about(d.below(2) == 0 ? 3 : 10);
        if (d.below(3) > 0) {
            check.due("row " + row, map.row(row, 0, 24), oracle.row(row, 0, 24));
            for (int i = from; i < from + 2 * n && i < 24; i++) {
                int v = (i - from) % 2 == 0 ? d.about(2) : d.below(2);
                check.due("set " + row + " " + i, map.set(row, i, v), oracle.set(row, i, v));
            }
        }
        for (int what = 0; what <= 2; what++) {
            check.due("opened " + row + " " + from + " " + n + " " + what,
                map.opened(row, from, n, what), oracle.opened(row, from, n, what));
        }
        int what = d.about(2);
        int far = d.wild();
        check.due("opened " + row + " " + far + " " + n + " " + what,
            map.opened(row, far, n, what), oracle.opened(row, far, n, what));
    }
}
