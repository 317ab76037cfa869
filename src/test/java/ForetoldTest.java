/** Promises 18 to 26: what is foretold. */
final class ForetoldTest {
    private static final int BAD = VotedMap.BAD, STATE = VotedMap.STATE, NONE = VotedMap.NONE;
    private static final Check check = new Check("ForetoldTest");
    private static final String FAIR =
        "p5,1,2;g0,1,1;g1,2,0;g2,3,1;g3,4,0;g0,3,0;v0,2,2,5;w4,0,24,3;m1,3,0,4;x2,4,12,6;s3,1,31,9;";

    public static void main(String[] args) {
        noCity();
        wrongNumbers();
        ahead();
        round();
        won();
        kept();
        swap();
        best();
        laws();
        opened();
        openedRefused();
        sold();
        nothingChanges();
        check.finish();
    }

    private static void noCity() {
        VotedMap x = new VotedMap();
        check.due("ahead", x.ahead(61, 3), STATE);
        check.due("round", x.round(2), STATE);
        check.due("laws", x.laws(0, 3), STATE);
        check.due("opened", x.opened(8, -1, 11, 3), STATE);
        check.due("sold", x.sold(-1), STATE);
        check.due("won", x.won(0, 1, 0), BAD);
        check.due("kept", x.kept(0, 1, 0), BAD);
        check.due("swap", x.swap(0, 1), BAD);
        check.due("best", x.best(0), BAD);
    }

    private static void wrongNumbers() {
        VotedMap x = Check.city(FAIR);
        int[] wrong = {Integer.MIN_VALUE, -1, 5, 61, Integer.MAX_VALUE};
        for (int k : wrong) {
            check.due("won gate", x.won(k, 1, 0), BAD);
            check.due("won is", x.won(0, k, 0), BAD);
            check.due("won what", x.won(0, 1, k), BAD);
            check.due("kept gate", x.kept(k, 1, 0), BAD);
            check.due("kept what", x.kept(0, 1, k), BAD);
            check.due("swap a", x.swap(k, 1), BAD);
            check.due("swap b", x.swap(1, k), BAD);
            check.due("best", x.best(k), BAD);
            check.due("ahead what", x.ahead(0, k), BAD);
            check.due("round", x.round(k), BAD);
            check.due("laws what", x.laws(1, k), BAD);
        }
        check.due("ahead 61", x.ahead(61, 0), BAD);
        check.due("ahead -1", x.ahead(-1, 0), BAD);
        check.due("ahead what 3", x.ahead(0, 3), BAD);
        check.due("round 2", x.round(2), BAD);
        check.due("won is 2", x.won(0, 2, 0), BAD);
        check.due("won what 2", x.won(0, 1, 2), BAD);
        check.due("kept what 2", x.kept(0, 1, 2), BAD);
        check.due("kept 0", x.kept(0, 0, 0), BAD);
        check.due("kept 11", x.kept(0, 11, 0), BAD);
        check.due("swap alike", x.swap(2, 2), BAD);
        check.due("laws 0", x.laws(0, 0), BAD);
        check.due("laws 11", x.laws(11, 0), BAD);
        check.due("laws what 3", x.laws(1, 3), BAD);
        check.due("sold -1", x.sold(-1), BAD);
        check.due("sold 32", x.sold(32), BAD);
    }

    private static void ahead() {
        VotedMap x = Check.city("p3,0,1;g0,1,0;g1,2,0;x0,2,0,0;s2,0,0,0;s1,1,0,0;");
        int[][] want = {{0, 7, 4}, {2, 1, 4}, {3, 0, 7}, {3, 0, 7}};
        for (int n = 0; n < 4; n++) {
            for (int what = 0; what < 3; what++) {
                check.due("ahead " + n + " " + what, x.ahead(n, what), want[n][what]);
            }
        }
        check.due("ahead 60", x.ahead(60, 0), 3);
        check.due("no day by it", x.count(4), 0);
        check.due("no veto by it", x.count(6), 0);
    }

    private static void rounds(String text, int tail, int later) {
        VotedMap x = Check.city(text);
        check.due("tail of " + text, x.round(0), tail);
        check.due("later of " + text, x.round(1), later);
    }

    private static void round() {
        rounds("p2,0,0;", 0, 1);
        rounds("p2,0,2;g0,1,1;", 0, 1);
        rounds("p2,0,0;g0,1,1;", 1, 1);
        rounds("p2,0,1;g0,1,1;x0,0,0,0;", 2, 1);
        rounds("p2,0,1;g0,1,1;x0,0,0,0;x0,0,0,0;", 3, 1);
        // walled in, he opens it from afar; then he has no voice there, and it is shut
        rounds("p4,0,0;g0,1,0;g2,3,0;w0,0,3,0;", 1, 1);
        rounds("p3,0,2;g0,1,0;w2,0,1,0;w2,0,1,0;v0,1,0,1;", 1, 1);
        swinging();
    }

    /** Who is walled in opens gate 0; through it gate 1 is opened; then he is not, and both are shut. */
    private static void swinging() {
        String city = "p3,1,0;g0,1,0;g1,2,0;v0,0,2,2;w2,0,1,0;w2,0,1,0;w2,0,1,0;";
        rounds(city, 0, 4);
        rounds(city + "x0,0,2,0;", 1, 4);
        VotedMap x = Check.city(city + "x0,0,2,0;");
        int[] mornings = {0, 0, 1, 3, 2, 0, 1, 3, 2};
        for (int n = 0; n < mornings.length; n++) {
            check.due("ahead " + n, x.ahead(n, 0), mornings[n]);
        }
        x.dawn(3);
        check.due("in the round", x.round(0), 0);
        check.due("four yet", x.round(1), 4);
        x.turn(0);
        check.due("in it yet", x.round(0), 0);
        check.due("who is near has no weight", x.kept(1, 1, 0), NONE);
    }

    private static void wins(VotedMap x, int gate, int is, int many, int set) {
        check.due("won " + gate + " " + is + " 0", x.won(gate, is, 0), many);
        check.due("won " + gate + " " + is + " 1", x.won(gate, is, 1), set);
    }

    private static void won() {
        VotedMap x = Check.city("p3,0,0;g0,1,1;g0,2,0;v0,0,0,4;v0,0,0,3;v0,0,0,2;v0,0,0,1;v1,0,1,2;");
        wins(x, 0, 1, 2, 3);
        wins(x, 0, 0, 0, 0);
        wins(x, 1, 1, 2, 3);
        wins(x, 1, 0, 0, 0);
        x.wish(2, 2);
        wins(x, 1, 1, 1, 1);
        VotedMap few = Check.city("p2,0,0;g0,1,0;v0,0,0,2;v0,0,0,2;v0,0,0,2;v0,0,0,7;v1,0,0,7;");
        wins(few, 0, 1, 2, 24);
        few.wish(4, 1);
        wins(few, 0, 1, 1, 8);
        few.wish(0, 1);
        wins(few, 0, 1, 1, 2);
        few.wish(1, 1);
        wins(few, 0, 0, 1, 1);
        VotedMap y = Check.city("p3,0,0;g0,1,1;g1,2,0;v0,0,0,4;m0,0,0,9;s1,0,0,9;");
        wins(y, 0, 1, 0, 0);
        wins(y, 0, 0, NONE, NONE);
        wins(y, 1, 1, NONE, NONE);
        VotedMap z = Check.city("p2,0,1;g0,1,1;g0,1,1;x0,0,0,0;");
        wins(z, 0, 1, 1, 1);
        wins(z, 0, 0, 0, 0);
        wins(z, 1, 1, 0, 0);
        wins(z, 1, 0, NONE, NONE);
        z.wish(0, 1);
        wins(z, 1, 1, 1, 1);
        wins(z, 1, 0, 0, 0);
    }

    private static void keeps(VotedMap x, int gate, int n, int many, int set) {
        check.due("kept " + gate + " " + n + " 0", x.kept(gate, n, 0), many);
        check.due("kept " + gate + " " + n + " 1", x.kept(gate, n, 1), set);
    }

    private static void kept() {
        // who is walled in has it open once; then he is not, and it is shut by the tie
        VotedMap x = Check.city("p4,0,0;g0,1,0;g2,3,0;w2,0,3,1;v0,0,0,0;v1,0,0,3;");
        keeps(x, 0, 1, 1, 4);
        VotedMap y = Check.city("p4,0,0;g0,1,0;g2,3,0;w2,0,3,1;v0,0,0,5;");
        keeps(y, 0, 1, 1, 2);
        VotedMap z = Check.city("p4,0,0;g0,1,0;g2,3,0;w2,0,3,1;v0,0,0,0;v1,0,1,0;");
        keeps(z, 0, 1, 0, 0);
        keeps(z, 0, 2, NONE, NONE);
        keeps(z, 1, 10, 0, 0);
        VotedMap u = Check.city("p4,0,0;g0,1,0;g2,3,0;w2,0,3,1;v0,0,0,0;v1,0,0,1;");
        keeps(u, 0, 1, 1, 4);
        keeps(u, 0, 10, 1, 4);
    }

    private static void swap() {
        VotedMap x = Check.city("p2,0,0;g0,1,0;g0,1,0;v0,1,3,1;v1,0,3,1;");
        check.due("both are glad without", x.swap(0, 1), NONE);
        VotedMap y = Check.city("p3,0,0;g0,1,0;g1,2,0;v0,1,0,1;v1,2,3,1;v1,0,0,2;v2,0,0,1;");
        check.due("none can", y.swap(0, 1), NONE);
        // a is to wish gate 1, b gate 2: each has the other's wish
        VotedMap z = Check.city("p4,0,0;g0,1,0;g0,2,0;g0,3,0;v0,2,4,1;v3,0,2,1;");
        check.due("a 0 to 2, b 3 to 0", z.swap(0, 1), 8 * 1 + 2);
        check.due("the other way about", z.swap(1, 0), 8 * 2 + 1);
        z.wish(1, 4);
        check.due("b wishes none of a's", z.swap(0, 1), NONE);
        VotedMap u = Check.city("p2,0,0;g0,1,0;g0,1,0;g0,1,0;v0,1,0,1;v0,1,6,1;");
        check.due("glad already", u.ahead(1, 2), 0);
        check.due("the first two", u.swap(0, 1), 8 * 1 + 0);
        check.due("the other way about", u.swap(1, 0), 8 * 0 + 1);
    }

    private static void best() {
        VotedMap x = Check.city("p3,0,0;g0,2,0;g0,1,0;g1,2,0;v0,2,0,1;v0,0,0,1;");
        check.due("none alone", x.best(0), NONE);
        check.due("at his errand", x.best(1), 0);
        x.wish(1, 7);
        check.due("tie is shut", x.best(0), 1);
        x.wish(1, 2);
        check.due("the least", x.best(0), NONE);
        VotedMap y = Check.city("p3,0,1;g1,2,0;g0,2,0;g0,2,0;v0,2,7,1;x1,0,6,4;");
        check.due("by gate 1", y.best(0), 2);
        check.due("he stays where he is", y.best(1), 1);
        VotedMap z = Check.city("p2,0,0;v0,1,0,1;v1,1,0,1;");
        check.due("no gates", z.best(0), NONE);
        check.due("no gates, at it", z.best(1), 0);
    }

    private static void law(VotedMap x, int n, int near, int tie, int many) {
        check.due("laws " + n + " 0", x.laws(n, 0), near);
        check.due("laws " + n + " 1", x.laws(n, 1), tie);
        check.due("laws " + n + " 2", x.laws(n, 2), many);
    }

    private static void laws() {
        VotedMap x = Check.city("p2,3,0;g0,1,1;v0,1,0,0;v1,0,0,0;v1,1,0,0;");
        law(x, 1, 0, 1, 3);
        x.turn(0);
        law(x, 10, 0, 1, 3);
        VotedMap y = Check.city("p2,3,2;g0,1,1;m0,1,0,5;m1,0,0,0;");
        law(y, 1, 0, 0, 2);
        y.turn(0);
        law(y, 1, 0, 0, 0);
        // gate 0 is shut by its neighbour, but by a heavier voter one step off it is open
        VotedMap z = Check.city("p3,0,0;g0,1,0;g1,2,1;v0,1,0,3;v2,2,3,9;");
        law(z, 1, 1, 0, 2);
        check.due("the law itself stays", z.votes(0, 0), 0);
        VotedMap far = Check.city("p5,0,0;g0,1,1;g1,2,1;g2,3,1;g3,4,0;v0,0,15,9;v4,4,0,1;s3,4,0,0;");
        law(far, 1, 3, 0, 3);
        // opened by the tie, gate 1 would take from the walled one his vote for gate 0
        VotedMap stay = Check.city("p4,0,0;g0,1,1;g2,3,0;w2,2,1,0;v0,1,0,1;");
        law(stay, 1, 0, 1, 2);
        law(stay, 2, 0, 2, 2);
    }

    private static void opens(VotedMap x, int i, int n, int many, int open, int shut) {
        check.due("opened " + i + " " + n + " 0", x.opened(0, i, n, 0), many);
        check.due("opened " + i + " " + n + " 1", x.opened(0, i, n, 1), open);
        check.due("opened " + i + " " + n + " 2", x.opened(0, i, n, 2), shut);
    }

    private static VotedMap triangle() {
        VotedMap x = Check.city("p3,0,0;g0,1,0;g1,2,0;g0,2,0;v0,1,0,0;v0,2,0,0;v1,1,0,0;");
        x.row(0, 1, 20);
        int[] items = {0, 1, 1, 0, 2, 1, 2, 0, 0, 0, 1, 1, 0, 0, 1, 0};
        for (int i = 0; i < items.length; i++) {
            x.set(0, i, items[i]);
        }
        return x;
    }

    private static void opened() {
        VotedMap x = triangle();
        opens(x, 0, 0, 8, 0, 0);
        opens(x, 20, 0, 8, 0, 0);
        opens(x, 0, 1, 5, 0, 0);
        opens(x, 0, 2, 1, 1, 6);
        opens(x, 0, 3, 1, 1, 6);
        opens(x, 6, 1, 0, NONE, NONE);
        opens(x, 0, 4, 0, NONE, NONE);
        opens(x, 8, 2, 1, 4, 3);
        opens(x, 12, 2, 2, 0, 5);
        opens(x, 10, 3, 0, NONE, NONE);
        opens(x, 1, 1, 5, 0, 0);
        x.set(0, 2, 0);
        opens(x, 0, 2, 0, NONE, NONE);
        VotedMap y = Check.city("p2,0,0;");
        y.row(0, 0, 0);
        opens(y, 0, 0, 1, 0, 0);
    }

    private static void openedRefused() {
        VotedMap x = triangle();
        int[][] bad = {{8, 0, 0, 0}, {-1, 0, 0, 0}, {0, 0, 11, 0}, {0, 0, -1, 0}, {0, 0, 0, 3}, {0, 0, 0, -1},
            {1, 0, 11, 0}, {1, 0, 0, 3}};
        for (int[] b : bad) {
            check.due("opened BAD", x.opened(b[0], b[1], b[2], b[3]), BAD);
        }
        check.due("NULL", x.opened(1, -1, 10, 0), -1000011);
        check.due("i -1", x.opened(0, -1, 1, 0), -1000012);
        check.due("i 21", x.opened(0, 21, 0, 0), -1000012);
        check.due("i 19", x.opened(0, 19, 1, 0), -1000012);
        check.due("i 18", x.opened(0, 18, 1, 0), 3);
        check.due("i most", x.opened(0, Integer.MAX_VALUE, 10, 0), -1000012);
        check.due("all ten", x.opened(0, 0, 10, 0), 0);
        x.set(0, 19, 2);
        check.due("nine", x.opened(0, 0, 9, 0), 0);
        check.due("is 2", x.opened(0, 0, 10, 0), BAD);
        check.due("PLACE ahead of such a pair", x.opened(0, 2, 10, 0), -1000012);
        x.set(0, 19, -1);
        check.due("is -1", x.opened(0, 0, 10, 0), BAD);
        x.set(0, 19, 0);
        x.set(0, 18, 3);
        check.due("person 3", x.opened(0, 0, 10, 0), BAD);
        x.set(0, 18, -1);
        check.due("person -1", x.opened(0, 0, 10, 0), BAD);
    }

    private static void sold() {
        VotedMap x = Check.city("p3,0,0;g0,1,0;g1,2,0;v0,0,1,3;v0,0,0,3;v2,0,2,1;s2,0,0,1;m2,0,0,0;");
        // voted: gate 0 3 : 3 (shut by the tie), gate 1 1 : 0 (open)
        check.due("as it will be", x.ahead(1, 0), 2);
        check.due("sold 2: all who can alter what matters not", x.sold(2), 1 | 2 | 4 | 8 | 16);
        check.due("sold 3: the second", x.sold(3), 2);
        check.due("sold 0: the third", x.sold(0), 4);
        check.due("sold 1: none", x.sold(1), 0);
        VotedMap y = Check.city("p2,0,0;v0,0,0,3;");
        check.due("no gates", y.sold(0), 0);
        check.due("no gates, sold 1", y.sold(1), BAD);
    }

    private static void nothingChanges() {
        VotedMap x = Check.city(FAIR);
        x.turn(1);
        x.dawn(1);
        x.row(0, 0, 2);
        x.set(0, 1, 1);
        x.ask(2, 0);
        String ahead = told(x);
        x.ahead(60, 2);
        x.round(0);
        x.won(4, 1, 0);
        x.kept(4, 10, 0);
        x.swap(0, 1);
        x.best(2);
        x.laws(10, 0);
        x.opened(0, 0, 1, 0);
        x.sold(0);
        check.due("told alike", told(x).equals(ahead) ? 1 : 0, 1);
        check.due("acts", x.count(7), 2);
    }

    private static String told(VotedMap x) {
        StringBuilder text = new StringBuilder();
        for (int what = 0; what <= 8; what++) {
            text.append(x.count(what)).append(' ');
        }
        for (int k = 0; k < 5; k++) {
            for (int what = 0; what < 5; what++) {
                text.append(x.person(k, what)).append(' ').append(x.gate(k, what)).append(' ');
                text.append(x.steps(k, what)).append(' ').append(x.votes(k, what)).append(' ');
            }
            text.append(x.trace(k)).append(' ');
        }
        return text.toString();
    }
}
