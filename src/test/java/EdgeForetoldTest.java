/** The edges of part 3, and of promises 18 to 26. What is foretold is also done, and looked at. */
final class EdgeForetoldTest {
    private static final int BAD = Edges.BAD, STATE = Edges.STATE, NONE = Edges.NONE;
    private static final int NULL = Edges.NULL, PLACE = Edges.PLACE;
    private static final Check check = new Check("EdgeForetoldTest");
    private static final Edges edges = new Edges(check);
    /** Its mornings go 0 1 3 2 again and again: see ForetoldTest.swinging. */
    private static final String SWINGING = "p3,1,0;g0,1,0;g1,2,0;v0,0,2,2;w2,0,1,0;w2,0,1,0;w2,0,1,0;";
    /** Gate 3 is open behind each of nine dawns, and shut behind the tenth. */
    private static final String NINE = "p6,2,2;g1,2,1;g0,3,1;g1,0,0;g5,2,0;g1,4,0;"
        + "x1,5,11,6;s5,0,4,8;x0,5,4,8;x0,0,5,1;w3,5,27,6;";
    /** Laws by nine dawns and by ten are unlike. */
    private static final String LAWS = "p5,3,0;g3,4,0;g4,0,0;g3,2,1;x3,2,4,8;v1,2,4,6;x0,1,4,0;x2,4,5,9;x0,3,7,5;";

    public static void main(String[] args) {
        noCity();
        numbers();
        twoRefusals();
        ahead();
        aheadNone();
        round();
        roundOfAll();
        wonNobody();
        wonAll();
        wonNone();
        wonForThatGateAlone();
        wonOfSeveral();
        kept();
        keptEach();
        swapNone();
        swapFirst();
        best();
        bestEdges();
        lawNumbers();
        lawOfSeveral();
        openedPlaces();
        openedPairs();
        openedSets();
        openedRefusals();
        sold();
        soldEdges();
        check.finish();
    }

    /** "STATE: no CITY (ahead of BAD)"; no such gate or person: BAD. */
    private static void noCity() {
        for (int k : new int[] {Edges.LEAST, -1, 0, 1, 61, Edges.MOST}) {
            edges.refusedAtFirst("ahead " + k, STATE, x -> x.ahead(k, 0));
            edges.refusedAtFirst("ahead what " + k, STATE, x -> x.ahead(1, k));
            edges.refusedAtFirst("round " + k, STATE, x -> x.round(k));
            edges.refusedAtFirst("laws " + k, STATE, x -> x.laws(k, 0));
            edges.refusedAtFirst("laws what " + k, STATE, x -> x.laws(1, k));
            edges.refusedAtFirst("opened row " + k, STATE, x -> x.opened(k, 0, 1, 0));
            edges.refusedAtFirst("opened i " + k, STATE, x -> x.opened(0, k, 1, 0));
            edges.refusedAtFirst("opened n " + k, STATE, x -> x.opened(0, 0, k, 0));
            edges.refusedAtFirst("opened what " + k, STATE, x -> x.opened(0, 0, 0, k));
            edges.refusedAtFirst("sold " + k, STATE, x -> x.sold(k));
            edges.refusedAtFirst("won " + k, BAD, x -> x.won(k, 1, 0));
            edges.refusedAtFirst("kept " + k, BAD, x -> x.kept(k, 1, 0));
            edges.refusedAtFirst("swap " + k, BAD, x -> x.swap(k, 1));
            edges.refusedAtFirst("best " + k, BAD, x -> x.best(k));
        }
    }

    private static void numbers() {
        edges.bounds("ahead n", 0, 60, (x, n) -> x.ahead(n, 0));
        edges.bounds("ahead what", 0, 2, (x, what) -> x.ahead(0, what));
        edges.bounds("ahead what", 0, 2, (x, what) -> x.ahead(60, what));
        edges.bounds("round what", 0, 1, VotedMap::round);
        edges.bounds("won gate", 0, 7, (x, g) -> x.won(g, 1, 0));
        edges.bounds("won is", 0, 1, (x, is) -> x.won(0, is, 0));
        edges.bounds("won what", 0, 1, (x, what) -> x.won(7, 0, what));
        edges.bounds("kept gate", 0, 7, (x, g) -> x.kept(g, 1, 0));
        edges.bounds("kept n", 1, 10, (x, n) -> x.kept(0, n, 0));
        edges.bounds("kept what", 0, 1, (x, what) -> x.kept(7, 10, what));
        edges.bounds("swap a", 0, 4, (x, a) -> x.swap(a, 2));
        edges.bounds("swap b", 0, 4, (x, b) -> x.swap(2, b));
        edges.bounds("best", 0, 4, VotedMap::best);
        edges.bounds("laws n", 1, 10, (x, n) -> x.laws(n, 2));
        edges.bounds("laws what", 0, 2, (x, what) -> x.laws(10, what));
        edges.bounds("opened row", 0, 7, (x, row) -> openedOf(x, row));
        edges.bounds("opened what", 0, 2, (x, what) -> x.opened(0, 0, 0, what));
        edges.bounds("sold", 0, 255, VotedMap::sold);
    }

    /** Of row 7, too, that is missing in lived objects. */
    private static int openedOf(VotedMap x, int row) {
        if (row == 7) {
            x.row(7, 0, 0);
        }
        return x.opened(row, 0, 0, 0);
    }

    /** Where two numbers are not as told, or one is not and another would be NONE. */
    private static void twoRefusals() {
        edges.refused("won of nothing", BAD, x -> x.won(8, 2, 2));
        edges.refused("kept of nothing", BAD, x -> x.kept(-1, 11, -1));
        edges.refused("laws of nothing", BAD, x -> x.laws(0, 3));
        edges.refused("ahead of nothing", BAD, x -> x.ahead(61, 3));
        for (int p = -1; p <= 5; p++) {
            int person = p;
            edges.refused("swap alike " + p, BAD, x -> x.swap(person, person));
        }
        VotedMap x = Check.city("p2,0,0;g0,1,0;s0,1,0,0;");
        check.due("won is NONE", x.won(0, 1, 0), NONE);
        check.due("won what 2", x.won(0, 1, 2), BAD);
        check.due("kept is NONE", x.kept(0, 1, 0), NONE);
        check.due("kept what 2", x.kept(0, 1, 2), BAD);
        check.due("swap with nobody", x.swap(0, 1), BAD);
        check.due("swap with himself", x.swap(0, 0), BAD);
        check.due("best is NONE", x.best(0), NONE);
        check.due("no second person", x.best(1), BAD);
    }

    /** "n DAWNS 0 to 60": each is as by as many dawns that are done. */
    private static void ahead() {
        for (String text : new String[] {SWINGING, NINE, LAWS, Edges.CITY}) {
            VotedMap x = Check.city(text);
            VotedMap done = Check.city(text);
            for (int n = 0; n <= 60; n++) {
                check.due("ahead " + n, x.ahead(n, 0), done.count(5));
                check.due("walled in " + n, x.ahead(n, 1), done.ahead(0, 1));
                check.due("glad " + n, x.ahead(n, 2), done.ahead(0, 2));
                done.dawn(1);
            }
            check.due("no DAY by it", x.count(4), 0);
        }
        VotedMap x = Check.city(SWINGING);
        check.due("behind 58", x.ahead(58, 0), 3);
        check.due("behind 59", x.ahead(59, 0), 2);
        check.due("behind 60", x.ahead(60, 0), 0);
    }

    /** Behind no dawn: as it is, whatever would be voted. */
    private static void aheadNone() {
        VotedMap x = Check.city("p3,3,0;g0,1,1;g1,2,1;v0,2,0,20;s2,1,0,0;s2,2,0,0;");
        int[] now = {3, 0, 7};
        int[] then = {0, 7, 4};
        for (int what = 0; what <= 2; what++) {
            check.due("behind none", x.ahead(0, what), now[what]);
            check.due("behind one", x.ahead(1, what), then[what]);
        }
        VotedMap nobody = Check.city("p2,0,1;g0,1,0;");
        check.due("nobody is walled in", nobody.ahead(0, 1), 0);
        check.due("nobody is glad", nobody.ahead(1, 2), 0);
    }

    private static void rounds(String text, int tail, int later) {
        VotedMap x = Check.city(text);
        check.due("TAIL of " + text, x.round(0), tail);
        check.due("later, of " + text, x.round(1), later);
    }

    /** "the fewest DAWNS behind which it is as it will be again (TAIL; GATES, VETOES)" */
    private static void round() {
        rounds("p2,0,0;", 0, 1);
        rounds("p2,0,0;s0,1,0,0;", 0, 1);
        rounds("p2,0,1;g0,1,1;", 0, 1);
        rounds("p2,0,1;g0,1,0;", 1, 1);
        rounds("p2,0,2;g0,1,0;", 0, 1);
        rounds(SWINGING, 0, 4);
        rounds("p5,1,0;g2,1,1;g3,2,0;g4,3,0;w2,1,6,11;w4,3,0,8;v0,0,3,11;x1,0,5,12;", 0, 6);
        // the gates are as they were, but a VETO more is SPENT: that is not as it was
        rounds("p2,0,1;g0,1,0;x0,0,0,0;", 2, 1);
        rounds("p2,0,1;g0,1,0;x0,0,0,0;x0,0,0,0;x0,0,0,0;x0,0,0,0;x0,0,0,0;", 6, 1);
        rounds("p2,0,1;g0,1,1;x0,0,0,0;x0,0,0,0;x0,0,0,0;x0,0,0,0;x0,0,0,0;", 6, 1);
        // the DAY is not looked at: DAY 0 and DAY 1 are alike
        VotedMap x = Check.city("p2,0,2;g0,1,1;");
        x.dawn(20);
        check.due("TAIL of DAY 20", x.round(0), 0);
        check.due("later, of DAY 20", x.round(1), 1);
    }

    /** Looked for by dawns that are foretold one by one. */
    private static void roundOfAll() {
        for (String text : new String[] {SWINGING, NINE, LAWS, Edges.CITY,
            "p6,3,0;g5,0,1;g1,5,1;g4,5,0;g4,2,1;g5,1,1;g5,0,0;x1,1,16,6;x5,3,58,10;x2,2,29,2;x4,5,5,8;v1,1,44,15;"}) {
            VotedMap x = Check.city(text);
            int[] mornings = new int[61];
            for (int n = 0; n <= 60; n++) {
                mornings[n] = x.count(5) * 32 + x.count(6);
                x.dawn(1);
            }
            int tail = 0;
            int later = 0;
            for (int n = 60; n >= 0; n--) {
                for (int k = 60; k > n; k--) {
                    if (mornings[n] == mornings[k]) {
                        tail = n;
                        later = k - n;
                    }
                }
            }
            rounds(text, tail, later);
        }
    }

    private static void wins(VotedMap x, int gate, int is, int many, int set) {
        check.due("won " + gate + " " + is + " how many", x.won(gate, is, 0), many);
        check.due("won " + gate + " " + is + " the set", x.won(gate, is, 1), set);
    }

    /** The fewest are none. */
    private static void wonNobody() {
        VotedMap x = Check.city("p2,0,1;g0,1,0;g0,1,1;");
        wins(x, 0, 1, 0, 0);
        wins(x, 1, 1, 0, 0);
        wins(x, 0, 0, NONE, NONE);
        VotedMap y = Check.city("p2,0,0;g0,1,0;g0,1,1;v0,0,1,1;v0,0,3,20;");
        wins(y, 0, 1, 0, 0);
        wins(y, 1, 1, 0, 0);
        wins(y, 0, 0, 1, 2);
        check.due("no wish by it", y.person(1, 2), 3);
        nextDawnAlone();
    }

    /** "so that it is so behind the next DAWN": how it is behind the second is not asked. */
    private static void nextDawnAlone() {
        VotedMap x = Check.city(SWINGING);
        x.dawn(1);
        check.due("gate 0 behind one dawn", x.ahead(1, 0) & 1, 1);
        check.due("gate 0 behind two", x.ahead(2, 0) & 1, 0);
        wins(x, 0, 1, 0, 0);
        x.dawn(1);
        wins(x, 0, 0, 0, 0);
        x.dawn(2);
        check.due("gate 1 behind one dawn", x.ahead(1, 0) & 2, 0);
        check.due("gate 1 behind two", x.ahead(2, 0) & 2, 2);
        wins(x, 1, 0, 0, 0);
    }

    /** The fewest are all: each of five has a VETO that he would spend. */
    private static void wonAll() {
        VotedMap x = Check.city("p2,0,1;g0,1,1;x0,0,0,0;x0,0,0,0;x0,0,0,0;x0,0,0,0;x0,0,0,0;");
        wins(x, 0, 1, 5, 31);
        wins(x, 0, 0, 0, 0);
        x.wish(2, 1);
        wins(x, 0, 1, 4, 27);
        wins(x, 0, 0, 0, 0);
    }

    /** "NONE" */
    private static void wonNone() {
        VotedMap x = Check.city("p4,0,0;g0,1,0;g2,3,1;v0,0,0,20;s2,0,0,20;m2,0,0,1;");
        wins(x, 0, 1, 1, 1);
        wins(x, 1, 1, 0, 0);
        wins(x, 1, 0, NONE, NONE);
        x.turn(1);
        wins(x, 1, 1, NONE, NONE);
        wins(x, 1, 0, 0, 0);
    }

    /** "for that GATE alone, whatever they are" */
    private static void wonForThatGateAlone() {
        // did 0 wish gate 0, too, the other VETO would be spent there, and gate 1 stay open by him
        VotedMap x = Check.city("p2,0,1;g0,1,1;g0,1,1;x0,0,0,0;x0,0,0,0;");
        wins(x, 1, 1, 1, 2);
        wins(x, 0, 1, 2, 3);
        VotedMap walled = Check.city("p4,0,0;g0,1,0;g2,3,0;w2,0,0,9;");
        wins(walled, 0, 1, 1, 1);
        VotedMap vetoer = Check.city("p4,0,0;g0,1,0;g2,3,0;x0,0,0,9;");
        wins(vetoer, 0, 1, 1, 1);
        wins(vetoer, 1, 1, NONE, NONE);
        VotedMap follower = Check.city("p2,0,0;g0,1,0;m0,0,0,3;v0,0,0,2;v0,0,0,2;");
        wins(follower, 0, 1, 2, 6);
    }

    /** "the fewest PEOPLE ..; of several the least" */
    private static void wonOfSeveral() {
        VotedMap x = Check.city("p2,0,0;g0,1,0;v0,0,0,1;v0,0,0,1;v0,0,0,1;v0,0,0,1;v0,0,0,1;");
        wins(x, 0, 1, 3, 7);
        VotedMap y = Check.city("p2,0,0;g0,1,0;v0,0,0,2;v0,0,0,2;v0,0,0,2;v0,0,0,1;v0,0,0,8;");
        wins(y, 0, 1, 1, 16);
        VotedMap z = Check.city("p2,0,0;g0,1,0;v0,0,0,3;v0,0,0,1;v0,0,0,4;v0,0,0,4;v0,0,0,3;");
        wins(z, 0, 1, 2, 12);
        z.wish(1, 1);
        wins(z, 0, 1, 2, 5);
        VotedMap like = Check.city("p2,0,1;g0,1,0;v0,0,0,1;v0,0,0,1;v0,0,1,1;v0,0,0,1;");
        wins(like, 0, 1, 1, 1);
        wins(like, 0, 0, 0, 0);
    }

    /** The fewest to be won, by trying all sets on an image. */
    private static int keptByDoing(String text, int gate, int n, int what) {
        VotedMap x = Check.city(text);
        int people = x.count(3);
        int fewest = NONE;
        for (int set = 0; set < 1 << people; set++) {
            boolean fewer = fewest == NONE || Integer.bitCount(set) < Integer.bitCount(fewest);
            if (fewer && stays(text, set, gate, n)) {
                fewest = set;
            }
        }
        return fewest == NONE || what == 1 ? fewest : Integer.bitCount(fewest);
    }

    private static boolean stays(String text, int set, int gate, int n) {
        VotedMap x = Check.city(text);
        for (int p = 0; p < x.count(3); p++) {
            if ((set >> p & 1) == 1) {
                x.wish(p, x.person(p, 2) | 1 << gate);
            }
        }
        boolean stays = true;
        for (int k = 0; k < n; k++) {
            stays &= (x.dawn(1) >> gate & 1) == 1;
        }
        return stays;
    }

    /** "the next n DAWNS (1 to 10)" */
    private static void kept() {
        VotedMap x = Check.city(NINE);
        check.due("the ninth", x.ahead(9, 0) >> 3 & 1, 1);
        check.due("the tenth", x.ahead(10, 0) >> 3 & 1, 0);
        for (int n = 1; n <= 10; n++) {
            check.due("kept for " + n + ", how many", x.kept(3, n, 0), n < 10 ? 0 : 1);
            check.due("kept for " + n + ", the set", x.kept(3, n, 1), n < 10 ? 0 : 4);
        }
        check.due("no wish by it", x.person(2, 2), 4);
        for (String text : new String[] {SWINGING, NINE, LAWS, Edges.CITY}) {
            VotedMap y = Check.city(text);
            for (int gate = 0; gate < y.count(2); gate++) {
                for (int n : new int[] {1, 2, 9, 10}) {
                    check.due("kept " + gate + " " + n, y.kept(gate, n, 0), keptByDoing(text, gate, n, 0));
                    check.due("kept " + gate + " " + n, y.kept(gate, n, 1), keptByDoing(text, gate, n, 1));
                }
            }
        }
    }

    /** "open behind each of the next n DAWNS": the last alone is not enough, and how it is now is not asked. */
    private static void keptEach() {
        VotedMap x = Check.city("p4,0,1;g0,1,1;g2,3,0;x0,0,0,0;s1,0,1,0;");
        check.due("the next is shut by VETO", x.ahead(1, 0), 2);
        check.due("the second is not", x.ahead(2, 0), 3);
        check.due("who has the VETO", x.kept(0, 2, 1), 1);
        check.due("shut now", x.kept(1, 10, 0), 0);
        VotedMap none = Check.city("p2,0,0;g0,1,1;s0,0,1,20;");
        check.due("open now", none.gate(0, 2), 1);
        check.due("NONE", none.kept(0, 1, 0), NONE);
        check.due("NONE", none.kept(0, 1, 1), NONE);
        VotedMap all = Check.city("p2,0,1;g0,1,1;x0,0,0,0;x0,0,0,0;x0,0,0,0;x0,0,0,0;x0,0,0,0;");
        check.due("all five", all.kept(0, 10, 0), 5);
        check.due("all five", all.kept(0, 10, 1), 31);
    }

    /** "NONE, also if both are GLAD behind it without any" */
    private static void swapNone() {
        check.due("both are glad", Check.city("p2,0,0;g0,1,0;g0,1,0;v0,0,1,1;v1,1,2,1;").swap(0, 1), NONE);
        check.due("no gates", Check.city("p2,0,0;s0,1,0,1;s0,1,0,1;").swap(0, 1), NONE);
        // with the like gate for both it would be open: but there is no other one
        VotedMap one = Check.city("p2,0,0;g0,1,0;v0,1,0,5;v0,1,1,1;");
        check.due("shut", one.ahead(1, 2), 0);
        check.due("one gate", one.swap(0, 1), NONE);
        check.due("one gate", one.swap(1, 0), NONE);
        VotedMap two = Check.city("p2,0,0;g0,1,0;g0,1,0;v0,1,0,5;v0,1,1,1;");
        check.due("with another one to give", two.swap(0, 1), 1);
        check.due("no two help", Check.city("p3,0,0;g0,1,0;g0,1,0;v0,2,0,5;v0,1,1,1;").swap(0, 1), NONE);
        // glad now, but not behind the next dawn, is not glad
        VotedMap open = Check.city("p2,0,0;g0,1,1;g0,1,1;v0,1,0,5;v0,1,1,1;");
        check.due("glad now", open.ahead(0, 2), 3);
        check.due("swap", open.swap(0, 1), 1);
    }

    /** "the first two unlike GATES (8 times one, and the other one)" */
    private static void swapFirst() {
        StringBuilder text = new StringBuilder("p2,0,0;");
        for (int g = 0; g < 8; g++) {
            text.append("g0,1,0;");
        }
        VotedMap x = Check.city(text + "v0,1,0,5;v0,1,128,1;");
        check.due("8 times 7, and 0", x.swap(0, 1), 56);
        check.due("the first for a is 0", x.swap(1, 0), 7);
        x.wish(1, 192);
        check.due("8 times 6, and 0", x.swap(0, 1), 48);
        x.wish(1, 1);
        check.due("8 times 0, and 1", x.swap(0, 1), 1);
        check.due("8 times 1, and 0", x.swap(1, 0), 8);
        // both are in need: of a gate from each other, the last two
        VotedMap y = Check.city("p3,0,0;g0,1,0;g0,1,0;g0,1,0;g0,1,0;g0,1,0;g0,1,0;g0,1,0;g0,2,0;"
            + "v0,1,128,5;v0,2,64,5;");
        check.due("both need both: 8 times 6, and 7", y.swap(0, 1), 55);
        VotedMap z = Check.city("p4,0,0;g0,1,0;g0,1,0;g0,1,0;g0,1,0;g0,1,0;g0,1,0;g1,0,0;g2,3,0;"
            + "v0,1,128,5;v2,3,64,5;");
        check.due("8 times 6, and 7", z.swap(0, 1), 55);
        check.due("8 times 7, and 6", z.swap(1, 0), 62);
        check.due("no wish by it", z.person(0, 2), 128);
        // one of both is glad without any: two are looked for all the same
        VotedMap half = Check.city("p2,0,0;g0,1,0;g0,1,0;v0,1,0,5;v0,0,2,1;");
        check.due("one is glad", half.ahead(1, 2), 2);
        check.due("8 times 1, and 0", half.swap(0, 1), 8);
    }

    /** "the least WISH by which he is GLAD behind the next DAWN; NONE" */
    private static void best() {
        check.due("at home, no gates", Check.city("p2,0,0;s1,1,0,0;").best(0), 0);
        check.due("no gates", Check.city("p2,0,0;v0,1,0,20;").best(0), NONE);
        check.due("a stranger", Check.city("p2,0,0;g0,1,1;s0,1,1,20;").best(0), NONE);
        check.due("without a vote, by the TIE", Check.city("p2,0,1;g0,1,0;s0,1,1,20;").best(0), 0);
        check.due("for shut by 0", Check.city("p2,0,1;g0,1,0;v0,1,1,20;").best(0), 1);
        check.due("a vetoer", Check.city("p2,0,1;g0,1,0;x0,1,0,0;").best(0), 1);
        check.due("a follower, open", Check.city("p2,0,0;g0,1,1;m0,1,1,20;").best(0), 0);
        check.due("a follower, shut", Check.city("p2,0,0;g0,1,0;m0,1,1,20;").best(0), NONE);
        VotedMap x = Check.city("p3,0,0;g0,1,0;g0,2,0;g0,1,0;v0,1,0,1;");
        check.due("of several the least", x.best(0), 1);
        check.due("no wish by it", x.person(0, 2), 0);
    }

    /** The least of all WISHES, and the last: all the bits. */
    private static void bestEdges() {
        check.due("of one gate", Check.city("p2,0,0;g0,1,0;v0,1,0,1;").best(0), 1);
        check.due("of two", Check.city("p3,1,0;g0,1,1;g1,2,1;v0,2,0,2;").best(0), 3);
        check.due("of four", Check.city("p5,3,0;g0,1,1;g1,2,1;g2,3,1;g3,4,1;v0,4,0,4;").best(0), 15);
        check.due("a weight too light", Check.city("p5,3,0;g0,1,1;g1,2,1;g2,3,1;g3,4,1;v0,4,0,3;").best(0), NONE);
        VotedMap x = Check.city("p5,3,0;g0,1,0;g0,1,0;g0,1,0;g0,1,0;g1,2,1;g0,1,1;g2,3,1;g3,4,1;v0,4,0,4;");
        check.due("of eight: the least way", x.best(0), 0b11010001);
        VotedMap last = Check.city("p5,3,0;g0,1,0;g2,1,0;g2,1,0;g2,1,0;g1,2,1;g0,1,1;g2,3,1;g3,4,1;v0,4,0,4;");
        check.due("of eight", last.best(0), 0b11000011);
        VotedMap high = Check.city("p5,3,0;g0,4,0;g0,4,0;g0,4,0;g0,4,0;g0,1,1;g1,2,1;g2,3,1;g3,4,1;"
            + "v0,4,0,4;v4,0,0,20;");
        check.due("the other end shuts it", high.best(0), NONE);
        high.wish(1, 240);
        check.due("by him without any", high.best(0), 0);
    }

    private static int gladByDoing(String tail, int near, int tie, int n) {
        VotedMap x = Check.city("p5," + near + "," + tie + tail);
        x.dawn(n);
        return Integer.bitCount(x.ahead(0, 2));
    }

    private static void law(VotedMap x, int n, int near, int tie, int many) {
        check.due("NEAR by " + n, x.laws(n, 0), near);
        check.due("TIE by " + n, x.laws(n, 1), tie);
        check.due("how many by " + n, x.laws(n, 2), many);
    }

    /** "LAW by n DAWNS (1 to 10) from now on" */
    private static void lawNumbers() {
        VotedMap x = Check.city(LAWS);
        for (int n = 1; n <= 10; n++) {
            int[] best = {0, 0, -1};
            for (int near = 0; near <= 3; near++) {
                for (int tie = 0; tie <= 2; tie++) {
                    int many = gladByDoing(LAWS.substring(6), near, tie, n);
                    if (many > best[2]) {
                        best = new int[] {near, tie, many};
                    }
                }
            }
            law(x, n, best[0], best[1], best[2]);
        }
        check.due("by nine", 10 * x.laws(9, 0) + x.laws(9, 1), 10);
        check.due("by ten", 10 * x.laws(10, 0) + x.laws(10, 1), 11);
        check.due("no DAY by it", x.count(4), 0);
    }

    /** "by which most are GLAD behind these; of several the least NEAR, then the least TIE" */
    private static void lawOfSeveral() {
        law(Check.city("p2,3,2;"), 1, 0, 0, 0);
        VotedMap before = Check.city("p6,0,2;g0,1,1;g1,2,1;g2,3,1;g3,4,0;v0,0,15,20;v4,3,0,1;");
        law(before, 1, 3, 0, 2);
        Check.feed(before, "p2,3,2;g0,1,1;v0,1,0,9;");
        before.city();
        law(before, 1, 0, 0, 0);
        law(Check.city("p2,3,2;g0,1,0;s0,0,0,0;"), 10, 0, 0, 1);
        law(Check.city("p2,3,0;g0,1,0;s0,1,0,0;"), 1, 0, 1, 1);
        law(Check.city("p2,3,0;g0,1,1;s0,1,0,0;"), 10, 0, 1, 1);
        law(Check.city("p4,3,0;g0,1,1;g2,3,0;s0,1,0,0;w2,2,1,0;v0,0,0,1;"), 1, 0, 1, 3);
        // NEAR 0 by TIE 1, and NEAR 1 by TIE 0, would open gate 0: the least NEAR is ahead of the least TIE
        law(Check.city("p3,0,0;g0,1,0;g1,2,1;s0,1,0,0;v2,2,3,9;"), 1, 0, 1, 2);
        // by NEAR 3 alone the last gate is open
        law(Check.city("p6,0,2;g0,1,1;g1,2,1;g2,3,1;g3,4,0;v0,0,15,20;v4,3,0,1;"), 1, 3, 0, 2);
        // opened by TIE 1, gate 1 would take from the walled one his vote for gate 0
        law(Check.city("p4,0,0;g0,1,1;g2,3,0;w2,2,1,0;v0,1,0,1;"), 10, 0, 2, 2);
    }

    private static VotedMap withRow(int items) {
        VotedMap x = Check.city("p3,0,0;g0,1,0;g1,2,0;g0,2,0;s0,1,0,0;s0,2,0,0;s1,1,0,0;");
        x.row(0, 0, items);
        return x;
    }

    /** "n pairs (0 to 10) of a ROW from i on": the lived row 1 has 40 items, row 4 four, row 3 none. */
    private static void openedPlaces() {
        edges.bounds("opened n", 0, 10, (x, n) -> x.opened(1, 0, n, 0));
        edges.bounds("opened i of none", 0, 40, PLACE, PLACE, (x, i) -> x.opened(1, i, 0, 0));
        edges.bounds("opened i of two", 0, 0, PLACE, PLACE, (x, i) -> x.opened(4, i, 2, 0));
        edges.bounds("opened i of one", 0, 2, PLACE, PLACE, (x, i) -> x.opened(4, i, 1, 0));
        edges.bounds("opened i of none", 0, 4, PLACE, PLACE, (x, i) -> x.opened(4, i, 0, 0));
        edges.refused("three of four items", PLACE, x -> x.opened(4, 0, 3, 0));
        edges.refused("one of an empty row", PLACE, x -> x.opened(3, 0, 1, 0));
        edges.refused("two of two", PLACE, x -> x.opened(2, 0, 2, 0));
        edges.refused("half a pair", PLACE, x -> x.opened(4, 3, 1, 0));
        edges.refused("ten of a short row", PLACE, x -> x.opened(4, 0, 10, 0));
        check.due("none of an empty row", Edges.lived().opened(3, 0, 0, 0), 256);
        VotedMap x = withRow(40);
        check.due("ten at the end", x.opened(0, 20, 10, 0), 3);
        check.due("ten beyond it", x.opened(0, 21, 10, 0), PLACE);
        x.set(0, 39, 1);
        check.due("the last item tells", x.opened(0, 20, 10, 0), 0);
        x.set(0, 39, 2);
        check.due("the last item tells", x.opened(0, 20, 10, 0), BAD);
        check.due("ten ahead of it", x.opened(0, 19, 10, 0), 3);
        check.due("nine ahead of it", x.opened(0, 20, 9, 0), 3);
    }

    /** "a PERSON and whether he is GLAD (1, 0)"; "then BAD: a pair that is none" */
    private static void openedPairs() {
        int[] wrong = {Edges.LEAST, -1, 3, Edges.MOST};
        int[] half = {Edges.LEAST, -1, 2, Edges.MOST};
        for (int place = 0; place < 10; place++) {
            for (int k = 0; k < 4; k++) {
                VotedMap x = withRow(0);
                x.row(0, 2, 20);
                x.set(0, 2 * place, wrong[k]);
                check.due("no PERSON " + wrong[k], x.opened(0, 0, 10, 0), BAD);
                check.due("none is asked", x.opened(0, 0, place, 0), place == 0 ? 8 : 3);
                x.set(0, 2 * place, 0);
                x.set(0, 2 * place + 1, half[k]);
                check.due("not 1, 0: " + half[k], x.opened(0, 0, 10, 0), BAD);
                x.set(0, 2 * place + 1, 0);
                check.due("all are pairs", x.opened(0, 0, 10, 0), 3);
                check.due("status", x.status(), 0);
            }
        }
        VotedMap none = Check.city("p2,0,0;g0,1,0;");
        none.row(0, 0, 2);
        check.due("nobody is a PERSON", none.opened(0, 0, 1, 0), BAD);
        check.due("no pairs", none.opened(0, 0, 0, 0), 2);
    }

    private static void opens(VotedMap x, int i, int n, int many, int open, int shut) {
        check.due("opened " + i + " " + n + " how many", x.opened(0, i, n, 0), many);
        check.due("opened " + i + " " + n + " open in all", x.opened(0, i, n, 1), open);
        check.due("opened " + i + " " + n + " shut in all", x.opened(0, i, n, 2), shut);
    }

    private static void fill(VotedMap x, int... items) {
        for (int k = 0; k < items.length; k++) {
            x.set(0, k, items[k]);
        }
    }

    /** "sets of open GATES (of all that there can be)"; "NONE (for both, if there is none)" */
    private static void openedSets() {
        StringBuilder text = new StringBuilder("p2,0,0;");
        for (int g = 0; g < 8; g++) {
            text.append("g0,1,1;");
        }
        VotedMap x = Check.city(text + "s0,1,0,0;s0,0,0,0;");
        x.row(0, 0, 20);
        fill(x, 0, 1, 0, 0, 1, 1, 1, 0, 0, 0);
        opens(x, 0, 0, 256, 0, 0);
        opens(x, 20, 0, 256, 0, 0);
        opens(x, 0, 1, 255, 0, 0);
        opens(x, 2, 1, 1, 0, 255);
        opens(x, 4, 1, 256, 0, 0);
        opens(x, 6, 1, 0, NONE, NONE);
        opens(x, 0, 2, 0, NONE, NONE);
        opens(x, 2, 2, 1, 0, 255);
        check.due("status by NONE", x.status(), 0);
        check.due("no gate by it", x.count(5), 255);
        VotedMap line = Check.city("p6,0,0" + ";g0,1,0;g1,2,0;g2,3,0;g3,4,0;g4,5,0;g5,4,0;s0,5,0,0;s5,4,0,0;");
        line.row(0, 2, 4);
        fill(line, 0, 1, 1, 0);
        opens(line, 0, 1, 3, 15, 0);
        opens(line, 2, 1, 16, 0, 48);
        opens(line, 0, 2, 0, NONE, NONE);
        VotedMap none = Check.city("p2,0,0;s0,1,0,0;s1,1,0,0;");
        none.row(0, 2, 4);
        fill(none, 0, 0, 1, 1);
        opens(none, 0, 2, 1, 0, 0);
        fill(none, 0, 1);
        opens(none, 0, 2, 0, NONE, NONE);
    }

    /** "BAD: ROW, n, what; STATE ..; NULL; PLACE; then BAD": the first of these that fits. */
    private static void openedRefusals() {
        edges.refused("ROW ahead of PLACE", BAD, x -> x.opened(8, -1, 1, 0));
        edges.refused("ROW -1", BAD, x -> x.opened(-1, 0, 0, 0));
        edges.refused("n ahead of NULL", BAD, x -> x.opened(5, 0, 11, 0));
        edges.refused("n ahead of NULL", BAD, x -> x.opened(5, 0, -1, 0));
        edges.refused("n ahead of PLACE", BAD, x -> x.opened(4, 5, -1, 0));
        edges.refused("n ahead of PLACE", BAD, x -> x.opened(4, 0, Edges.MOST, 0));
        edges.refused("what ahead of NULL", BAD, x -> x.opened(5, 0, 0, 3));
        edges.refused("what ahead of PLACE", BAD, x -> x.opened(4, 5, 0, -1));
        edges.refused("NULL ahead of PLACE", NULL, x -> x.opened(5, -1, 0, 0));
        edges.refused("NULL", NULL, x -> x.opened(7, 0, 10, 2));
        edges.refused("PLACE ahead of a pair that is none", PLACE, x -> x.opened(2, 0, 2, 0));
        edges.refused("i + 2n would wrap around", PLACE, x -> x.opened(4, Edges.MOST, 1, 0));
        edges.refused("i least", PLACE, x -> x.opened(4, Edges.LEAST, 10, 0));
        edges.refused("a pair that is none", BAD, x -> x.opened(2, 0, 1, 0));
        edges.refused("a pair that is none", BAD, x -> x.opened(1, 22, 1, 0));
        edges.refused("the last of ten pairs is none", BAD, x -> x.opened(1, 4, 10, 0));
    }

    /** "told GATES were open behind the next DAWN: .. each of whom alone, did he WISH otherwise for just one GATE" */
    private static void sold() {
        VotedMap x = Check.city("p2,0,0;g0,1,0;g0,1,0;v0,0,0,2;v0,0,0,1;v0,0,0,2;");
        check.due("as it will be, without what he alters", x.sold(0), 7);
        check.due("none of them alone", x.sold(1), 0);
        x.wish(1, 1);
        check.due("either of two", x.sold(1), 1 | 4);
        check.due("by 0, 1, 2", x.sold(0), 7);
        check.due("just one gate", x.sold(3), 0);
        check.due("just one gate", x.sold(2), 0);
        check.due("no wish by it", x.person(0, 2), 0);
    }

    private static void soldEdges() {
        check.due("no gates, nothing to wish", Check.city("p2,0,0;v0,0,0,1;").sold(0), 0);
        check.due("no people", Check.city("p2,0,1;g0,1,1;").sold(1), 0);
        check.due("bits beyond", Check.city("p2,0,1;g0,1,1;").sold(2), BAD);
        check.due("bits of no gates", Check.city("p2,0,1;").sold(1), BAD);
        StringBuilder text = new StringBuilder("p2,0,0;");
        for (int g = 0; g < 8; g++) {
            text.append("g0,1,0;");
        }
        VotedMap x = Check.city(text + "v0,0,255,2;s0,0,0,2;v1,0,254,2;m1,1,0,0;v1,1,1,1;");
        check.due("as it will be", x.ahead(1, 0), 255);
        check.due("all open: who would alter nothing", x.sold(255), 2 | 8 | 4 | 16);
        check.due("all but the last", x.sold(127), 1 | 4);
        check.due("all but the first", x.sold(254), 1 | 16);
        check.due("none", x.sold(0), 0);
        VotedMap late = Check.city("p2,0,0;g0,1,1;v0,0,1,1;");
        check.due("now it is open: it is not asked", late.sold(0), 1);
        check.due("with the wish that he has it is open", late.sold(1), 0);
        VotedMap two = Check.city("p2,0,0;g0,1,0;g0,1,0;v0,0,1,2;");
        int[] sellers = {1, 0, 0, 1};
        for (int gates = 0; gates < 4; gates++) {
            check.due("one wish, one gate: " + gates, two.sold(gates), sellers[gates]);
        }
    }
}
