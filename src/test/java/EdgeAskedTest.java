/** The edges of part 3's KINDS and of part 4, and of promises 29 to 32 (and 34, of as()). */
final class EdgeAskedTest {
    private static final int BAD = Edges.BAD, NONE = Edges.NONE, KIND = Edges.KIND;
    private static final Check check = new Check("EdgeAskedTest");
    private static final Edges edges = new Edges(check);

    public static void main(String[] args) {
        noCity();
        numbers();
        kinds();
        takenAs();
        refusals();
        leastAndMost();
        bodies();
        reached();
        emptyAhead();
        traceStays();
        traceNumbers();
        statusOfAs();
        check.finish();
    }

    private static void noCity() {
        for (int p : new int[] {Edges.LEAST, -1, 0, 4, 5, Edges.MOST}) {
            edges.refusedAtFirst("kind " + p, BAD, x -> x.kind(p));
            edges.refusedAtFirst("as " + p, BAD, x -> x.as(p, 0));
            edges.refusedAtFirst("ask " + p, BAD, x -> x.ask(p, 0));
        }
        for (int i = -1; i <= 17; i++) {
            check.due("trace at first " + i, new VotedMap().trace(i), NONE);
        }
        VotedMap nobody = Check.city("p2,0,0;g0,1,1;");
        check.due("kind of nobody", nobody.kind(0), BAD);
        check.due("as of nobody", nobody.as(0, 0), BAD);
        check.due("ask of nobody", nobody.ask(0, 0), BAD);
    }

    private static void numbers() {
        edges.bounds("kind", 0, 4, VotedMap::kind);
        edges.bounds("as person", 0, 4, (x, p) -> x.as(p, 0));
        edges.bounds("as kind", 0, 5, (x, kind) -> x.as(4, kind));
        edges.bounds("ask person", 0, 4, (x, p) -> x.ask(p, 0));
        edges.bounds("ask what", 0, 1, (x, what) -> x.ask(0, what));
        edges.bounds("ask what", 0, 1, (x, what) -> x.ask(4, what));
    }

    /** "The KIND of a PERSON, as told (1 to 5)" */
    private static void kinds() {
        String sorts = "vwmxs";
        for (int first = 1; first <= 5; first++) {
            for (int last = 1; last <= 5; last++) {
                VotedMap x = Check.city("p2,0,0;" + sorts.charAt(first - 1) + "0,0,0,0;v0,0,0,0;v0,0,0,0;v0,0,0,0;"
                    + sorts.charAt(last - 1) + "1,1,0,20;");
                check.due("kind of 0", x.kind(0), first);
                check.due("kind of 1", x.kind(1), 1);
                check.due("kind of 4", x.kind(4), last);
            }
        }
    }

    /** "0 PERSON; 1 VOTER, a PERSON; 2 WALLED, a VOTER; 3 FOLLOWER, a VOTER; 4 VETOER, a PERSON; 5 STRANGER, .." */
    private static void takenAs() {
        String[] are = {"110000", "111000", "110100", "100010", "100011"};
        for (int p = 0; p < 5; p++) {
            int person = p;
            for (int k = 0; k <= 5; k++) {
                int kind = k;
                if (are[p].charAt(k) == '1') {
                    VotedMap x = Edges.lived();
                    x.row(7, 0, -1);
                    check.due("as " + p + " " + k, x.as(p, k), p);
                    check.due("status by it", x.status(), 0);
                } else {
                    edges.refused("as " + p + " " + k, KIND, x -> x.as(person, kind));
                }
            }
        }
    }

    /** "BAD; KIND: it is no such one": BAD is ahead. */
    private static void refusals() {
        edges.refused("no such kind of one who is no stranger", BAD, x -> x.as(0, 6));
        edges.refused("no such kind", BAD, x -> x.as(0, -1));
        edges.refused("nobody as a stranger", BAD, x -> x.as(5, 5));
        edges.refused("nobody as a stranger", BAD, x -> x.as(-1, 5));
        edges.refused("both none", BAD, x -> x.as(5, 6));
        edges.refused("both none", BAD, x -> x.ask(5, 2));
        edges.refused("both none", BAD, x -> x.ask(-1, -1));
    }

    private static void asked(VotedMap x, int person, int what, int want, int... bodies) {
        check.due("ask " + person + " " + what, x.ask(person, what), want);
        for (int i = 0; i < bodies.length; i++) {
            check.due("trace " + i + " of ask " + person + " " + what, x.trace(i), bodies[i]);
        }
        for (int i = bodies.length; i <= 17; i++) {
            check.due("no trace " + i + " of ask " + person + " " + what, x.trace(i), NONE);
        }
    }

    /** By the least WEIGHT and the most, of the first PERSON and the last. */
    private static void leastAndMost() {
        for (int weight = 0; weight <= 20; weight += 20) {
            for (int p = 0; p <= 4; p += 4) {
                asksOf(p, weight);
            }
        }
    }

    private static VotedMap ofSort(char sort, int place, int weight) {
        StringBuilder text = new StringBuilder("p6,0,0;g0,1,1;");
        for (int p = 0; p < 5; p++) {
            text.append(p == place ? sort + "1,3,1," + weight + ";" : "v5,5,1,7;");
        }
        return Check.city(text.toString());
    }

    /** Two plots are reached from home. */
    private static void asksOf(int p, int weight) {
        int mark = p + 2;
        asked(ofSort('v', p, weight), p, 0, weight + mark, 11, 10, 21, 20);
        asked(ofSort('v', p, weight), p, 1, mark, 21, 20);
        asked(ofSort('w', p, weight), p, 0, -(weight + 2 * mark), 12, 11, 10, 24, 21, 20);
        asked(ofSort('w', p, weight), p, 1, 2 * mark, 24, 21, 20);
        asked(ofSort('m', p, weight), p, 0, weight + mark - 1000, 11, 10, 22, 21, 20);
        asked(ofSort('m', p, weight), p, 1, mark - 1000, 22, 21, 20);
        asked(ofSort('x', p, weight), p, 0, weight - 100, 13, 10);
        asked(ofSort('x', p, weight), p, 1, p - weight + 100, 23, 20, 13, 10);
        asked(ofSort('s', p, weight), p, 0, 2 * (weight - 100), 14, 13, 10);
        asked(ofSort('s', p, weight), p, 1, p - 2 * (weight - 100), 23, 20, 14, 13, 10);
    }

    /** "asked once": the number of what is asked twice over stands in THE TRACE once. */
    private static void bodies() {
        VotedMap x = ofSort('s', 2, 3);
        check.due("twice what 13 gives", x.ask(2, 0), -194);
        check.due("14", x.trace(0), 14);
        check.due("13", x.trace(1), 13);
        check.due("10", x.trace(2), 10);
        check.due("no second 13", x.trace(3), NONE);
        VotedMap y = ofSort('w', 2, 3);
        check.due("twice what 21 gives", y.ask(2, 1), 8);
        check.due("no second 21", y.trace(3), NONE);
    }

    /** "how many PLOTS HOME REACHES": one at least, six at most, as gates are now. */
    private static void reached() {
        VotedMap x = Check.city("p6,0,0;g0,1,0;g1,2,1;g2,3,1;g3,4,1;g4,5,1;v0,0,0,0;");
        asked(x, 0, 1, 1, 21, 20);
        x.turn(0);
        asked(x, 0, 1, 6, 21, 20);
        x.dawn(1);
        asked(x, 0, 1, 1, 21, 20);
        x.undo();
        asked(x, 0, 0, 6, 11, 10, 21, 20);
    }

    /** "THE TRACE is empty ahead of it." */
    private static void emptyAhead() {
        VotedMap x = Edges.lived();
        for (int p = 4; p >= 0; p--) {
            for (int what = 0; what <= 1; what++) {
                x.ask(1, 0);
                check.due("six", x.trace(5), 20);
                x.ask(p, what);
                int many = 0;
                while (many < 16 && x.trace(many) != NONE) {
                    many++;
                }
                int[][] length = {{4, 2}, {6, 3}, {5, 3}, {2, 4}, {3, 5}};
                check.due("bodies of " + p + " " + what, many, length[p][what]);
            }
        }
    }

    /** "BAD (THE TRACE stays then)" */
    private static void traceStays() {
        int[] bodies = {12, 11, 10, 24, 21, 20};
        int[][] none = {{5, 0}, {-1, 1}, {Edges.LEAST, 0}, {Edges.MOST, 1}, {0, 2}, {1, -1}, {1, Edges.LEAST},
            {1, Edges.MOST}};
        for (int[] call : none) {
            VotedMap x = Edges.lived();
            check.due("ask of nothing", x.ask(call[0], call[1]), BAD);
            for (int i = 0; i < 6; i++) {
                check.due("trace " + i + " stays", x.trace(i), bodies[i]);
            }
            check.due("no more", x.trace(6), NONE);
        }
        VotedMap x = Edges.lived();
        x.turn(0);
        x.dawn(1);
        x.as(0, 5);
        x.kind(0);
        x.undo();
        for (int i = 0; i < 6; i++) {
            check.due("trace " + i + " stays", x.trace(i), bodies[i]);
        }
    }

    /** "Number i of THE TRACE; NONE." No number is BAD. */
    private static void traceNumbers() {
        for (int i : new int[] {Edges.LEAST, -16, -1, 6, 7, 15, 16, 17, Edges.MOST}) {
            VotedMap x = Edges.lived();
            x.row(7, 0, -1);
            check.due("trace " + i, x.trace(i), NONE);
            check.due("status stays", x.status(), 4);
        }
        check.due("the first", Edges.lived().trace(0), 12);
        check.due("the last", Edges.lived().trace(5), 20);
    }

    /** "Of the latest call with a ROW, or as()": kind(), ask() leave it. */
    private static void statusOfAs() {
        VotedMap x = Edges.lived();
        x.as(0, 2);
        check.due("KIND", x.status(), 3);
        x.kind(0);
        x.ask(0, 0);
        x.ask(0, 2);
        x.as(5, 2);
        x.as(0, 6);
        check.due("BAD leaves it", x.status(), 3);
        x.as(1, 2);
        check.due("he is", x.status(), 0);
        x.as(0, 4);
        x.set(0, 0, 0);
        check.due("a call with a ROW", x.status(), 0);
        x.set(0, 99, 0);
        x.as(0, 0);
        check.due("as behind a PLACE", x.status(), 0);
    }
}
