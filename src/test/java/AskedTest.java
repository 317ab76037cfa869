/** Promises 29 to 32: kinds, asks and the trace. */
final class AskedTest {
    private static final int BAD = VotedMap.BAD, NONE = VotedMap.NONE, KIND = -1000013;
    private static final Check check = new Check("AskedTest");

    public static void main(String[] args) {
        kinds();
        takenAs();
        asks();
        traceStays();
        wrongNumbers();
        check.finish();
    }

    private static VotedMap ofAll() {
        return Check.city("p4,0,0;g0,1,1;g1,2,0;g3,2,1;v0,0,0,7;w1,0,0,3;m3,0,0,2;x0,0,0,5;s1,0,0,11;");
    }

    private static void kinds() {
        VotedMap x = ofAll();
        for (int p = 0; p < 5; p++) {
            check.due("kind " + p, x.kind(p), p + 1);
        }
        VotedMap y = Check.city("p2,0,0;s0,0,0,0;x0,0,0,0;v0,0,0,0;");
        check.due("kind 0", y.kind(0), 5);
        check.due("kind 1", y.kind(1), 4);
        check.due("kind 2", y.kind(2), 1);
        check.due("kind 3", y.kind(3), BAD);
        check.due("kind -1", y.kind(-1), BAD);
    }

    private static void takenAs() {
        VotedMap x = ofAll();
        String[] are = {"110000", "111000", "110100", "100010", "100011"};
        for (int p = 0; p < 5; p++) {
            for (int kind = 0; kind <= 5; kind++) {
                boolean is = are[p].charAt(kind) == '1';
                check.due("as " + p + " " + kind, x.as(p, kind), is ? p : KIND);
                check.due("status", x.status(), is ? 0 : 3);
            }
        }
        check.due("as 5", x.as(5, 0), BAD);
        check.due("as -1", x.as(-1, 0), BAD);
        check.due("kind 6", x.as(0, 6), BAD);
        check.due("kind -1", x.as(0, -1), BAD);
    }

    private static void asked(VotedMap x, int person, int what, int want, int... bodies) {
        check.due("ask " + person + " " + what, x.ask(person, what), want);
        for (int i = 0; i < bodies.length; i++) {
            check.due("trace " + i + " of it", x.trace(i), bodies[i]);
        }
        check.due("no more of it", x.trace(bodies.length), NONE);
        check.due("none ahead of it", x.trace(-1), NONE);
    }

    private static void asks() {
        VotedMap x = ofAll();
        // reached from 0, 1: two plots; from 3: two
        asked(x, 0, 0, 7 + 0 + 2, 11, 10, 21, 20);
        asked(x, 0, 1, 0 + 2, 21, 20);
        asked(x, 1, 0, -(3 + 2 * (1 + 2)), 12, 11, 10, 24, 21, 20);
        asked(x, 1, 1, 2 * (1 + 2), 24, 21, 20);
        asked(x, 2, 0, 2 + 2 + 2 - 1000, 11, 10, 22, 21, 20);
        asked(x, 2, 1, 2 + 2 - 1000, 22, 21, 20);
        asked(x, 3, 0, 5 - 100, 13, 10);
        asked(x, 3, 1, 3 - (5 - 100), 23, 20, 13, 10);
        asked(x, 4, 0, 2 * (11 - 100), 14, 13, 10);
        asked(x, 4, 1, 4 - 2 * (11 - 100), 23, 20, 14, 13, 10);
        x.turn(1);
        asked(x, 0, 1, 0 + 4, 21, 20);
    }

    private static void traceStays() {
        VotedMap x = ofAll();
        check.due("empty at first", x.trace(0), NONE);
        x.ask(3, 0);
        x.ask(5, 0);
        x.ask(0, 2);
        x.turn(0);
        x.as(0, 0);
        Check.feed(x, "p2,0,0;");
        x.city();
        check.due("trace 0", x.trace(0), 13);
        check.due("trace 1", x.trace(1), 10);
        check.due("trace 2", x.trace(2), NONE);
        check.due("trace 16", x.trace(16), NONE);
        check.due("trace most", x.trace(Integer.MAX_VALUE), NONE);
        check.due("trace least", x.trace(Integer.MIN_VALUE), NONE);
    }

    private static void wrongNumbers() {
        VotedMap x = ofAll();
        check.due("ask 5", x.ask(5, 0), BAD);
        check.due("ask -1", x.ask(-1, 0), BAD);
        check.due("ask what 2", x.ask(0, 2), BAD);
        check.due("ask what -1", x.ask(0, -1), BAD);
    }
}
