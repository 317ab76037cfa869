/** Promises 1, 9 to 17, 27, 28 and 33: acts on a city, its images, what is told of it. */
final class ActsTest {
    private static final int BAD = VotedMap.BAD, STATE = VotedMap.STATE, NONE = VotedMap.NONE;
    private static final Check check = new Check("ActsTest");
    private static final String FAIR =
        "p5,1,2;g0,1,1;g1,2,0;g2,3,1;g3,4,0;g0,3,0;v0,2,2,5;w4,0,24,3;m1,3,0,4;x2,4,12,6;s3,1,31,9;";

    public static void main(String[] args) {
        noCity();
        told();
        badNumbers();
        nearAndWeight();
        ties();
        walled();
        followers();
        vetoes();
        vetoesAreKept();
        reaching();
        stepping();
        turning();
        wishing();
        undoing();
        dawning();
        lastDay();
        images();
        check.finish();
    }

    private static void noCity() {
        VotedMap x = new VotedMap();
        for (int what = 0; what <= 8; what++) {
            check.due("count " + what, x.count(what), 0);
        }
        check.due("count -1", x.count(-1), BAD);
        check.due("count 9", x.count(9), BAD);
        check.due("fault", x.fault(), 0);
        check.due("status", x.status(), 0);
        check.due("trace", x.trace(0), NONE);
        check.due("dawn", x.dawn(0), STATE);
        check.due("dawn", x.dawn(21), STATE);
        check.due("turn", x.turn(0), BAD);
        check.due("wish", x.wish(0, 0), BAD);
        check.due("undo", x.undo(), STATE);
        check.due("person", x.person(0, 0), BAD);
        check.due("gate", x.gate(0, 0), BAD);
        check.due("reach", x.reach(0), BAD);
        check.due("steps", x.steps(0, 0), BAD);
        check.due("votes", x.votes(0, 0), BAD);
        check.due("image", x.image(0), STATE);
        check.due("image BAD", x.image(2), BAD);
        check.due("image BAD", x.image(-1), BAD);
        check.due("restore", x.restore(1), STATE);
        check.due("restore BAD", x.restore(2), BAD);
        check.due("restore BAD", x.restore(-1), BAD);
    }

    private static void told() {
        VotedMap x = Check.city(FAIR);
        int[][] people = {{0, 2, 2, 5, 0}, {4, 0, 24, 3, 0}, {1, 3, 0, 4, 0}, {2, 4, 12, 6, 0}, {3, 1, 31, 9, 0}};
        int[][] gates = {{0, 1, 1}, {1, 2, 0}, {2, 3, 1}, {3, 4, 0}, {0, 3, 0}};
        for (int k = 0; k < 5; k++) {
            for (int what = 0; what < 5; what++) {
                check.due("person " + k + " " + what, x.person(k, what), people[k][what]);
            }
            for (int what = 0; what < 3; what++) {
                check.due("gate " + k + " " + what, x.gate(k, what), gates[k][what]);
            }
        }
        int[] counts = {0, 5, 5, 5, 0, 5, 0, 0, 0};
        for (int what = 0; what < 9; what++) {
            check.due("count " + what, x.count(what), counts[what]);
        }
    }

    private static void badNumbers() {
        VotedMap x = Check.city("p3,1,0;g0,1,1;g1,2,0;v0,2,2,5;");
        for (int k = -1; k <= 2; k += 3) {
            check.due("turn " + k, x.turn(k), BAD);
            check.due("gate " + k, x.gate(k, 0), BAD);
            check.due("steps gate " + k, x.steps(0, k), BAD);
            check.due("votes " + k, x.votes(k, 0), BAD);
        }
        for (int k = -1; k <= 1; k += 2) {
            check.due("person " + k, x.person(k, 0), BAD);
            check.due("steps person " + k, x.steps(k, 0), BAD);
            check.due("wish person " + k, x.wish(k, 0), BAD);
        }
        check.due("reach -1", x.reach(-1), BAD);
        check.due("reach 3", x.reach(3), BAD);
        check.due("person 0 -1", x.person(0, -1), BAD);
        check.due("person 0 5", x.person(0, 5), BAD);
        check.due("gate 0 -1", x.gate(0, -1), BAD);
        check.due("gate 0 3", x.gate(0, 3), BAD);
        check.due("votes what -1", x.votes(0, -1), BAD);
        check.due("votes what 2", x.votes(0, 2), BAD);
        check.due("wish -1", x.wish(0, -1), BAD);
        check.due("wish 4", x.wish(0, 4), BAD);
        check.due("dawn 0", x.dawn(0), BAD);
        check.due("dawn 21", x.dawn(21), BAD);
        check.due("dawn -1", x.dawn(-1), BAD);
        check.due("no act by these", x.count(7), 0);
        check.due("no day by these", x.count(4), 0);
        check.due("no gate by these", x.count(5), 1);
        check.due("no wish by these", x.person(0, 2), 2);
    }

    private static void sums(VotedMap x, int gate, int forOpen, int forShut) {
        check.due("votes for open at " + gate, x.votes(gate, 0), forOpen);
        check.due("votes for shut at " + gate, x.votes(gate, 1), forShut);
    }

    private static void nearAndWeight() {
        VotedMap x = Check.city("p4,1,0;g0,1,1;g1,2,1;g2,3,0;v0,2,6,5;");
        sums(x, 0, 0, 5);
        sums(x, 1, 4, 0);
        sums(x, 2, 0, 0);
        check.due("two steps are not near", x.dawn(1), 2);
        VotedMap y = Check.city("p4,2,0;g0,1,1;g1,2,1;g2,3,0;v0,2,6,5;v0,0,7,1;");
        sums(y, 0, 1, 5);
        sums(y, 1, 4, 0);
        sums(y, 2, 3, 0);
        check.due("all at once", y.dawn(1), 6);
        sums(y, 0, 1, 5);
        sums(y, 1, 0, 0);
        check.due("shut behind it", y.dawn(1), 0);
    }

    private static void ties() {
        for (int tie = 0; tie <= 2; tie++) {
            VotedMap x = Check.city("p3,0," + tie + ";g0,1,1;g0,1,0;g1,2,1;g1,2,0;v0,0,1,4;v1,1,2,4;v0,0,2,0;");
            sums(x, 0, 4, 4);
            sums(x, 1, 4, 4);
            sums(x, 2, 0, 4);
            int[] want = {0, 3, 1};
            check.due("tie " + tie, x.dawn(1), want[tie]);
            VotedMap y = Check.city("p3,0," + tie + ";g0,1,1;g0,1,0;");
            check.due("none votes, tie " + tie, y.dawn(2), want[tie]);
        }
    }

    private static void walled() {
        VotedMap x = Check.city("p4,0,0;g0,1,0;g1,2,0;g2,3,0;w2,0,1,3;");
        sums(x, 0, 1, 0);
        sums(x, 1, 0, 3);
        sums(x, 2, 0, 3);
        check.due("with 1 where he is not near", x.dawn(1), 1);
        x.turn(2);
        sums(x, 0, 0, 0);
        check.due("not walled in: no vote afar", x.dawn(1), 0);
        VotedMap y = Check.city("p4,3,0;g0,1,0;g1,2,0;g2,3,0;w2,0,1,0;");
        sums(y, 0, 1, 0);
        sums(y, 1, 0, 0);
        VotedMap z = Check.city("p4,3,0;g0,1,0;v2,0,1,9;m2,0,1,9;x2,0,1,9;s2,0,1,9;");
        sums(z, 0, 0, 0);
    }

    private static void followers() {
        VotedMap x = Check.city("p2,0,0;g0,1,1;g0,1,0;m0,1,2,7;v1,0,2,3;");
        sums(x, 0, 7, 3);
        sums(x, 1, 3, 7);
        check.due("as it is", x.dawn(1), 1);
        VotedMap y = Check.city("p2,0,1;g0,1,1;g0,1,0;s0,1,3,7;v1,0,0,1;");
        sums(y, 0, 0, 1);
        check.due("a stranger has no vote", y.dawn(1), 0);
    }

    private static void vetoes() {
        VotedMap x = Check.city("p2,0,1;g0,1,1;g0,1,1;g0,1,1;x0,1,0,0;");
        check.due("the first gate", x.dawn(1), 6);
        check.due("spent", x.count(6), 1);
        check.due("spent, of the person", x.person(0, 4), 1);
        check.due("once only", x.dawn(1), 7);
        VotedMap y = Check.city("p2,0,1;g0,1,1;g0,1,1;g0,1,1;v0,1,0,0;x0,1,1,0;x0,1,1,0;");
        check.due("each one gate", y.dawn(1), 1);
        check.due("both spent", y.count(6), 6);
        VotedMap z = Check.city("p2,0,1;g0,1,1;x0,1,1,0;x0,1,0,0;x0,1,0,0;");
        check.due("the first who has not the gate", z.dawn(1), 0);
        check.due("spent by one", z.count(6), 2);
        VotedMap s = Check.city("p2,0,1;g0,1,1;s0,1,0,9;");
        check.due("a stranger has no veto", s.dawn(1), 1);
        VotedMap u = Check.city("p2,0,0;g0,1,1;x0,1,0,9;");
        check.due("shut by votes", u.dawn(1), 0);
        check.due("no veto spent thereby", u.count(6), 0);
    }

    private static void vetoesAreKept() {
        VotedMap x = Check.city("p4,1,1;g0,1,1;g1,2,1;g2,3,1;x0,0,1,0;");
        check.due("near by one step", x.dawn(1), 5);
        check.due("spent", x.count(6), 1);
        VotedMap y = Check.city("p4,0,1;g0,1,1;g1,2,1;g2,3,1;x0,0,1,0;");
        check.due("not near", y.dawn(1), 7);
        check.due("not spent", y.count(6), 0);
        y.wish(0, 0);
        check.due("near", y.dawn(1), 6);
        y.undo();
        check.due("undone with its veto", y.count(6), 0);
        check.due("again", y.dawn(1), 6);
        y.wish(0, 7);
        check.due("spent for good", y.count(6), 1);
        Check.feed(y, "p4,0,1;g0,1,1;x0,0,0,0;");
        y.city();
        check.due("another city: not spent", y.count(6), 0);
    }

    private static void reaching() {
        VotedMap x = Check.city("p6,0,0;g4,5,1;g3,4,1;g2,3,1;g1,2,0;g0,1,1;");
        int[] want = {3, 3, 60, 60, 60, 60};
        for (int plot = 0; plot < 6; plot++) {
            check.due("reach " + plot, x.reach(plot), want[plot]);
        }
        x.turn(3);
        for (int plot = 0; plot < 6; plot++) {
            check.due("reach all from " + plot, x.reach(plot), 63);
        }
        VotedMap y = Check.city("p6,0,0;g0,1,1;g2,1,1;g2,3,1;g4,3,1;g4,5,1;");
        check.due("reach far", y.reach(0), 63);
        check.due("reach back", y.reach(5), 63);
        check.due("itself", Check.city("p2,0,0;g0,1,0;").reach(1), 2);
    }

    private static void stepping() {
        VotedMap x = Check.city("p6,0,0;g4,5,0;g3,4,1;g2,3,1;g1,2,1;g0,1,1;v0,0,0,0;v5,0,0,0;v2,0,0,0;");
        int[][] want = {{4, 3, 2, 1, 0}, {0, NONE, NONE, NONE, NONE}, {2, 1, 0, 0, 1}};
        for (int p = 0; p < 3; p++) {
            for (int g = 0; g < 5; g++) {
                check.due("steps " + p + " " + g, x.steps(p, g), want[p][g]);
            }
        }
        x.turn(0);
        check.due("from 5 to gate 4", x.steps(1, 4), 4);
        x.turn(2);
        check.due("from 5 to the shut gate 2", x.steps(1, 2), 2);
        check.due("from 5 to gate 3, none", x.steps(1, 3), NONE);
        VotedMap y = Check.city("p5,0,0;g0,1,1;g1,2,1;g2,3,1;g0,3,1;g3,4,0;v0,0,0,0;");
        check.due("the shorter way", y.steps(0, 4), 1);
        check.due("either way", y.steps(0, 2), 1);
    }

    private static void turning() {
        VotedMap x = Check.city("p2,0,0;g0,1,0;g0,1,1;");
        check.due("turn 0", x.turn(0), 1);
        check.due("open", x.count(5), 3);
        check.due("turn 1", x.turn(1), 0);
        check.due("open", x.count(5), 1);
        check.due("gate 1", x.gate(1, 2), 0);
        check.due("turn 0", x.turn(0), 0);
        check.due("no day by it", x.count(4), 0);
        check.due("three acts", x.count(7), 3);
    }

    private static void wishing() {
        VotedMap x = Check.city("p2,0,0;g0,1,0;g0,1,1;v0,0,1,1;s0,0,3,1;");
        check.due("wish 2", x.wish(0, 2), 1);
        check.due("wish 3", x.wish(0, 3), 2);
        check.due("the like wish", x.wish(0, 3), 3);
        check.due("wish 0", x.wish(1, 0), 3);
        check.due("person 0", x.person(0, 2), 3);
        check.due("person 1", x.person(1, 2), 0);
        check.due("four acts", x.count(7), 4);
    }

    private static void undoing() {
        VotedMap x = Check.city("p2,0,1;g0,1,0;g0,1,1;x0,0,0,0;");
        x.wish(0, 1);
        x.turn(0);
        x.dawn(2);
        check.due("as it came", x.count(5) * 10 + x.count(6), 31);
        check.due("undo", x.undo(), 3);
        check.due("behind the first dawn", x.count(5) * 10 + x.count(6), 11);
        check.due("day", x.count(4), 1);
        check.due("undo", x.undo(), 2);
        check.due("ahead of the first dawn", x.count(5) * 10 + x.count(6), 30);
        check.due("day", x.count(4), 0);
        check.due("wish yet", x.person(0, 2), 1);
        check.due("undo", x.undo(), 1);
        check.due("turned back", x.count(5), 2);
        check.due("undo", x.undo(), 0);
        check.due("wished back", x.person(0, 2), 0);
        check.due("undo", x.undo(), STATE);
        for (int i = 0; i < 30; i++) {
            x.turn(0);
            check.due("kept", x.count(7), Math.min(24, i + 1));
        }
        x.turn(1);
        for (int i = 23; i >= 0; i--) {
            check.due("undo", x.undo(), i);
        }
        check.due("undo", x.undo(), STATE);
        check.due("the oldest are forgotten", x.count(5), 3);
    }

    private static void dawning() {
        VotedMap x = Check.city("p2,0,2;g0,1,1;m0,0,0,1;");
        check.due("20 dawns", x.dawn(20), 1);
        check.due("20 acts", x.count(7), 20);
        check.due("day 20", x.count(4), 20);
        x.dawn(20);
        check.due("24 acts", x.count(7), 24);
        for (int i = 0; i < 24; i++) {
            x.undo();
        }
        check.due("day 16", x.count(4), 16);
        x.turn(0);
        check.due("one more", x.dawn(1), 0);
        check.due("day 17", x.count(4), 17);
    }

    private static void lastDay() {
        VotedMap x = Check.city("p2,0,2;g0,1,1;v0,0,0,0;");
        for (int i = 0; i < 49; i++) {
            x.dawn(20);
        }
        check.due("day 980", x.count(4), 980);
        check.due("to day 1000", x.dawn(20), VotedMap.FULL);
        check.due("BAD ahead of FULL", x.dawn(21), BAD);
        check.due("day 980 yet", x.count(4), 980);
        check.due("to day 999", x.dawn(19), 1);
        check.due("day 999", x.count(4), 999);
        check.due("one more", x.dawn(1), VotedMap.FULL);
        check.due("foretold all the same", x.ahead(60, 0), 1);
        check.due("turned all the same", x.turn(0), 0);
        x.undo();
        x.undo();
        check.due("day 998", x.count(4), 998);
        check.due("two", x.dawn(2), VotedMap.FULL);
        check.due("one", x.dawn(1), 1);
    }

    private static void images() {
        VotedMap x = Check.city("p2,0,1;g0,1,0;g0,1,1;x0,0,0,0;v1,0,2,0;");
        check.due("image 0", x.image(0), 1);
        x.wish(1, 1);
        x.dawn(3);
        check.due("image is no act", x.image(1), 1);
        check.due("acts", x.count(7), 4);
        check.due("restore 0", x.restore(0), 1);
        check.due("open", x.count(5), 2);
        check.due("spent", x.count(6), 0);
        check.due("day", x.count(4), 0);
        check.due("wish", x.person(1, 2), 2);
        check.due("no act", x.count(7), 0);
        check.due("undo", x.undo(), STATE);
        x.turn(0);
        check.due("restore 1", x.restore(1), 1);
        check.due("open", x.count(5), 3);
        check.due("spent", x.count(6), 1);
        check.due("day", x.count(4), 3);
        check.due("wish", x.person(1, 2), 1);
        Check.feed(x, "p4,3,2;g2,3,1;s3,2,1,4;");
        x.city();
        check.due("image in place of one", x.image(1), 1);
        check.due("restore 0 again", x.restore(0), 1);
        check.due("plots", x.count(1), 2);
        check.due("people", x.count(3), 2);
        check.due("its kind", x.kind(0), 4);
        check.due("restore 1", x.restore(1), 1);
        check.due("plots", x.count(1), 4);
        check.due("gate", x.gate(0, 0) * 10 + x.gate(0, 1), 23);
        check.due("its kind", x.kind(0), 5);
        check.due("its errand", x.person(0, 1), 2);
        check.due("tie is kept", x.dawn(1), 1);
    }
}
