/** The edges of part 2, and of promises 1, 9 to 17, 27, 28 and 33. The lived city is Edges.CITY. */
final class EdgeActsTest {
    private static final int BAD = Edges.BAD, STATE = Edges.STATE, FULL = Edges.FULL, NONE = Edges.NONE;
    private static final Check check = new Check("EdgeActsTest");
    private static final Edges edges = new Edges(check);
    /** Six plots in a line, all gates open; one who wishes all of them open lives at one end. */
    private static final String LINE = ";g0,1,1;g1,2,1;g2,3,1;g3,4,1;g4,5,1;";

    public static void main(String[] args) {
        noCity();
        numbersOfThings();
        numbersOfQuestions();
        twoRefusals();
        noGates();
        noPeople();
        itselfToo();
        stepsToEitherPlot();
        noSteps();
        walledIn();
        nearAtMost();
        weightLessSteps();
        walledFromAfar();
        followers();
        strangers();
        likeSums();
        sumsOneApart();
        atOnce();
        vetoes();
        vetoesOfLesserGates();
        vetoesNear();
        dawns();
        lastDay();
        turned();
        wished();
        dawnByWhichNothingChanges();
        acts24();
        actsOfDawns();
        undone();
        images();
        imageOfTheLastDay();
        check.finish();
    }

    private static void counts(VotedMap x, String when, int... want) {
        for (int what = 0; what < want.length; what++) {
            check.due(when + ": count " + what, x.count(what), want[what]);
        }
    }

    /** "No CITY." */
    private static void noCity() {
        counts(new VotedMap(), "at first", 0, 0, 0, 0, 0, 0, 0, 0, 0, BAD);
        for (int n : new int[] {Edges.LEAST, -1, 0, 1, 20, 21, Edges.MOST}) {
            edges.refusedAtFirst("dawn, STATE ahead of BAD", STATE, x -> x.dawn(n));
            edges.refusedAtFirst("turn", BAD, x -> x.turn(n));
            edges.refusedAtFirst("wish", BAD, x -> x.wish(n, 0));
            edges.refusedAtFirst("person", BAD, x -> x.person(n, 0));
            edges.refusedAtFirst("gate", BAD, x -> x.gate(n, 0));
            edges.refusedAtFirst("reach", BAD, x -> x.reach(n));
            edges.refusedAtFirst("steps", BAD, x -> x.steps(n, 0));
            edges.refusedAtFirst("votes", BAD, x -> x.votes(n, 0));
        }
        edges.refusedAtFirst("undo", STATE, VotedMap::undo);
        for (int k = 0; k <= 1; k++) {
            int image = k;
            edges.refusedAtFirst("image", STATE, x -> x.image(image));
            edges.refusedAtFirst("restore", STATE, x -> x.restore(image));
        }
        for (int k : new int[] {Edges.LEAST, -1, 2, Edges.MOST}) {
            edges.refusedAtFirst("image, BAD ahead of STATE", BAD, x -> x.image(k));
            edges.refusedAtFirst("restore, BAD ahead of STATE", BAD, x -> x.restore(k));
            edges.refused("image", BAD, x -> x.image(k));
            edges.refused("restore", BAD, x -> x.restore(k));
        }
        edges.refused("restore of what was not kept", STATE, x -> x.restore(1));
    }

    /** "Numbers go from 0 on"; "BAD (.. there is no such thing)" */
    private static void numbersOfThings() {
        edges.bounds("turn GATE", 0, 7, VotedMap::turn);
        edges.bounds("gate GATE", 0, 7, (x, g) -> x.gate(g, 0));
        edges.bounds("steps GATE", 0, 7, (x, g) -> x.steps(3, g));
        edges.bounds("votes GATE", 0, 7, (x, g) -> x.votes(g, 0));
        edges.bounds("wish PERSON", 0, 4, (x, p) -> x.wish(p, 0));
        edges.bounds("person PERSON", 0, 4, (x, p) -> x.person(p, 0));
        edges.bounds("reach PLOT", 0, 5, VotedMap::reach);
        edges.bounds("image", 0, 1, VotedMap::image);
        edges.bounds("wish of all GATES", 0, 255, (x, set) -> x.wish(4, set));
        for (int p : new int[] {Edges.LEAST, -1, 5, Edges.MOST}) {
            edges.refused("steps of PERSON " + p, BAD, x -> x.steps(p, 0));
        }
        check.due("steps of PERSON 0", Edges.lived().steps(0, 0), 0);
        check.due("steps of PERSON 4", Edges.lived().steps(4, 3), 0);
        ofAnotherCity();
    }

    /** What was a GATE, a PERSON, a PLOT of the city before is none of a lesser one. */
    private static void ofAnotherCity() {
        VotedMap x = Edges.lived();
        x.city();
        Check.feed(x, "p2,0,0;g0,1,0;s1,0,1,20;");
        x.city();
        check.due("turn", x.turn(1), BAD);
        check.due("gate", x.gate(1, 0), BAD);
        check.due("steps", x.steps(0, 1), BAD);
        check.due("votes", x.votes(1, 0), BAD);
        check.due("steps", x.steps(1, 0), BAD);
        check.due("wish", x.wish(1, 0), BAD);
        check.due("wish", x.wish(0, 2), BAD);
        check.due("person", x.person(1, 0), BAD);
        check.due("reach", x.reach(2), BAD);
        counts(x, "behind these", 5, 2, 1, 1, 0, 0, 0, 0, 0);
        check.due("wish of all", x.wish(0, 0), 1);
        x.restore(0);
        check.due("turn of the restored", x.turn(2), BAD);
        check.due("reach of the restored", x.reach(3), BAD);
        check.due("turn of the restored", x.turn(1), 1);
    }

    private static void numbersOfQuestions() {
        edges.bounds("person what", 0, 4, (x, what) -> x.person(0, what));
        edges.bounds("person what", 0, 4, (x, what) -> x.person(4, what));
        edges.bounds("gate what", 0, 2, (x, what) -> x.gate(7, what));
        edges.bounds("votes what", 0, 1, (x, what) -> x.votes(7, what));
        edges.bounds("count", 0, 8, VotedMap::count);
        edges.bounds("dawns", 1, 20, VotedMap::dawn);
        for (int what : new int[] {Edges.LEAST, -1, 9, Edges.MOST}) {
            edges.refusedAtFirst("count " + what, BAD, x -> x.count(what));
        }
    }

    private static void twoRefusals() {
        edges.refused("both none", BAD, x -> x.steps(5, 8));
        edges.refused("both none", BAD, x -> x.wish(5, 256));
        edges.refused("no set of a person", BAD, x -> x.wish(0, 256));
        edges.refused("no set of a person", BAD, x -> x.wish(0, -1));
        edges.refused("no set of a person", BAD, x -> x.wish(0, Edges.LEAST));
        edges.refused("no set of a person", BAD, x -> x.wish(0, Edges.MOST));
        edges.refused("a set of none", BAD, x -> x.wish(-1, 255));
    }

    private static void noGates() {
        VotedMap x = Check.city("p2,3,1;v0,1,0,20;v1,1,0,0;");
        check.due("turn", x.turn(0), BAD);
        check.due("gate", x.gate(0, 0), BAD);
        check.due("steps", x.steps(0, 0), BAD);
        check.due("votes", x.votes(0, 0), BAD);
        check.due("wish 1", x.wish(0, 1), BAD);
        check.due("wish 0", x.wish(0, 0), 0);
        check.due("reach", x.reach(1), 2);
        check.due("dawns", x.dawn(20), 0);
        counts(x, "no gates", 0, 2, 0, 2, 20, 0, 0, 21, 0);
        check.due("walled in", x.ahead(0, 1), 3);
        check.due("glad", x.ahead(0, 2), 2);
    }

    private static void noPeople() {
        for (int tie = 0; tie <= 2; tie++) {
            VotedMap x = Check.city("p2,3," + tie + ";g0,1,1;g0,1,0;");
            check.due("person", x.person(0, 0), BAD);
            check.due("wish", x.wish(0, 0), BAD);
            check.due("steps", x.steps(0, 0), BAD);
            check.due("votes for open", x.votes(0, 0), 0);
            check.due("votes for shut", x.votes(0, 1), 0);
            check.due("dawn", x.dawn(1), tie == 0 ? 0 : tie == 1 ? 3 : 1);
        }
    }

    /** "A PLOT REACHES another one, if there is a way of open GATES between them (itself, too)." */
    private static void itselfToo() {
        VotedMap x = Check.city("p6,0,0;g0,1,0;g1,2,0;g2,3,0;g3,4,0;g4,5,0;");
        for (int plot = 0; plot < 6; plot++) {
            check.due("itself alone", x.reach(plot), 1 << plot);
        }
        VotedMap y = Check.city("p6,0,0" + LINE);
        for (int plot = 0; plot < 6; plot++) {
            check.due("all", y.reach(plot), 63);
        }
        y.turn(2);
        for (int plot = 0; plot < 6; plot++) {
            check.due("half", y.reach(plot), plot < 3 ? 7 : 56);
        }
        VotedMap back = Check.city("p6,0,0;g5,4,1;g4,3,1;g3,2,1;g2,1,1;g1,0,1;");
        check.due("against the numbers", back.reach(5) + back.reach(0), 126);
        gladAtHome();
    }

    /** "GLAD is who REACHES ERRAND from HOME." */
    private static void gladAtHome() {
        VotedMap x = Check.city("p6,0,2" + LINE + "s0,0,0,0;s0,5,0,0;s5,0,0,0;s2,3,0,0;s3,3,0,0;");
        check.due("all glad", x.ahead(0, 2), 31);
        x.turn(2);
        check.due("who is at his errand", x.ahead(0, 2), 17);
        check.due("nobody is walled in", x.ahead(0, 1), 0);
    }

    /** "the fewest open GATES that are to be passed from HOME to one of its two PLOTS" */
    private static void stepsToEitherPlot() {
        VotedMap x = Check.city("p6,0,0" + LINE + "s0,0,0,0;s5,0,0,0;s3,0,0,0;");
        int[][] want = {{0, 1, 2, 3, 4}, {4, 3, 2, 1, 0}, {2, 1, 0, 0, 1}};
        for (int p = 0; p < 3; p++) {
            for (int g = 0; g < 5; g++) {
                check.due("steps " + p + " " + g, x.steps(p, g), want[p][g]);
            }
        }
        x.turn(4);
        check.due("to a shut gate", x.steps(0, 4), 4);
        check.due("to a shut gate at home", x.steps(1, 4), 0);
        VotedMap ring = Check.city("p6,0,0" + LINE + "g5,0,1;g2,5,0;s0,0,0,0;");
        int[] round = {0, 1, 2, 2, 1, 0, 1};
        for (int g = 0; g < 7; g++) {
            check.due("steps in the ring to " + g, ring.steps(0, g), round[g]);
        }
    }

    /** "none, if HOME REACHES neither" */
    private static void noSteps() {
        VotedMap x = Check.city("p6,3,0" + LINE + "v0,0,31,20;w0,0,31,20;");
        x.turn(1);
        int[] want = {0, 1, NONE, NONE, NONE};
        for (int g = 0; g < 5; g++) {
            check.due("steps to " + g, x.steps(0, g), want[g]);
            check.due("votes at " + g, x.votes(g, 0), want[g] == NONE ? 0 : 2 * (20 - want[g]));
        }
        check.due("no finding", x.status(), 0);
        x.turn(0);
        check.due("at home", x.steps(0, 0), 0);
        check.due("one of its plots is not reached", x.steps(0, 1), NONE);
    }

    /** "WALLED IN is who has no open GATE at HOME." */
    private static void walledIn() {
        VotedMap x = Check.city("p4,0,0;g0,1,1;g2,1,1;g1,0,0;s0,0,0,0;s1,0,0,0;s2,0,0,0;s3,0,0,0;");
        check.due("who has no gate", x.ahead(0, 1), 8);
        x.turn(0);
        check.due("whose gates are shut", x.ahead(0, 1), 9);
        x.turn(2);
        check.due("whose other gate is open", x.ahead(0, 1), 8);
        x.turn(1);
        check.due("whose only gate is shut", x.ahead(0, 1), 12);
        x.turn(2);
        check.due("all", x.ahead(0, 1), 15);
    }

    /** "whose STEPS are NEAR at most" */
    private static void nearAtMost() {
        for (int near = 0; near <= 3; near++) {
            VotedMap x = Check.city("p6," + near + ",0" + LINE + "v0,0,31,20;");
            VotedMap y = Check.city("p6," + near + ",0" + LINE + "v0,0,0,20;");
            for (int g = 0; g < 5; g++) {
                check.due("for open at " + g + " NEAR " + near, x.votes(g, 0), g <= near ? 20 - g : 0);
                check.due("for shut at " + g + " NEAR " + near, y.votes(g, 1), g <= near ? 20 - g : 0);
                check.due("none for shut", x.votes(g, 1) + y.votes(g, 0), 0);
            }
            check.due("dawn by NEAR " + near, x.dawn(1), (2 << near) - 1);
        }
    }

    /** "WEIGHT less STEPS (0 at least)" */
    private static void weightLessSteps() {
        for (int weight = 0; weight <= 4; weight++) {
            VotedMap x = Check.city("p6,3,0" + LINE + "v0,0,31," + weight + ";v3,0,31,5;");
            int[] other = {3, 4, 5, 5};
            for (int g = 0; g < 4; g++) {
                check.due(weight + " at " + g, x.votes(g, 0), other[g] + Math.max(0, weight - g));
            }
        }
        VotedMap light = Check.city("p6,3,0" + LINE + "v0,0,0,1;v0,0,0,0;v0,0,0,2;v0,0,0,3;");
        int[] sums = {6, 3, 1, 0, 0};
        for (int g = 0; g < 5; g++) {
            check.due("light ones at " + g, light.votes(g, 1), sums[g]);
        }
    }

    /** "a walled one that is WALLED IN votes with 1 where it is not so near" */
    private static void walledFromAfar() {
        for (char sort : "vwmxs".toCharArray()) {
            for (int weight : new int[] {0, 1, 20}) {
                VotedMap x = Check.city("p4,3,0;g0,1,0;g1,2,1;g2,3,0;" + sort + "0,0,3," + weight + ";");
                int afar = sort == 'w' ? 1 : 0;
                check.due(sort + " near, walled in", x.votes(0, 0) + x.votes(0, 1), sort == 's' ? 0 : weight);
                check.due(sort + " afar for open", x.votes(1, 0), afar);
                check.due(sort + " afar for shut", x.votes(2, 1), afar);
                check.due(sort + " no other", x.votes(1, 1) + x.votes(2, 0), 0);
                x.turn(0);
                x.turn(1);
                check.due(sort + " afar, not walled in", x.votes(2, 0) + x.votes(2, 1), 0);
            }
        }
        VotedMap x = Check.city("p5,0,0;g0,1,1;g1,2,1;g2,3,1;w0,0,0,20;w4,0,0,20;");
        check.due("not so near, not walled in: none; without a gate: 1", x.votes(1, 1), 1);
        check.due("so near", x.votes(0, 1), 21);
    }

    /** "A follower votes that it be as it is" */
    private static void followers() {
        VotedMap x = Check.city("p2,0,0;g0,1,1;g0,1,0;g0,1,1;g0,1,0;m0,0,12,7;");
        int[] open = {7, 0, 7, 0};
        for (int g = 0; g < 4; g++) {
            check.due("for open at " + g, x.votes(g, 0), open[g]);
            check.due("for shut at " + g, x.votes(g, 1), 7 - open[g]);
        }
        check.due("as it is", x.dawn(3), 5);
        x.turn(1);
        check.due("as it is turned", x.dawn(1), 7);
    }

    /** "strangers do not vote"; "a stranger has no VETO" */
    private static void strangers() {
        VotedMap x = Check.city("p2,3,1;g0,1,1;g0,1,0;s0,1,0,20;s1,0,3,20;");
        for (int g = 0; g < 2; g++) {
            check.due("no votes at " + g, x.votes(g, 0) + x.votes(g, 1), 0);
        }
        check.due("no veto", x.dawn(1), 3);
        check.due("none spent", x.count(6), 0);
        check.due("steps all the same", x.steps(0, 1), 0);
    }

    /** "of like sums: by TIE 0 shut, by 1 open, by 2 as it is": of 0 and 0 as well */
    private static void likeSums() {
        int[] then = {0, 15, 5};
        for (int tie = 0; tie <= 2; tie++) {
            VotedMap x = Check.city("p3,0," + tie + ";g0,1,1;g0,1,0;g1,2,1;g1,2,0;v0,0,3,20;v0,0,0,20;v1,0,0,0;");
            check.due("like sums", x.votes(0, 0) - x.votes(0, 1), 0);
            check.due("of 20", x.votes(1, 0), 20);
            check.due("of 0", x.votes(2, 0) + x.votes(2, 1), 0);
            check.due("by TIE " + tie, x.dawn(1), then[tie]);
        }
    }

    /** "It is as the greater sum has it", by one, whatever the TIE is. */
    private static void sumsOneApart() {
        for (int tie = 0; tie <= 2; tie++) {
            VotedMap x = Check.city("p2,0," + tie + ";g0,1,0;g0,1,1;v0,0,1,20;v0,0,2,19;");
            check.due("20 to 19, 19 to 20", x.dawn(1), 1);
            VotedMap y = Check.city("p2,0," + tie + ";g0,1,0;g0,1,1;v0,0,1,1;v0,0,2,0;");
            check.due("1 to 0, 0 to 1", y.dawn(1), 1);
        }
    }

    /** "all GATES are voted, at once, by which are open ahead of it" */
    private static void atOnce() {
        VotedMap x = Check.city("p3,1,0;g0,1,1;g1,2,0;v0,0,2,9;");
        check.due("through gate 0, though it is shut now", x.dawn(1), 2);
        check.due("it is not near any more", x.dawn(1), 0);
        VotedMap y = Check.city("p4,0,0;g0,1,0;g2,3,0;w0,0,3,9;");
        check.due("walled in, though gate 0 is opened now", y.dawn(1), 3);
        VotedMap z = Check.city("p3,1,1;g0,1,1;g1,2,0;v0,0,0,9;x0,0,1,0;");
        check.due("shut by vote, and the vetoer is near yet", z.ahead(1, 0), 0);
        VotedMap u = Check.city("p4,1,1;g0,1,1;g1,2,1;g2,3,0;x0,0,1,0;m2,3,0,1;");
        check.due("a veto at gate 1, one step off", u.dawn(1), 1);
        check.due("spent", u.count(6), 1);
        VotedMap shut = Check.city("p3,1,1;g0,1,0;g1,2,1;x0,0,1,1;");
        check.due("gate 0 is opened now: not near yet", shut.dawn(1), 3);
        check.due("not spent", shut.count(6), 0);
        check.due("near now", shut.dawn(1), 1);
        check.due("spent now", shut.count(6), 1);
    }

    private static void vetoed(String text, int then, int spent) {
        VotedMap x = Check.city(text);
        check.due("dawn of " + text, x.dawn(1), then);
        check.due("VETOES of " + text, x.count(6), spent);
        for (int p = 0; p < x.count(3); p++) {
            check.due("VETO of " + p + " in " + text, x.person(p, 4), spent >> p & 1);
        }
    }

    /** "the first vetoer (by numbers) whose STEPS are NEAR at most, whose WISH has not that GATE, .." */
    private static void vetoes() {
        vetoed("p2,0,1;g0,1,1;x0,0,0,0;", 0, 1);
        vetoed("p2,0,1;g0,1,0;x0,0,0,0;", 0, 1);
        vetoed("p2,0,1;g0,1,1;x0,0,1,0;", 1, 0);
        vetoed("p2,0,1;g0,1,1;v0,0,0,0;w0,0,0,0;m0,0,0,0;s0,0,0,0;", 1, 0);
        vetoed("p2,0,1;g0,1,1;v0,0,0,0;x1,0,0,0;x0,0,0,0;x0,0,0,0;", 0, 2);
        vetoed("p2,0,1;g0,1,1;x0,0,1,0;x1,0,0,0;x0,0,0,0;", 0, 2);
        vetoed("p2,0,1;g0,1,1;v0,0,0,0;v0,0,0,0;v0,0,0,0;v0,0,0,0;x1,0,0,0;", 0, 16);
        // open by the votes of others; his own vote is for shut
        vetoed("p2,0,0;g0,1,0;v0,0,1,20;x1,0,0,19;", 0, 2);
        vetoed("p2,0,0;g0,1,1;v0,0,1,19;x1,0,0,20;", 0, 0);
        vetoed("p2,0,0;g0,1,1;v0,0,1,20;x1,0,0,20;", 0, 0);
        vetoed("p2,0,2;g0,1,1;x1,0,0,0;", 0, 1);
        vetoed("p2,0,2;g0,1,0;x1,0,0,0;", 0, 0);
    }

    /** "of those SPENT at GATES of lesser numbers in this DAWN, too" */
    private static void vetoesOfLesserGates() {
        vetoed("p2,0,1;g0,1,1;g0,1,1;x0,0,0,0;", 2, 1);
        vetoed("p2,0,1;g0,1,1;g0,1,1;x0,0,1,0;", 1, 1);
        vetoed("p2,0,1;g0,1,1;g0,1,1;g0,1,1;x0,0,0,0;x0,0,0,0;", 4, 3);
        vetoed("p2,0,1;g0,1,1;g0,1,1;g0,1,1;x0,0,3,0;x0,0,1,0;", 1, 3);
        vetoed("p2,0,1;g0,1,1;g0,1,1;g0,1,1;g0,1,1;g0,1,1;g0,1,1;g0,1,1;g0,1,1;x0,0,127,0;", 127, 1);
        vetoed("p2,0,1;g0,1,1;g0,1,1;g0,1,1;g0,1,1;g0,1,1;g0,1,1;"
            + "x0,0,0,0;x0,0,0,0;x0,0,0,0;x0,0,0,0;x0,0,0,0;", 32, 31);
        VotedMap x = Check.city("p2,0,1;g0,1,1;g0,1,1;x0,0,0,0;x1,0,3,0;");
        check.due("the first", x.dawn(1), 2);
        x.wish(1, 2);
        check.due("the first has none, the other one", x.dawn(1), 2);
        check.due("both are SPENT", x.count(6), 3);
        check.due("they stay so", x.dawn(20), 3);
        check.due("for good", x.count(6), 3);
        x.wish(0, 0);
        check.due("whatever the wish", x.dawn(1), 3);
    }

    private static void vetoesNear() {
        for (int near = 0; near <= 3; near++) {
            for (int gate = 0; gate < 5; gate++) {
                int wish = 31 - (1 << gate);
                boolean is = gate <= near;
                vetoed("p6," + near + ",1" + LINE + "x0,0," + wish + ",0;", is ? wish : 31, is ? 1 : 0);
            }
            vetoed("p6," + near + ",1;g0,1,0;g1,2,1;x0,0,1,0;", 3, 0);
        }
    }

    /** "n DAWNS (1 to 20), an ACT each"; "Then the DAY is 1 more." */
    private static void dawns() {
        for (int n = 1; n <= 20; n++) {
            VotedMap x = Check.city("p6,3,2" + LINE + "v0,0,0,20;");
            VotedMap y = Check.city("p6,3,2" + LINE + "v0,0,0,20;");
            int last = 0;
            for (int k = 0; k < n; k++) {
                last = y.dawn(1);
            }
            check.due(n + " dawns", x.dawn(n), last);
            counts(x, n + " dawns", 0, 6, 5, 1, n, last, 0, n, 0);
        }
        edges.refused("none, and no act by it", BAD, x -> x.dawn(0));
    }

    private static VotedMap atDay(int day) {
        VotedMap x = Check.city("p2,0,2;g0,1,1;");
        while (x.count(4) < day) {
            x.dawn(Math.min(20, day - x.count(4)));
        }
        return x;
    }

    private static void notBeyond(VotedMap x, int n, int want) {
        int day = x.count(4);
        x.row(0, 0, -1);
        check.due(n + " dawns of DAY " + day, x.dawn(n), want);
        counts(x, "refused", 0, 2, 1, 0, day, 1, 0, 24, 0);
        check.due("status stays", x.status(), 4);
    }

    /** "FULL: beyond DAY 999"; BAD is ahead of it. */
    private static void lastDay() {
        check.due("20 of DAY 978", atDay(978).dawn(20), 1);
        check.due("20 of DAY 979", atDay(979).dawn(20), 1);
        VotedMap x = atDay(980);
        notBeyond(x, 20, FULL);
        notBeyond(x, 21, BAD);
        notBeyond(x, 0, BAD);
        notBeyond(x, Edges.MOST, BAD);
        notBeyond(x, Edges.LEAST, BAD);
        check.due("19 of DAY 980", x.dawn(19), 1);
        check.due("DAY", x.count(4), 999);
        notBeyond(x, 1, FULL);
        notBeyond(x, 20, FULL);
        notBeyond(x, 21, BAD);
        check.due("foretold all the same", x.ahead(60, 0), 1);
        check.due("turned all the same", x.turn(0), 0);
        check.due("undone", x.undo(), 23);
        check.due("undone", x.undo(), 22);
        check.due("DAY", x.count(4), 998);
        check.due("two of DAY 998", x.dawn(2), FULL);
        check.due("acts", x.count(7), 22);
        check.due("one of DAY 998", x.dawn(1), 1);
        Check.feed(x, "p2,0,0;");
        x.city();
        check.due("another city", x.dawn(20), 0);
    }

    /** "A GATE is TURNED: 1 it is open then, 0." */
    private static void turned() {
        VotedMap x = Check.city(Edges.CITY);
        int open = x.count(5);
        for (int g = 0; g < 8; g++) {
            int is = x.gate(g, 2);
            check.due("turn " + g, x.turn(g), 1 - is);
            check.due("is " + g, x.gate(g, 2), 1 - is);
        }
        check.due("all are turned", x.count(5), 255 - open);
        counts(x, "turned", 0, 6, 8, 5, 0, 255 - open, 0, 8, 0);
    }

    /** "A PERSON has another WISH: what it was." */
    private static void wished() {
        VotedMap x = Check.city(Edges.CITY);
        int[] was = {2, 24, 0, 8, 255};
        for (int p = 0; p < 5; p++) {
            check.due("wish of " + p, x.wish(p, 255), was[p]);
            check.due("wish of " + p, x.wish(p, 0), 255);
            check.due("wish of " + p, x.wish(p, 0), 0);
            check.due("it is", x.person(p, 2), 0);
        }
        counts(x, "wished", 0, 6, 8, 5, 0, 0b10100101, 0, 15, 0);
    }

    /** "also such by which nothing becomes another" */
    private static void dawnByWhichNothingChanges() {
        VotedMap x = Check.city("p2,0,2;g0,1,1;v0,0,1,5;");
        check.due("the like wish", x.wish(0, 1), 1);
        check.due("an act", x.count(7), 1);
        check.due("a dawn as it was", x.dawn(1), 1);
        check.due("an act", x.count(7), 2);
        x.turn(0);
        x.turn(0);
        check.due("two acts", x.count(7), 4);
        for (int left = 3; left >= 0; left--) {
            check.due("undone", x.undo(), left);
        }
        counts(x, "as at first", 0, 2, 1, 1, 0, 1, 0, 0, 0);
    }

    /** "24 at most are kept, of more the oldest is forgotten" */
    private static void acts24() {
        for (int acts = 22; acts <= 50; acts++) {
            VotedMap x = Check.city("p2,0,0;g0,1,0;g0,1,0;g0,1,0;g0,1,0;g0,1,0;g0,1,0;g0,1,0;g0,1,0;s0,0,0,0;");
            for (int k = 1; k <= acts; k++) {
                check.due("wish", x.wish(0, k), k - 1);
                check.due("kept", x.count(7), Math.min(24, k));
            }
            int kept = Math.min(24, acts);
            for (int left = kept - 1; left >= 0; left--) {
                check.due("undone", x.undo(), left);
                check.due("the latest first", x.person(0, 2), acts - kept + left);
            }
            check.due("none is left", x.undo(), STATE);
            check.due("it stays", x.person(0, 2), acts - kept);
            check.due("an act anew", x.turn(7), 1);
            check.due("undone", x.undo(), 0);
        }
    }

    private static void actsOfDawns() {
        VotedMap x = Check.city("p2,0,2;g0,1,1;");
        x.turn(0);
        x.dawn(20);
        x.dawn(3);
        check.due("24 acts", x.count(7), 24);
        for (int left = 23; left >= 1; left--) {
            check.due("a dawn undone", x.undo(), left);
            check.due("DAY", x.count(4), left - 1);
        }
        check.due("the turn undone", x.undo(), 0);
        check.due("open again", x.count(5), 1);
        x.turn(0);
        x.dawn(20);
        x.dawn(4);
        for (int left = 23; left >= 0; left--) {
            check.due("a dawn undone", x.undo(), left);
        }
        check.due("the turn is forgotten", x.undo(), STATE);
        check.due("shut for good", x.count(5), 0);
        check.due("DAY", x.count(4), 0);
    }

    /** "STATE: none"; each act is taken back whole: gates, wishes, vetoes, the day. */
    private static void undone() {
        VotedMap x = Check.city("p2,0,1;g0,1,0;g0,1,1;x0,0,0,0;v1,1,3,0;");
        check.due("none at first", x.undo(), STATE);
        x.turn(0);
        x.wish(0, 2);
        x.dawn(1);
        x.wish(1, 0);
        counts(x, "behind", 0, 2, 2, 2, 1, 2, 1, 4, 0);
        check.due("undo", x.undo(), 3);
        check.due("wish", x.person(1, 2), 3);
        counts(x, "wish undone", 0, 2, 2, 2, 1, 2, 1, 3, 0);
        check.due("undo", x.undo(), 2);
        check.due("VETO", x.person(0, 4), 0);
        counts(x, "dawn undone", 0, 2, 2, 2, 0, 3, 0, 2, 0);
        check.due("undo", x.undo(), 1);
        check.due("wish", x.person(0, 2), 0);
        check.due("undo", x.undo(), 0);
        counts(x, "all undone", 0, 2, 2, 2, 0, 2, 0, 0, 0);
        check.due("none", x.undo(), STATE);
        counts(x, "none undone", 0, 2, 2, 2, 0, 2, 0, 0, 0);
    }

    /** "The CITY is as an IMAGE kept it (no ACT can be undone then)" */
    private static void images() {
        VotedMap x = Check.city("p2,0,1;g0,1,0;g0,1,1;x0,0,0,0;");
        check.due("image 1", x.image(1), 1);
        check.due("restore 0", x.restore(0), STATE);
        x.wish(0, 1);
        x.dawn(2);
        check.due("image 0", x.image(0), 1);
        check.due("no act by it", x.count(7), 3);
        check.due("restore 1", x.restore(1), 1);
        counts(x, "restored", 0, 2, 2, 1, 0, 2, 0, 0, 0);
        check.due("wish", x.person(0, 2), 0);
        check.due("undo", x.undo(), STATE);
        x.turn(0);
        x.dawn(1);
        check.due("restore 1 again", x.restore(1), 1);
        counts(x, "restored again", 0, 2, 2, 1, 0, 2, 0, 0, 0);
        check.due("restore 0", x.restore(0), 1);
        counts(x, "restored", 0, 2, 2, 1, 2, 3, 1, 0, 0);
        check.due("wish", x.person(0, 2), 1);
        check.due("VETO", x.person(0, 4), 1);
        Check.feed(x, "p6,0,0;");
        x.city();
        check.due("in place of what was kept", x.image(0), 1);
        x.restore(1);
        x.restore(0);
        counts(x, "restored", 0, 6, 0, 0, 0, 0, 0, 0, 0);
        restoredRowsAndTape();
    }

    /** An image is of the CITY alone. */
    private static void restoredRowsAndTape() {
        VotedMap x = Edges.lived();
        int trace = x.trace(0);
        x.set(4, -1, 0);
        check.due("restore", x.restore(0), 1);
        check.due("rows stay", x.count(0), 5);
        check.due("the tape stays", x.count(8), 11);
        check.due("the fault stays", x.fault(), 2);
        check.due("the trace stays", x.trace(0), trace);
        check.due("status stays", x.status(), 2);
    }

    private static void imageOfTheLastDay() {
        VotedMap x = atDay(990);
        x.image(0);
        x.dawn(9);
        check.due("DAY 999", x.dawn(1), FULL);
        x.restore(0);
        check.due("ten of DAY 990", x.dawn(10), FULL);
        check.due("nine of DAY 990", x.dawn(9), 1);
    }
}
