/** The edges of part 1's TEXTS and FAULTS, and of promises 6 to 8. */
final class EdgeTextsTest {
    private static final int FAULTS = -1000100;
    private static final Check check = new Check("EdgeTextsTest");
    private static final Edges edges = new Edges(check);
    /** Exactly as many bytes as the tape has room for. */
    private static final String LONGEST = "p006,03,02;g000,01,1;g0,01,1;g0,1,01;g00,1,1;g1,2,000;g02,03,1;g3,004,0;g4,05,001;"
        + "v000,000,255,020;w001,002,128,19;m005,005,064,00;x00,5,000,000;s05,04,255,020;";

    public static void main(String[] args) {
        bytes();
        tapeIsFull();
        tapeIsEmpty();
        tapeIsRead();
        plots();
        near();
        tie();
        gatePlots();
        unlikePlots();
        gateIs();
        homesAndErrands();
        wishes();
        weights();
        figures();
        eightGates();
        fivePeople();
        lettersAndSigns();
        noBlanks();
        nothingTold();
        leastOfOneToken();
        firstToken();
        theEnd();
        allStays();
        faultIsTold();
        inPlaceOfTheOneBefore();
        check.finish();
    }

    private static VotedMap fed(String text) {
        VotedMap x = new VotedMap();
        Check.feed(x, text);
        return x;
    }

    private static void fault(String text, int number, int place) {
        VotedMap x = fed(text);
        check.due("city of " + text, x.city(), FAULTS - place);
        check.due("fault of " + text, x.fault(), number);
        check.due("tape behind " + text, x.count(8), 0);
    }

    private static VotedMap read(String text, int plots) {
        VotedMap x = fed(text);
        check.due("city of " + text, x.city(), plots);
        check.due("fault of " + text, x.fault(), 0);
        check.due("tape behind " + text, x.count(8), 0);
        return x;
    }

    /** "A byte (0 to 255)" */
    private static void bytes() {
        edges.bounds("feed", 0, 255, VotedMap::feed);
        for (int letter : new int[] {Edges.LEAST, -1, 256, Edges.MOST}) {
            edges.refusedAtFirst("feed " + letter, Edges.BAD, x -> x.feed(letter));
        }
    }

    private static VotedMap withTape(int bytes) {
        VotedMap x = new VotedMap();
        for (int i = 1; i <= bytes; i++) {
            check.due("byte " + i, x.feed(';'), i);
        }
        return x;
    }

    /** "THE TAPE has at most 160 bytes"; "BAD; FULL": BAD is ahead. */
    private static void tapeIsFull() {
        VotedMap x = withTape(159);
        check.due("byte 160", x.feed(0), 160);
        for (int letter : new int[] {0, ';', 255}) {
            check.due("byte 161", x.feed(letter), Edges.FULL);
        }
        for (int letter : new int[] {Edges.LEAST, -1, 256, Edges.MOST}) {
            check.due("byte 161, none", x.feed(letter), Edges.BAD);
        }
        check.due("bytes", x.count(8), 160);
        check.due("no finding", x.status(), 0);
        check.due("no fault", x.fault(), 0);
        check.due("city", x.city(), FAULTS);
        check.due("room anew", x.feed('p'), 1);
    }

    /** A byte that finds no room stands nowhere: the text is as it was. */
    private static void tapeIsRead() {
        check.due("bytes of the longest", LONGEST.length(), 160);
        VotedMap x = read(LONGEST, 6);
        check.due("gates", x.count(2), 8);
        check.due("people", x.count(3), 5);
        check.due("open gates", x.count(5), 0b10101111);
        check.due("the last errand", x.person(4, 1), 4);
        check.due("the last wish", x.person(4, 2), 255);
        check.due("the last weight", x.person(4, 3), 20);
        VotedMap y = fed(LONGEST);
        check.due("no room", y.feed('z'), Edges.FULL);
        check.due("city", y.city(), 6);
        fault(LONGEST.substring(0, 159) + ",", 1, 159);
        fault(LONGEST.substring(0, 6) + "0" + LONGEST.substring(6, 159), 1, 160);
    }

    /** The empty tape: its end stands at 0. */
    private static void tapeIsEmpty() {
        fault("", 1, 0);
        VotedMap x = read("p2,0,0;", 2);
        check.due("the tape is empty then", x.city(), FAULTS);
        check.due("its fault", x.fault(), 1);
        check.due("the city stays", x.count(1), 2);
    }

    /** A NUMBER between what is ahead of it and what is behind it. */
    private static void number(String ahead, String behind, int least, int most) {
        int plots = ahead.length() > 1 ? ahead.charAt(1) - '0' : -1;
        for (int k : new int[] {least, most}) {
            for (String form : new String[] {"" + k, String.format("%02d", k), String.format("%03d", k)}) {
                read(ahead + form + behind, plots < 0 ? k : plots);
            }
        }
        int at = ahead.length();
        for (int k = 0; k < least; k++) {
            fault(ahead + k + behind, 2, at);
            fault(ahead + "00" + k + behind, 2, at);
        }
        fault(ahead + (most + 1) + behind, 2, at);
        fault(ahead + "999" + behind, 2, at);
        fault(ahead + "-1" + behind, 1, at);
        fault(ahead + behind, 1, at);
        fault(ahead + "000" + least + behind, 1, at);
        fault(ahead + "1000" + behind, 1, at);
        fault(ahead + "4294967298" + behind, 1, at);
        fault(ahead, 1, at);
    }

    /** "PLOTS 2 to 6" */
    private static void plots() {
        number("p", ",0,0;", 2, 6);
    }

    /** "NEAR 0 to 3" */
    private static void near() {
        number("p2,", ",0;", 0, 3);
        // by one step off, two, three
        for (int near = 0; near <= 3; near++) {
            VotedMap x = read("p5," + near + ",0;g0,1,1;g1,2,1;g2,3,1;g3,4,1;v0,0,0,9;", 5);
            for (int g = 0; g < 4; g++) {
                check.due("by NEAR " + near + " at " + g, x.votes(g, 1), g <= near ? 9 - g : 0);
            }
        }
    }

    /** "TIE 0 to 2" */
    private static void tie() {
        number("p2,0,", ";", 0, 2);
        int[] then = {0, 3, 2};
        for (int tie = 0; tie <= 2; tie++) {
            check.due("by TIE " + tie, read("p2,0," + tie + ";g0,1,0;g0,1,1;", 2).dawn(1), then[tie]);
        }
    }

    /** "from 0 on": the last PLOT is one less than there are. */
    private static void gatePlots() {
        for (int p = 2; p <= 6; p++) {
            String head = "p" + p + ",0,0;";
            number(head + "g0,", ",0;", 1, p - 1);
            fault(head + "g" + p + ",0,0;", 2, 8);
            fault(head + "g999,0,0;", 2, 8);
            fault(head + "g,0,0;", 1, 8);
            fault(head + "g0000,1,0;", 1, 8);
            VotedMap x = read(head + "g" + (p - 1) + ",0,1;g0,00" + (p - 1) + ",0;", p);
            check.due("A of gate 0", x.gate(0, 0), p - 1);
            check.due("B of gate 0", x.gate(0, 1), 0);
            check.due("A of gate 1", x.gate(1, 0), 0);
            check.due("B of gate 1", x.gate(1, 1), p - 1);
        }
    }

    /** "unlike PLOTS": the second NUMBER is not as told. */
    private static void unlikePlots() {
        for (int p = 0; p < 6; p++) {
            fault("p6,0,0;g" + p + "," + p + ",1;", 2, 10);
            fault("p6,0,0;g0" + p + ",00" + p + ",1;", 2, 11);
            fault("p6,0,0;g" + p + ",000" + p + ",1;", 1, 10);
        }
        fault("p6,0,0;g6,6,1;", 2, 8);
        fault("p6,0,0;g0,0", 2, 10);
        read("p2,0,0;g0,1,1;g0,1,1;g1,0,1;", 2);
    }

    /** "IS 1: open, 0: shut" */
    private static void gateIs() {
        number("p2,0,0;g0,1,", ";", 0, 1);
        VotedMap x = read("p2,0,0;g0,1,0;g0,1,1;g0,1,000;g0,1,001;", 2);
        check.due("open ones", x.count(5), 10);
        for (int g = 0; g < 4; g++) {
            check.due("gate " + g, x.gate(g, 2), g % 2);
        }
    }

    /** "PLOTS told" */
    private static void homesAndErrands() {
        for (char sort : "vwmxs".toCharArray()) {
            for (int p = 2; p <= 6; p += 2) {
                String head = "p" + p + ",0,0;" + sort;
                number(head, ",0,0,0;", 0, p - 1);
                number(head + "0,", ",0,0;", 0, p - 1);
                VotedMap x = read(head + (p - 1) + ",0,0,0;" + sort + "0," + (p - 1) + ",0,0;", p);
                check.due("home of 0", x.person(0, 0), p - 1);
                check.due("errand of 1", x.person(1, 1), p - 1);
                check.due("who is at his errand", read(head + "1,1,0,0;", p).ahead(0, 2), 1);
            }
        }
    }

    /** "0 to the bits of all GATES" */
    private static void wishes() {
        StringBuilder gates = new StringBuilder("p2,0,0;");
        for (int g = 0; g <= 8; g++) {
            int all = (1 << g) - 1;
            number(gates + "s0,0,", ",0;", 0, all);
            check.due("wish of all " + g, read(gates + "v0,0," + all + ",0;", 2).person(0, 2), all);
            gates.append("g0,1,0;");
        }
    }

    /** "0 to 20" */
    private static void weights() {
        for (char sort : "vwmxs".toCharArray()) {
            number("p2,0,0;" + sort + "0,0,0,", ";", 0, 20);
            for (int k = 0; k <= 20; k++) {
                check.due("weight " + k, read("p2,0,0;" + sort + "0,0,0," + k + ";", 2).person(0, 3), k);
            }
        }
    }

    /** "NUMBERS (figures, 3 at most)"; "a run of four figures or more, at its first" */
    private static void figures() {
        read("p002,000,000;", 2);
        fault("p0002,0,0;", 1, 1);
        fault("p2,0,0000;", 1, 5);
        fault("p20000,0,0;", 1, 1);
        fault("p2,0,0;0", 1, 7);
        fault("p2,0,0;0000", 1, 7);
        fault("p2,0,00000000000000000000000000000000000000", 1, 5);
        fault("p2,0,0;v0,0,0,0020;", 1, 14);
        fault("p2,0,0;v0,0,0,2", 1, 15);
        fault("p2,0,0;v0,0,0,2020", 1, 14);
        fault("2222", 1, 0);
        fault("p2 0,0,0;", 1, 2);
    }

    private static String gates(int many) {
        StringBuilder text = new StringBuilder("p2,0,0;");
        for (int g = 0; g < many; g++) {
            text.append("g0,1,1;");
        }
        return text.toString();
    }

    private static String people(String ahead, int many) {
        StringBuilder text = new StringBuilder(ahead);
        for (int p = 0; p < many; p++) {
            text.append("vwmxs".charAt(p % 5)).append("0,1,0,0;");
        }
        return text.toString();
    }

    /** "GATES 0 .. 7, 8 at most"; "a gate .. more than there is room for (its letter)" */
    private static void eightGates() {
        for (int g = 0; g <= 8; g++) {
            check.due("gates", read(gates(g), 2).count(2), g);
        }
        fault(gates(9), 3, 63);
        fault(gates(8) + "g", 3, 63);
        fault(gates(8) + "gg", 3, 63);
        fault(gates(8) + "g9,9,9;", 3, 63);
        fault(gates(8) + "g0000", 3, 63);
        fault(gates(7) + "g9,9,9;", 2, 57);
        check.due("people behind eight", read(people(gates(8), 1), 2).count(3), 1);
    }

    /** "PEOPLE 0 .. 4, 5 at most"; "a person more than there is room for (its letter)" */
    private static void fivePeople() {
        for (int p = 0; p <= 5; p++) {
            check.due("people", read(people("p2,0,0;", p), 2).count(3), p);
            check.due("people behind gates", read(people(gates(8), p), 2).count(3), p);
        }
        String five = people("p2,0,0;", 5);
        for (char sort : "vwmxs".toCharArray()) {
            fault(five + sort, 3, 52);
            fault(five + sort + "0,1,0,0;", 3, 52);
            fault(five + sort + "9,9,9,99;", 3, 52);
        }
        fault(people("p2,0,0;", 4) + "v9,9,9,99;", 2, 44);
    }

    private static void ofByte(String ahead, int letter, String may) {
        boolean fits = letter < 128 && may.indexOf((char) letter) >= 0;
        fault(ahead + (char) letter, 1, fits ? ahead.length() + 1 : ahead.length());
    }

    /** "letters a to z (each by itself)", "SIGNS , and ; nothing else": of all bytes, what can stand there. */
    private static void lettersAndSigns() {
        for (int letter = 0; letter < 256; letter++) {
            ofByte("", letter, "p");
            ofByte("p2,0,0;", letter, "gvwmxs");
            ofByte("p2,0,0;g0,1,1;", letter, "gvwmxs");
            ofByte("p2,0,0;g0,1,1;s0,0,0,0;", letter, "vwmxs");
            if (letter < '0' || letter > '9') {
                ofByte("p", letter, "");
                ofByte("p2,0,", letter, "");
                ofByte("p2,0,0;v", letter, "");
                ofByte("p2", letter, ",");
                ofByte("p2,0", letter, ",");
                ofByte("p2,0,0;g0,1", letter, ",");
                ofByte("p2,0,0;v0,0,0", letter, ",");
            }
        }
        fault("p2,0,0,", 1, 6);
        fault("p2,0,0;v0,0,0,0,", 1, 15);
        fault("pp2,0,0;", 1, 1);
        fault("P2,0,0;", 1, 0);
        fault("p2,0,0;p2,0,0;", 1, 7);
        fault("p2,0,0;vw0,0,0,0;", 1, 8);
    }

    /** "no blanks" */
    private static void noBlanks() {
        String text = "p2,0,0;g0,1,1;s0,1,1,9;";
        for (int at = 0; at <= text.length(); at++) {
            for (char blank : new char[] {' ', '\n', '\t', '\r', 0}) {
                String spoilt = text.substring(0, at) + blank + text.substring(at);
                fault(spoilt, 1, at);
            }
        }
    }

    /** The least texts: no gates, no people. */
    private static void nothingTold() {
        VotedMap x = read("p2,0,0;", 2);
        check.due("gates", x.count(2), 0);
        check.due("people", x.count(3), 0);
        check.due("people without gates", read("p2,0,0;s1,0,0,0;", 2).count(3), 1);
        check.due("gates without people", read("p2,0,0;g1,0,0;", 2).count(2), 1);
    }

    /** "of one TOKEN the least" */
    private static void leastOfOneToken() {
        String full = people(gates(8), 5);
        fault(full + "g", 1, full.length());
        fault(full + "0", 1, full.length());
        fault(full + "z", 1, full.length());
        fault(full + ";", 1, full.length());
        fault(full + "v", 3, full.length());
        fault(people(gates(8), 1) + "g", 1, 72);
        fault("p9999,0,0;", 1, 1);
        fault("9,0,0;", 1, 0);
        fault("p2,0,0;g1,1111,0;", 1, 10);
    }

    /** "the first TOKEN that has one (its first byte)" */
    private static void firstToken() {
        fault("p7,4,3.", 2, 1);
        fault("p2,4,3.", 2, 3);
        fault("p2,0,3.", 2, 5);
        fault("p2,0,0.g9", 1, 6);
        fault("p2,0,0;g2,2,2;", 2, 8);
        fault("p2,0,0;g1,2,2;", 2, 10);
        fault("p2,0,0;g1,0,2;", 2, 12);
        fault("p2,0,0;v002,999,256,21", 2, 8);
        fault("p2,0,0;v001,999,256,21", 2, 12);
        fault("p2,0,0;v001,001,256,21", 2, 16);
        fault("p2,0,0;v001,001,000,21", 2, 20);
        fault("p2,0,0;v001,001,000,20", 1, 22);
    }

    /** "the end: how many bytes there are" */
    private static void theEnd() {
        for (int n = 0; n <= Edges.CITY.length(); n++) {
            String text = Edges.CITY.substring(0, n);
            if (text.endsWith(";")) {
                read(text, 6);
            } else {
                fault(text, 1, n);
            }
        }
    }

    private static int faulty(VotedMap x, String text) {
        while (x.count(8) > 0) {
            x.city();
        }
        Check.feed(x, text);
        return x.city();
    }

    /** "all stays, but the tape is empty then, and fault() tells this one" */
    private static void allStays() {
        String before = Told.allButTape(Edges::live);
        String[] texts = {"", "z", "p7", "p2,0,0;g0,0", gates(9), people(gates(8), 5) + "v",
            "p2,3,1;g0,1,1;g0,1,0;x1,0,3,20;s0,0,21"};
        for (String text : texts) {
            VotedMap x = Edges.lived();
            x.row(7, 0, -1);
            check.due("a FAULT by " + text, faulty(x, text) <= FAULTS ? 1 : 0, 1);
            check.due("status stays", x.status(), 4);
            check.due("the tape is empty", x.count(8), 0);
            String behind = Told.allButTape(y -> {
                Edges.live(y);
                faulty(y, text);
            });
            check.due("all stays by " + text, behind.equals(before) ? 1 : 0, 1);
        }
    }

    private static void faults(VotedMap x, String text, int want) {
        Check.feed(x, text);
        x.city();
        check.due("fault() behind " + text, x.fault(), want);
    }

    /** "The number of the latest FAULT; 0 before one." */
    private static void faultIsTold() {
        VotedMap x = new VotedMap();
        check.due("fault() before one", x.fault(), 0);
        faults(x, "p2,0,0;", 0);
        faults(x, gates(9), 3);
        faults(x, "p2,0,0;", 3);
        faults(x, "p1", 2);
        x.feed(256);
        x.turn(0);
        x.restore(0);
        faults(x, "p3,0,0;", 2);
        faults(x, "", 1);
        check.due("the city that was read stays", x.count(1), 3);
    }

    /** "A CITY that is read stands in place of the one before: DAY 0, no VETO is SPENT; no ACT can be undone; .." */
    private static void inPlaceOfTheOneBefore() {
        VotedMap x = Check.city("p6,3,1;g0,5,1;g5,4,1;x0,0,0,0;x5,5,0,0;s4,3,3,9;");
        x.dawn(3);
        x.row(7, 2, 40);
        x.image(1);
        check.due("vetoes spent before", x.count(6), 3);
        Check.feed(x, "p2,0,0;g1,0,0;v1,0,1,1;m1,1,1,1;");
        check.due("another city", x.city(), 2);
        int[] counts = {1, 2, 1, 2, 0, 0, 0, 0, 0};
        for (int what = 0; what <= 8; what++) {
            check.due("count " + what, x.count(what), counts[what]);
        }
        check.due("no ACT", x.undo(), Edges.STATE);
        check.due("no gate 1", x.gate(1, 0), Edges.BAD);
        check.due("no plot 2", x.reach(2), Edges.BAD);
        check.due("no person 2", x.kind(2), Edges.BAD);
        check.due("no VETO of who has the like number", x.person(1, 4), 0);
        check.due("by its own TIE", x.ahead(1, 0), 0);
        check.due("IMAGES stay", x.restore(1), 1);
        check.due("with VETOES", x.count(6), 3);
        check.due("and DAY", x.count(4), 3);
        check.due("ROWS stay", x.drop(7), 40);
        noActByTheLikeCity();
        likeGatesElsewhere();
    }

    /** The like gates are open in both, but between other plots. */
    private static void likeGatesElsewhere() {
        VotedMap x = Check.city("p4,3,0;g0,1,1;g1,2,1;v0,0,0,9;");
        check.due("steps", x.steps(0, 1), 1);
        check.due("ahead", x.ahead(1, 0), 0);
        x.image(0);
        Check.feed(x, "p4,0,0;g1,0,1;g2,3,1;v2,0,2,9;");
        x.city();
        check.due("steps in place of these", x.steps(0, 1), 0);
        check.due("no steps in place of these", x.steps(0, 0), Edges.NONE);
        check.due("votes", x.votes(1, 0), 9);
        check.due("ahead", x.ahead(1, 0), 2);
        x.restore(0);
        check.due("steps as they were", x.steps(0, 1), 1);
        check.due("votes as they were", x.votes(0, 1), 9);
    }

    private static void noActByTheLikeCity() {
        VotedMap x = Edges.lived();
        x.city();
        Check.feed(x, Edges.CITY);
        check.due("the like city anew", x.city(), 6);
        check.due("no ACT", x.count(7), 0);
        check.due("DAY 0", x.count(4), 0);
        check.due("wishes as told", x.person(0, 2), 2);
        check.due("gates as told", x.count(5), 0b10100101);
    }
}
