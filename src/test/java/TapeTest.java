/** Promises 6 to 8: the tape, the reading of it, its faults. */
final class TapeTest {
    private static final int FAULTS = -1000100;
    private static final Check check = new Check("TapeTest");
    private static final String FAIR =
        "p5,1,2;g0,1,1;g1,2,0;g2,3,1;g3,4,0;g0,3,0;v0,2,2,5;w4,0,24,3;m1,3,0,4;x2,4,12,6;s3,1,31,9;";

    public static void main(String[] args) {
        feeding();
        fair();
        heads();
        gates();
        people();
        room();
        cutOff();
        strayBytes();
        oneBeforeStays();
        check.finish();
    }

    private static void feeding() {
        VotedMap x = new VotedMap();
        check.due("feed(-1)", x.feed(-1), VotedMap.BAD);
        check.due("feed(256)", x.feed(256), VotedMap.BAD);
        check.due("feed(0)", x.feed(0), 1);
        check.due("feed(255)", x.feed(255), 2);
        for (int i = 3; i <= 160; i++) {
            check.due("feed " + i, x.feed('p'), i);
        }
        check.due("feed 161", x.feed('p'), VotedMap.FULL);
        check.due("BAD ahead of FULL", x.feed(256), VotedMap.BAD);
        check.due("count(8)", x.count(8), 160);
        check.due("city()", x.city(), FAULTS);
        check.due("count(8)", x.count(8), 0);
        check.due("feed", x.feed('p'), 1);
    }

    private static void fault(String text, int number, int place) {
        VotedMap x = new VotedMap();
        Check.feed(x, text);
        check.due("city of " + text, x.city(), FAULTS - place);
        check.due("fault of " + text, x.fault(), number);
        check.due("no tape behind " + text, x.count(8), 0);
        check.due("no city by " + text, x.count(1), 0);
    }

    private static void read(String text, int plots, int gates, int people) {
        VotedMap x = new VotedMap();
        Check.feed(x, text);
        check.due("city of " + text, x.city(), plots);
        check.due("plots of " + text, x.count(1), plots);
        check.due("gates of " + text, x.count(2), gates);
        check.due("people of " + text, x.count(3), people);
        check.due("no tape behind " + text, x.count(8), 0);
        check.due("no fault of " + text, x.fault(), 0);
    }

    private static void fair() {
        read(FAIR, 5, 5, 5);
        read("p2,0,0;", 2, 0, 0);
        read("p6,3,2;", 6, 0, 0);
        read("p002,003,01;g00,001,000;v01,0,001,020;", 2, 1, 1);
        read("p2,0,0;v1,1,0,20;", 2, 0, 1);
        read("p6,0,0;g5,4,1;m5,5,1,0;", 6, 1, 1);
    }

    private static void heads() {
        fault("", 1, 0);
        fault("P2,0,0;", 1, 0);
        fault(" p2,0,0;", 1, 0);
        fault("2,0,0;", 1, 0);
        fault("g0,1,1;", 1, 0);
        fault("p,0,0;", 1, 1);
        fault("p1,0,0;", 2, 1);
        fault("p7,0,0;", 2, 1);
        fault("p999,0,0;", 2, 1);
        fault("p0002,0,0;", 1, 1);
        fault("p99999999999,0,0;", 1, 1);
        fault("p2;0,0;", 1, 2);
        fault("p2 ,0,0;", 1, 2);
        fault("p2,-1,0;", 1, 3);
        fault("p2,4,0;", 2, 3);
        fault("p2,0,3;", 2, 5);
        fault("p2,0,0,", 1, 6);
        fault("p2,0,0;p", 1, 7);
        fault("p2,0,0;;", 1, 7);
        fault("p2,0,0;0", 1, 7);
        fault("p2,0,0;G0,1,1;", 1, 7);
        fault("p2,0,0; ", 1, 7);
        fault("p4,0004,9;", 1, 3);
    }

    private static void gates() {
        fault("p3,0,0;g3,1,1;", 2, 8);
        fault("p3,0,0;g0,3,1;", 2, 10);
        fault("p3,0,0;g2,2,1;", 2, 10);
        fault("p3,0,0;g2,02,7;", 2, 10);
        fault("p3,0,0;g2,0002,7;", 1, 10);
        fault("p3,0,0;g0,1,2;", 2, 12);
        fault("p3,0,0;g0,1,1,", 1, 13);
        fault("p3,0,0;g0,1;", 1, 11);
        fault("p3,0,0;gg0,1,1;", 1, 8);
        fault("p3,0,0;g9,9,9;", 2, 8);
    }

    private static void people() {
        String head = "p3,0,0;g0,1,1;g1,2,1;";
        fault(head + "v3,0,0,0;", 2, 22);
        fault(head + "w0,3,0,0;", 2, 24);
        fault(head + "m0,0,4,0;", 2, 26);
        fault(head + "x0,0,3,21;", 2, 28);
        fault(head + "s0,0,3,0", 1, 29);
        fault(head + "a0,0,3,0;", 1, 21);
        fault(head + "v0,0,3;", 1, 27);
        fault(head + "v0,0,3,20;g0,1,1;", 1, 31);
        fault(head + "v0,0,3,20;v", 1, 32);
        fault("p3,0,0;v0,0,1,0;", 2, 12);
        fault("p3,0,0;v0,0,0,0;0", 1, 16);
    }

    private static void room() {
        StringBuilder text = new StringBuilder("p2,0,0;");
        for (int g = 0; g < 8; g++) {
            text.append("g0,1,1;");
        }
        String eight = text.toString();
        read(eight, 2, 8, 0);
        fault(eight + "g0,1,1;", 3, 63);
        fault(eight + "g", 3, 63);
        fault(eight + "v0,0,256,0;", 2, 68);
        for (int p = 0; p < 5; p++) {
            text.append("s1,0,255,9;");
        }
        read(text.toString(), 2, 8, 5);
        fault(text + "v0,0,0,0;", 3, 118);
        fault(text + "s", 3, 118);
        fault(text + "g", 1, 118);
        fault(text + "z", 1, 118);
        fault(text + "0", 1, 118);
    }

    private static void cutOff() {
        for (int n = 0; n < FAIR.length(); n++) {
            boolean whole = n > 0 && FAIR.charAt(n - 1) == ';';
            VotedMap x = new VotedMap();
            Check.feed(x, FAIR.substring(0, n));
            check.due("city of the first " + n, x.city(), whole ? 5 : FAULTS - n);
            check.due("fault of the first " + n, x.fault(), whole ? 0 : 1);
        }
    }

    private static void strayBytes() {
        int[] strays = {0, ' ', 'a', 'Z', '/', ':', '-', 127, 255};
        for (int i = 0; i < FAIR.length(); i++) {
            for (int stray : strays) {
                VotedMap x = new VotedMap();
                Check.feed(x, FAIR.substring(0, i) + (char) stray + FAIR.substring(i + 1));
                check.due("city with " + stray + " at " + i, x.city(), FAULTS - i);
                check.due("fault with " + stray + " at " + i, x.fault(), 1);
            }
        }
    }

    private static void oneBeforeStays() {
        VotedMap x = Check.city(FAIR);
        x.dawn(2);
        x.turn(0);
        x.row(3, 1, 4);
        x.image(1);
        int open = x.count(5);
        Check.feed(x, "p3,0,0;g0,1,1;v0,9");
        check.due("a fault", x.city(), FAULTS - 17);
        check.due("its number", x.fault(), 2);
        check.due("plots stay", x.count(1), 5);
        check.due("gates stay", x.count(2), 5);
        check.due("people stay", x.count(3), 5);
        check.due("the day stays", x.count(4), 2);
        check.due("open gates stay", x.count(5), open);
        check.due("acts stay", x.count(7), 3);
        check.due("a plot stays", x.gate(1, 1), 2);
        check.due("a wish stays", x.person(1, 2), 24);
        Check.feed(x, "p3,0,0;g0,1,1;v0,2,1,9;");
        check.due("another city", x.city(), 3);
        check.due("the fault stays told", x.fault(), 2);
        check.due("day 0", x.count(4), 0);
        check.due("no veto spent", x.count(6), 0);
        check.due("no act", x.count(7), 0);
        check.due("undo", x.undo(), VotedMap.STATE);
        check.due("rows stay", x.count(0), 1);
        check.due("images stay", x.restore(1), 1);
        check.due("as it was kept", x.count(5), open);
        check.due("with its day", x.count(4), 2);
    }
}
