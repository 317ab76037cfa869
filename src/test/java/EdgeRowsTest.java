/** The edges of part 1's ROWS and of promises 2 to 5 and 34. Lived objects (see Edges) have rows 0 to 4. */
final class EdgeRowsTest {
    private static final int BAD = Edges.BAD, LEAST = Edges.LEAST, MOST = Edges.MOST;
    private static final int NULL = Edges.NULL, PLACE = Edges.PLACE, SIZE = Edges.SIZE, STORE = Edges.STORE;
    private static final Check check = new Check("EdgeRowsTest");
    private static final Edges edges = new Edges(check);

    public static void main(String[] args) {
        missingAtFirst();
        rowNumbers();
        lanes();
        manyItems();
        emptyRow();
        fullRow();
        itemsAreNoughtAtFirst();
        inPlaceOfWhatIsThere();
        rowRefusals();
        lowestBits();
        setRefusals();
        copyPlaces();
        copyAsTheyWere();
        copyRefusals();
        dropRefusals();
        statusStays();
        statusIsTold();
        check.finish();
    }

    /** "ROWS 0 .. 7 are missing (at first)" */
    private static void missingAtFirst() {
        for (int row = 0; row < 8; row++) {
            int r = row;
            edges.refusedAtFirst("set " + r, NULL, x -> x.set(r, 0, 0));
            edges.refusedAtFirst("copy " + r, NULL, x -> x.copy(r, 0, r, 0, 0));
            edges.refusedAtFirst("drop " + r, NULL, x -> x.drop(r));
        }
        check.due("no ROW at first", new VotedMap().count(0), 0);
    }

    /** "ROWS 0 .. 7" */
    private static void rowNumbers() {
        edges.bounds("row of ROW", 0, 7, (x, r) -> x.row(r, 0, 1));
        for (int r : new int[] {LEAST, -1, 8, MOST}) {
            edges.refused("set of ROW " + r, BAD, x -> x.set(r, 0, 1));
            edges.refused("copy from ROW " + r, BAD, x -> x.copy(r, 0, 0, 0, 1));
            edges.refused("copy to ROW " + r, BAD, x -> x.copy(0, 0, r, 0, 1));
            edges.refused("drop of ROW " + r, BAD, x -> x.drop(r));
            edges.refusedAtFirst("set of ROW " + r, BAD, x -> x.set(r, 0, 1));
            edges.refusedAtFirst("drop of ROW " + r, BAD, x -> x.drop(r));
        }
        VotedMap x = new VotedMap();
        x.row(0, 1, 3);
        x.row(7, 1, 4);
        check.due("set in ROW 7", x.set(7, 3, 9), 9);
        check.due("copy from ROW 7 to ROW 0", x.copy(7, 3, 0, 2, 1), 1);
        check.due("copy from ROW 0 to ROW 7", x.copy(0, 0, 7, 0, 3), 3);
        check.due("drop of ROW 0", x.drop(0), 3);
        check.due("drop of ROW 7", x.drop(7), 4);
    }

    /** "a LANE (0 bytes, 1 shorts, 2 ints)" */
    private static void lanes() {
        edges.bounds("LANE", 0, 2, (x, lane) -> x.row(5, lane, 1));
        edges.bounds("LANE in place of what is there", 0, 2, (x, lane) -> x.row(0, lane, 1));
    }

    /** "0 to 40 ITEMS"; "BAD: .. n above 40; SIZE" */
    private static void manyItems() {
        edges.bounds("ITEMS", 0, 40, SIZE, BAD, (x, n) -> x.row(5, 1, n));
        edges.bounds("ITEMS in place of what is there", 0, 40, SIZE, BAD, (x, n) -> x.row(1, 1, n));
        for (int n = 0; n <= 40; n++) {
            VotedMap x = new VotedMap();
            check.due("row of " + n, x.row(3, 0, n), n);
            check.due("ROWS by it", x.count(0), 1);
            check.due("item " + n + " of " + n, x.set(3, n, 1), PLACE);
            check.due("drop of " + n, x.drop(3), n);
        }
    }

    private static void emptyRow() {
        edges.refused("set in an empty row", PLACE, x -> x.set(3, 0, 1));
        edges.refused("copy out of an empty row", PLACE, x -> x.copy(3, 0, 0, 0, 1));
        edges.refused("copy into an empty row", PLACE, x -> x.copy(0, 0, 3, 0, 1));
        edges.refused("copy of none from 1 on of an empty row", PLACE, x -> x.copy(3, 1, 0, 0, 0));
        VotedMap x = Edges.lived();
        check.due("copy of none within an empty row", x.copy(3, 0, 3, 0, 0), 0);
        check.due("copy of none out of an empty row", x.copy(3, 0, 0, 6, 0), 0);
        check.due("drop of an empty row", x.drop(3), 0);
        check.due("then it is missing", x.drop(3), NULL);
    }

    private static void fullRow() {
        edges.bounds("place of forty", 0, 39, PLACE, PLACE, (x, i) -> x.set(1, i, 1));
        VotedMap x = Edges.lived();
        x.row(6, 0, 40);
        check.due("forty items", x.copy(1, 0, 6, 0, 40), 40);
        check.due("forty within", x.copy(6, 0, 6, 0, 40), 40);
        check.due("the last alone", x.copy(1, 39, 6, 39, 1), 1);
        check.due("none at the end", x.copy(1, 40, 6, 40, 0), 0);
        check.due("drop", x.drop(1), 40);
    }

    /** All forty items as pairs (0, 0), of a person who is not glad with gate 0 shut alone. */
    private static int asPairs(VotedMap x, int row) {
        int first = x.opened(row, 0, 10, 0);
        return first == 1 ? x.opened(row, 20, 10, 0) : first;
    }

    /** "0 at first" */
    private static void itemsAreNoughtAtFirst() {
        for (int lane = 0; lane <= 2; lane++) {
            VotedMap x = Check.city("p2,0,0;g0,1,0;s0,1,0,0;");
            x.row(4, lane, 40);
            check.due("forty noughts of lane " + lane, asPairs(x, 4), 1);
            for (int i = 0; i < 40; i++) {
                x.set(4, i, -1);
            }
            check.due("no noughts of lane " + lane, asPairs(x, 4), BAD);
            x.row(4, lane, 40);
            check.due("noughts in place of what was there", asPairs(x, 4), 1);
            x.set(4, 39, 7);
            x.drop(4);
            x.row(4, lane, 1);
            x.row(4, lane, 40);
            check.due("noughts behind a drop and a shorter one", asPairs(x, 4), 1);
        }
    }

    /** "in place of what is there" */
    private static void inPlaceOfWhatIsThere() {
        VotedMap x = new VotedMap();
        x.row(2, 0, 40);
        check.due("a byte", x.set(2, 1, 300), 44);
        check.due("ints of two", x.row(2, 2, 2), 2);
        check.due("as many ROWS", x.count(0), 1);
        check.due("an int", x.set(2, 1, 300), 300);
        check.due("no third", x.set(2, 2, 300), PLACE);
        check.due("shorts of none", x.row(2, 1, 0), 0);
        check.due("it is there yet", x.count(0), 1);
        check.due("none of it", x.drop(2), 0);
    }

    /** "BAD: ROW, LANE, n above 40; SIZE": BAD is ahead of a finding. */
    private static void rowRefusals() {
        for (int n : new int[] {-1, LEAST}) {
            edges.refused("ROW ahead of SIZE", BAD, x -> x.row(8, 0, n));
            edges.refused("ROW ahead of SIZE", BAD, x -> x.row(-1, 0, n));
            edges.refused("LANE ahead of SIZE", BAD, x -> x.row(0, 3, n));
            edges.refused("LANE ahead of SIZE", BAD, x -> x.row(0, -1, n));
            edges.refusedAtFirst("SIZE", SIZE, x -> x.row(0, 0, n));
        }
        edges.refused("all of it", BAD, x -> x.row(8, 3, 41));
    }

    /** "its lowest bits, as many as the LANE has (read with their sign): what it is then" */
    private static void lowestBits() {
        VotedMap x = new VotedMap();
        for (int lane = 0; lane <= 2; lane++) {
            x.row(lane, lane, 1);
        }
        int[][] bytes = {{127, 127}, {128, -128}, {129, -127}, {255, -1}, {256, 0}, {-1, -1}, {-128, -128},
            {-129, 127}, {-256, 0}, {MOST, -1}, {LEAST, 0}, {32767, -1}, {32768, 0}, {384, -128}};
        for (int[] b : bytes) {
            check.due("byte " + b[0], x.set(0, 0, b[0]), b[1]);
        }
        int[][] shorts = {{128, 128}, {32767, 32767}, {32768, -32768}, {65535, -1}, {65536, 0}, {-32768, -32768},
            {-32769, 32767}, {-65536, 0}, {MOST, -1}, {LEAST, 0}, {98304, -32768}};
        for (int[] s : shorts) {
            check.due("short " + s[0], x.set(1, 0, s[0]), s[1]);
        }
        for (int i : new int[] {0, -1, 128, 32768, 65536, MOST, LEAST, BAD, PLACE}) {
            check.due("int " + i, x.set(2, 0, i), i);
            check.due("no finding by " + i, x.status(), 0);
        }
        keptAsCut();
    }

    /** What stands there then is the cut one: pairs (v, 1) of a person 0 or -1. */
    private static void keptAsCut() {
        VotedMap x = Check.city("p2,0,0;s0,0,0,0;");
        for (int lane = 0; lane <= 2; lane++) {
            x.row(0, lane, 2);
            x.set(0, 1, 1);
            x.set(0, 0, 256);
            check.due("256 in lane " + lane, x.opened(0, 0, 1, 0), lane == 0 ? 1 : BAD);
            x.set(0, 0, 65536);
            check.due("65536 in lane " + lane, x.opened(0, 0, 1, 0), lane < 2 ? 1 : BAD);
            x.set(0, 0, 255);
            check.due("255 in lane " + lane, x.opened(0, 0, 1, 0), BAD);
        }
    }

    /** "BAD: ROW; NULL; PLACE" */
    private static void setRefusals() {
        edges.bounds("place of six", 0, 5, PLACE, PLACE, (x, i) -> x.set(0, i, 1));
        edges.bounds("place of two", 0, 1, PLACE, PLACE, (x, i) -> x.set(2, i, 1));
        for (int i : new int[] {LEAST, -1, 0, 40, MOST}) {
            edges.refused("a missing ROW, place " + i, NULL, x -> x.set(5, i, 1));
            edges.refused("ROW 8, place " + i, BAD, x -> x.set(8, i, 1));
            edges.refused("ROW -1, place " + i, BAD, x -> x.set(-1, i, 1));
        }
    }

    /** "PLACE (i, j, n below 0, or beyond an end)": of ints, row 0 has six and row 4 four. */
    private static void copyPlaces() {
        for (int n = 0; n <= 4; n++) {
            int many = n;
            edges.bounds("copy i of " + n, 0, 6 - n, PLACE, PLACE, (x, i) -> x.copy(0, i, 4, 0, many));
            edges.bounds("copy j of " + n, 0, 4 - n, PLACE, PLACE, (x, j) -> x.copy(0, 0, 4, j, many));
        }
        edges.bounds("copy n to four", 0, 4, PLACE, PLACE, (x, n) -> x.copy(0, 0, 4, 0, n));
        edges.bounds("copy n of four", 0, 4, PLACE, PLACE, (x, n) -> x.copy(4, 0, 0, 0, n));
        edges.bounds("copy n within six", 0, 6, PLACE, PLACE, (x, n) -> x.copy(0, 0, 0, 0, n));
        edges.bounds("copy n from 2 on", 0, 4, PLACE, PLACE, (x, n) -> x.copy(0, 2, 0, 0, n));
        edges.bounds("copy n to 5 on", 0, 1, PLACE, PLACE, (x, n) -> x.copy(0, 0, 0, 5, n));
        edges.refused("all three least", PLACE, x -> x.copy(0, LEAST, 0, LEAST, LEAST));
        edges.refused("all three most", PLACE, x -> x.copy(0, MOST, 0, MOST, MOST));
        edges.refused("i + n would wrap around", PLACE, x -> x.copy(0, MOST, 0, 0, 2));
        edges.refused("j + n would wrap around", PLACE, x -> x.copy(0, 0, 0, MOST, 2));
        edges.refused("i + n would be 0", PLACE, x -> x.copy(0, 6, 0, 6, -6));
        edges.refused("i -1 with n 0", PLACE, x -> x.copy(0, -1, 0, 0, 0));
        edges.refused("j -1 with n 0", PLACE, x -> x.copy(0, 0, 0, -1, 0));
    }

    /** The items of a row, each a person of the city who is glad by a gate of his own. */
    private static String items(VotedMap x, int row, int lane, int n) {
        StringBuilder text = new StringBuilder();
        x.row(7, lane, 2);
        for (int i = 0; i < n; i++) {
            x.copy(row, i, 7, 0, 1);
            x.set(7, 1, 1);
            int gate = x.opened(7, 0, 1, 1);
            text.append(gate > 0 ? "" + Integer.numberOfTrailingZeros(gate) : "?");
        }
        return text.toString();
    }

    private static VotedMap withItems(int lane) {
        VotedMap x = Check.city("p6,0,0;g0,1,0;g0,2,0;g0,3,0;g0,4,0;g0,5,0;"
            + "s0,1,0,0;s0,2,0,0;s0,3,0,0;s0,4,0,0;s0,5,0,0;");
        x.row(0, lane, 8);
        x.row(1, lane, 4);
        for (int i = 0; i < 8; i++) {
            x.set(0, i, Math.min(i, 8 - i));
        }
        return x;
    }

    private static void copied(int lane, int[] call, String a, String b) {
        VotedMap x = withItems(lane);
        check.due("copy", x.copy(call[0], call[1], call[2], call[3], call[4]), call[4]);
        boolean as = items(x, 0, lane, 8).equals(a) && items(x, 1, lane, 4).equals(b);
        check.due("items " + a + " " + b + " of lane " + lane + ", not " + items(x, 0, lane, 8) + " "
            + items(x, 1, lane, 4), as ? 1 : 0, 1);
    }

    /** "as they were ahead": where both are within one row, too; all other items stay. */
    private static void copyAsTheyWere() {
        for (int lane = 0; lane <= 2; lane++) {
            copied(lane, new int[] {0, 0, 0, 0, 0}, "01234321", "0000");
            copied(lane, new int[] {0, 8, 1, 4, 0}, "01234321", "0000");
            copied(lane, new int[] {0, 0, 0, 0, 8}, "01234321", "0000");
            copied(lane, new int[] {0, 0, 0, 1, 7}, "00123432", "0000");
            copied(lane, new int[] {0, 1, 0, 0, 7}, "12343211", "0000");
            copied(lane, new int[] {0, 0, 0, 3, 5}, "01201234", "0000");
            copied(lane, new int[] {0, 3, 0, 0, 5}, "34321321", "0000");
            copied(lane, new int[] {0, 4, 1, 0, 4}, "01234321", "4321");
            copied(lane, new int[] {0, 4, 1, 1, 2}, "01234321", "0430");
            copied(lane, new int[] {1, 0, 0, 2, 4}, "01000021", "0000");
            copied(lane, new int[] {0, 7, 1, 3, 1}, "01234321", "0001");
        }
    }

    /** "BAD: ROWS; NULL; STORE; PLACE": the first of these that fits; row 1 is bytes, row 0 ints, row 5 is missing. */
    private static void copyRefusals() {
        edges.refused("ROW a ahead of NULL", BAD, x -> x.copy(8, 0, 5, 0, 1));
        edges.refused("ROW b ahead of NULL", BAD, x -> x.copy(5, 0, 8, 0, 1));
        edges.refused("ROW ahead of PLACE", BAD, x -> x.copy(0, -1, -1, -1, -1));
        edges.refused("a is missing", NULL, x -> x.copy(5, 0, 0, 0, 1));
        edges.refused("b is missing", NULL, x -> x.copy(0, 0, 5, 0, 1));
        edges.refused("both are missing", NULL, x -> x.copy(5, 0, 6, 0, 0));
        edges.refused("NULL ahead of PLACE, a", NULL, x -> x.copy(5, -1, 0, MOST, -1));
        edges.refused("NULL ahead of PLACE, b", NULL, x -> x.copy(0, LEAST, 5, 0, 41));
        edges.refused("bytes to ints", STORE, x -> x.copy(1, 0, 0, 0, 1));
        edges.refused("ints to bytes", STORE, x -> x.copy(0, 0, 1, 0, 1));
        edges.refused("shorts to ints", STORE, x -> x.copy(2, 0, 0, 0, 1));
        edges.refused("bytes to shorts", STORE, x -> x.copy(1, 0, 2, 0, 1));
        edges.refused("STORE of no items", STORE, x -> x.copy(1, 0, 3, 0, 0));
        edges.refused("STORE ahead of PLACE", STORE, x -> x.copy(1, -1, 0, -1, -1));
        edges.refused("STORE ahead of PLACE", STORE, x -> x.copy(0, 0, 2, 0, 41));
    }

    /** "BAD; NULL" */
    private static void dropRefusals() {
        edges.refused("a missing ROW", NULL, x -> x.drop(5));
        edges.refused("a missing ROW", NULL, x -> x.drop(7));
        VotedMap x = new VotedMap();
        x.row(0, 0, 40);
        x.drop(0);
        check.due("dropped: set", x.set(0, 0, 1), NULL);
        check.due("dropped: copy", x.copy(0, 0, 0, 0, 0), NULL);
        check.due("dropped: drop", x.drop(0), NULL);
        check.due("no ROWS", x.count(0), 0);
    }

    private static void statusIs(VotedMap x, String behind, int want) {
        check.due("status() behind " + behind, x.status(), want);
    }

    /** "Of the latest call with a ROW, or as(), that was not BAD, STATE, FULL: the number of its FINDING" */
    private static void statusIsTold() {
        VotedMap x = new VotedMap();
        statusIs(x, "nothing: there was none", 0);
        x.row(0, 0, -1);
        statusIs(x, "SIZE", 4);
        x.row(0, 0, 0);
        statusIs(x, "a row", 0);
        x.copy(0, 0, 1, 0, 0);
        statusIs(x, "NULL of a copy", 1);
        x.copy(0, 0, 0, 0, 0);
        statusIs(x, "a copy", 0);
        x.copy(0, 0, 0, 0, 1);
        statusIs(x, "PLACE of a copy", 2);
        x.row(1, 1, 1);
        statusIs(x, "a row", 0);
        x.copy(0, 0, 1, 0, 0);
        statusIs(x, "STORE", 5);
        x.set(1, 0, 7);
        statusIs(x, "a set", 0);
        x.set(1, 1, 7);
        statusIs(x, "PLACE of a set", 2);
        x.drop(1);
        statusIs(x, "a drop", 0);
        x.drop(1);
        statusIs(x, "NULL of a drop", 1);
    }

    /** Calls without a ROW, and those that are BAD, STATE, FULL, leave it. */
    private static void statusStays() {
        for (int status = 0; status <= 4; status += 4) {
            VotedMap x = Check.city("p2,0,1;g0,1,0;g0,1,1;x0,1,0,3;v0,0,3,9;");
            x.row(0, 0, 4 - 5 * status / 4);
            x.feed('p');
            x.city();
            x.fault();
            x.turn(0);
            x.wish(0, 1);
            x.dawn(1);
            x.undo();
            x.image(0);
            x.restore(0);
            x.undo();
            x.dawn(0);
            told(x);
            x.row(8, 0, 1);
            x.row(1, 0, 41);
            x.set(8, 0, 0);
            x.copy(8, 0, 0, 0, 0);
            x.drop(-1);
            x.opened(0, 0, 11, 0);
            x.as(2, 0);
            statusIs(x, "what leaves it", status);
        }
    }

    private static void told(VotedMap x) {
        x.person(0, 0);
        x.gate(0, 0);
        x.reach(0);
        x.steps(0, 0);
        x.votes(0, 0);
        x.ahead(1, 0);
        x.round(0);
        x.won(0, 0, 0);
        x.kept(0, 1, 0);
        x.swap(0, 1);
        x.best(0);
        x.laws(1, 0);
        x.sold(0);
        x.kind(0);
        x.ask(0, 0);
        x.trace(0);
        x.count(0);
        x.status();
    }
}
