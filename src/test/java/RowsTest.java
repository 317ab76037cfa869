/** Promises 1 (in part), 2 to 5, and 34 of the rows' calls. */
final class RowsTest {
    private static final int BAD = VotedMap.BAD;
    private static final int NULL = -1000011, PLACE = -1000012, SIZE = -1000014, STORE = -1000015;
    private static final Check check = new Check("RowsTest");

    public static void main(String[] args) {
        constants();
        making();
        setting();
        copying();
        copyingRefused();
        dropping();
        statusOfRows();
        check.finish();
    }

    private static void constants() {
        check.due("NONE", VotedMap.NONE, -1000000);
        check.due("BAD", VotedMap.BAD, -1000001);
        check.due("STATE", VotedMap.STATE, -1000002);
        check.due("FULL", VotedMap.FULL, -1000003);
    }

    private static void making() {
        VotedMap x = new VotedMap();
        for (int i = 0; i < 8; i++) {
            check.due("row(" + i + ")", x.row(i, i % 3, i * 5), i * 5);
            check.due("count(0)", x.count(0), i + 1);
        }
        check.due("row 40", x.row(0, 0, 40), 40);
        check.due("row 0 items", x.row(0, 0, 0), 0);
        check.due("rows stay as many", x.count(0), 8);
        check.due("no item 0", x.set(0, 0, 1), PLACE);
        check.due("row 8", x.row(8, 0, 1), BAD);
        check.due("row -1", x.row(-1, 0, 1), BAD);
        check.due("lane -1", x.row(0, -1, 1), BAD);
        check.due("lane 3", x.row(0, 3, 1), BAD);
        check.due("41 items", x.row(0, 0, 41), BAD);
        check.due("-1 items", x.row(0, 0, -1), SIZE);
        check.due("least items", x.row(0, 0, Integer.MIN_VALUE), SIZE);
        check.due("lane ahead of SIZE", x.row(0, 3, -1), BAD);
        check.due("row ahead of SIZE", x.row(8, 0, -1), BAD);
        check.due("what is there stays", x.drop(0), 0);
    }

    private static void setting() {
        VotedMap x = new VotedMap();
        x.row(0, 0, 3);
        x.row(1, 1, 3);
        x.row(2, 2, 3);
        check.due("byte 127", x.set(0, 0, 127), 127);
        check.due("byte 128", x.set(0, 0, 128), -128);
        check.due("byte 256", x.set(0, 0, 256), 0);
        check.due("byte -129", x.set(0, 0, -129), 127);
        check.due("short 32767", x.set(1, 1, 32767), 32767);
        check.due("short 32768", x.set(1, 1, 32768), -32768);
        check.due("short 65536", x.set(1, 1, 65536), 0);
        check.due("int least", x.set(2, 2, Integer.MIN_VALUE), Integer.MIN_VALUE);
        check.due("int most", x.set(2, 2, Integer.MAX_VALUE), Integer.MAX_VALUE);
        check.due("item 3", x.set(0, 3, 1), PLACE);
        check.due("item -1", x.set(0, -1, 1), PLACE);
        check.due("row 3 is missing", x.set(3, 0, 1), NULL);
        check.due("row 3, item -1", x.set(3, -1, 1), NULL);
        check.due("row 8", x.set(8, 0, 1), BAD);
        check.due("row -1", x.set(-1, 0, 1), BAD);
    }

    /** Items are told by opened(): a person who is always glad, and whether he is. */
    private static VotedMap withGlad() {
        VotedMap x = Check.city("p2,0,0;g0,1,0;v0,0,0,0;v0,1,0,0;");
        x.row(0, 2, 8);
        x.row(1, 2, 4);
        return x;
    }

    private static void fill(VotedMap x, int row, int... items) {
        for (int i = 0; i < items.length; i++) {
            x.set(row, i, items[i]);
        }
    }

    private static void copying() {
        VotedMap x = withGlad();
        fill(x, 0, 1, 1, 7, 7, 7, 7, 7, 7);
        check.due("copy onwards", x.copy(0, 0, 0, 2, 6), 6);
        check.due("as they were ahead: 1 1 1 1 7 7 7 7", x.opened(0, 0, 2, 0), 1);
        check.due("no more than they were", x.opened(0, 0, 3, 0), BAD);
        fill(x, 0, 7, 7, 1, 1, 1, 0, 7, 7);
        check.due("copy back", x.copy(0, 2, 0, 0, 4), 4);
        check.due("1 1 1 0 1 0 7 7", x.opened(0, 0, 1, 0), 1);
        check.due("1 1 1 0: none", x.opened(0, 0, 2, 0), 0);
        check.due("1 0", x.opened(0, 2, 2, 0), 1);
        check.due("to another row", x.copy(0, 2, 1, 1, 2), 2);
        check.due("0 1 0 0 there: it has 1 0 from 1 on", x.opened(1, 1, 1, 0), 1);
        check.due("it is the shut one", x.opened(1, 1, 1, 2), 1);
        check.due("ahead of it there is 0", x.set(1, 0, 0), 0);
        check.due("none at the end", x.copy(0, 8, 1, 4, 0), 0);
    }

    private static void copyingRefused() {
        VotedMap x = new VotedMap();
        x.row(0, 0, 4);
        x.row(1, 0, 2);
        x.row(2, 1, 2);
        check.due("a 8", x.copy(8, 0, 0, 0, 1), BAD);
        check.due("a -1", x.copy(-1, 0, 0, 0, 1), BAD);
        check.due("b 8", x.copy(0, 0, 8, 0, 1), BAD);
        check.due("b -1", x.copy(0, 0, -1, 0, 1), BAD);
        check.due("BAD ahead of NULL", x.copy(7, 0, 8, 0, 1), BAD);
        check.due("a missing", x.copy(7, -1, 2, 0, 1), NULL);
        check.due("b missing", x.copy(0, -1, 7, 0, 1), NULL);
        check.due("STORE ahead of PLACE", x.copy(0, -1, 2, 9, -1), STORE);
        check.due("i -1", x.copy(0, -1, 1, 0, 1), PLACE);
        check.due("j -1", x.copy(0, 0, 1, -1, 1), PLACE);
        check.due("n -1", x.copy(0, 1, 1, 1, -1), PLACE);
        check.due("beyond a", x.copy(1, 1, 0, 0, 2), PLACE);
        check.due("beyond b", x.copy(0, 0, 1, 1, 2), PLACE);
        check.due("all of b", x.copy(0, 2, 1, 0, 2), 2);
        check.due("i 5, n 0", x.copy(0, 5, 1, 0, 0), PLACE);
        check.due("j 3, n 0", x.copy(0, 0, 1, 3, 0), PLACE);
        check.due("most", x.copy(0, 1, 1, 0, Integer.MAX_VALUE), PLACE);
        check.due("most i", x.copy(0, Integer.MAX_VALUE, 1, 0, 1), PLACE);
    }

    private static void dropping() {
        VotedMap x = new VotedMap();
        x.row(4, 1, 17);
        check.due("drop", x.drop(4), 17);
        check.due("count(0)", x.count(0), 0);
        check.due("drop again", x.drop(4), NULL);
        check.due("drop 8", x.drop(8), BAD);
        check.due("drop -1", x.drop(-1), BAD);
        check.due("row anew", x.row(4, 0, 1), 1);
        check.due("drop anew", x.drop(4), 1);
        VotedMap y = withGlad();
        fill(y, 0, 1, 1, 1, 1, 1, 1, 1, 1);
        y.drop(0);
        y.row(0, 2, 8);
        check.due("items are 0 again", y.opened(0, 0, 4, 0), 0);
        fill(y, 0, 1, 1, 1, 1, 1, 1, 1, 1);
        y.row(0, 2, 8);
        check.due("items are 0 in place of what was there", y.opened(0, 2, 1, 0), 0);
    }

    private static void statusOfRows() {
        VotedMap x = new VotedMap();
        check.due("at first", x.status(), 0);
        x.set(0, 0, 0);
        check.due("NULL", x.status(), 1);
        x.row(0, 3, 1);
        x.feed(300);
        x.feed('p');
        x.count(0);
        check.due("BAD and calls without a ROW leave it", x.status(), 1);
        x.row(0, 0, 2);
        check.due("none", x.status(), 0);
        x.set(0, 2, 0);
        check.due("PLACE", x.status(), 2);
        x.set(0, 1, 0);
        check.due("none", x.status(), 0);
        x.row(1, 2, -5);
        check.due("SIZE", x.status(), 4);
        x.row(1, 2, 2);
        x.copy(0, 0, 1, 0, 1);
        check.due("STORE", x.status(), 5);
        x.copy(0, 0, 0, 1, 1);
        check.due("none", x.status(), 0);
        x.drop(7);
        check.due("NULL", x.status(), 1);
        x.opened(0, 0, 0, 0);
        check.due("STATE leaves it", x.status(), 1);
        x.drop(1);
        check.due("none", x.status(), 0);
        statusOfCity();
    }

    private static void statusOfCity() {
        VotedMap y = withGlad();
        y.opened(7, 0, 0, 0);
        check.due("NULL of opened", y.status(), 1);
        fill(y, 0, 9, 9);
        y.opened(7, 0, 0, 0);
        y.opened(0, 0, 1, 0);
        check.due("a pair that is none is BAD", y.status(), 1);
        y.opened(0, 0, 0, 0);
        check.due("none", y.status(), 0);
        y.opened(0, 8, 1, 0);
        check.due("PLACE of opened", y.status(), 2);
        fill(y, 0, 0, 0);
        check.due("NONE is no finding", y.opened(0, 0, 1, 1), VotedMap.NONE);
        check.due("none", y.status(), 0);
        y.as(0, 5);
        check.due("KIND", y.status(), 3);
        y.as(9, 5);
        y.as(0, 6);
        y.kind(0);
        y.ask(0, 0);
        check.due("KIND yet", y.status(), 3);
        y.as(0, 1);
        check.due("none", y.status(), 0);
    }
}
