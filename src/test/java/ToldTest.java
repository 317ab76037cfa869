import java.util.function.Consumer;

/** That Told, by which refused calls are looked at, sees whatever can become another. */
final class ToldTest {
    private static final Check check = new Check("ToldTest");
    private static String before;

    public static void main(String[] args) {
        before = Told.all(Edges::live);
        seen("nothing", 0, x -> { });
        seen("status", 0, x -> x.row(0, 0, -1));
        seen("an item of ints", 1, x -> x.set(0, 3, 0));
        seen("the first item", 1, x -> x.set(0, 0, 0));
        seen("the last of forty bytes", 1, x -> x.set(1, 39, 0));
        seen("an item of shorts", 1, x -> x.set(2, 1, 0));
        seen("the lane of an empty row", 1, x -> x.row(3, 1, 0));
        seen("an empty row dropped", 1, x -> x.drop(3));
        seen("a new row", 1, x -> x.row(7, 0, 0));
        seen("a byte", 1, x -> x.feed(','));
        seen("the tape read", 1, x -> x.city());
        seen("a turned gate", 1, x -> x.turn(7));
        seen("a dawn", 1, x -> x.dawn(1));
        seen("another wish", 1, x -> x.wish(4, 0));
        seen("the like wish", 1, x -> x.wish(4, 255));
        seen("an act undone", 1, x -> x.undo());
        seen("an image anew", 1, x -> x.image(0));
        seen("the other image", 1, x -> x.image(1));
        seen("the image restored", 1, x -> x.restore(0));
        seen("an ask", 1, x -> x.ask(0, 0));
        check.finish();
    }

    private static void seen(String what, int want, Consumer<VotedMap> more) {
        Consumer<VotedMap> lived = Edges::live;
        check.due(what, Told.all(lived.andThen(more)).equals(before) ? 0 : 1, want);
    }
}
