import java.util.function.Consumer;

/** All that can be told of an object. Some looks alter it: each is at a new object, made by the same calls. */
final class Told {
    /** Person k of it is glad if gate k is open: thus an item that names him is read by opened(). */
    private static final String STAR =
        "p6,0,0;g0,1,0;g0,2,0;g0,3,0;g0,4,0;g0,5,0;s0,1,0,0;s0,2,0,0;s0,3,0,0;s0,4,0,0;s0,5,0,0;";

    private final StringBuilder text = new StringBuilder();
    /** Ahead of each title: an image has parts that bear the names of the city's. */
    private String of = "";

    private Told() {
    }

    /** All but status(): a line for each part, with a title of its own. */
    static String all(Consumer<VotedMap> made) {
        Told t = new Told();
        t.lookAt(made);
        t.tape(madeBy(made));
        return t.text.toString();
    }

    /** All but status(), fault() and the tape. */
    static String allButTape(Consumer<VotedMap> made) {
        Told t = new Told();
        t.lookAt(made);
        return t.text.toString();
    }

    private void lookAt(Consumer<VotedMap> made) {
        city(madeBy(made));
        undone(madeBy(made));
        images(madeBy(made));
        for (int row = 0; row < 8; row++) {
            row(made, row);
        }
    }

    private static VotedMap madeBy(Consumer<VotedMap> made) {
        VotedMap x = new VotedMap();
        made.accept(x);
        return x;
    }

    private void add(int answer) {
        text.append(answer).append(' ');
    }

    private void title(String part) {
        text.append('\n').append(of).append(part).append(": ");
    }

    private void city(VotedMap x) {
        title("trace");
        for (int i = -1; i <= 16; i++) {
            add(x.trace(i));
        }
        title("how many rows");
        add(x.count(0));
        plan(x);
        votes(x);
    }

    private void plan(VotedMap x) {
        title("how many plots, gates, people");
        for (int what = 1; what <= 3; what++) {
            add(x.count(what));
        }
        title("day");
        add(x.count(4));
        title("open");
        add(x.count(5));
        title("spent");
        add(x.count(6));
        people(x);
        gates(x);
        title("mornings");
        for (int n = 0; n <= 5; n++) {
            add(x.ahead(n, 0));
        }
    }

    private void people(VotedMap x) {
        title("kinds");
        for (int p = 0; p < x.count(3); p++) {
            add(x.kind(p));
        }
        String[] parts = {"homes", "errands", "wishes", "weights", "who has spent his"};
        for (int what = 0; what <= 4; what++) {
            title(parts[what]);
            for (int p = 0; p < x.count(3); p++) {
                add(x.person(p, what));
            }
        }
    }

    private void gates(VotedMap x) {
        String[] parts = {"first plots", "second plots", "gate by gate"};
        for (int what = 0; what <= 2; what++) {
            title(parts[what]);
            for (int g = 0; g < x.count(2); g++) {
                add(x.gate(g, what));
            }
        }
    }

    private void votes(VotedMap x) {
        title("votes");
        for (int g = 0; g < x.count(2); g++) {
            add(x.votes(g, 0));
            add(x.votes(g, 1));
        }
        title("reach, steps");
        for (int plot = 0; plot < x.count(1); plot++) {
            add(x.reach(plot));
        }
        for (int p = 0; p < x.count(3); p++) {
            for (int g = 0; g < x.count(2); g++) {
                add(x.steps(p, g));
            }
        }
    }

    private void undone(VotedMap x) {
        title("acts");
        add(x.count(7));
        title("undone");
        for (int left = x.count(7); left >= 0; left--) {
            add(x.undo());
            add(x.count(4));
            add(x.count(5));
            add(x.count(6));
            for (int p = 0; p < 5; p++) {
                add(x.person(p, 2));
            }
        }
    }

    private void images(VotedMap x) {
        for (int k = 0; k <= 1; k++) {
            of = "image " + k + " ";
            title("restored");
            int restored = x.restore(k);
            add(restored);
            if (restored == 1) {
                plan(x);
            }
        }
        of = "";
    }

    private void row(Consumer<VotedMap> made, int row) {
        VotedMap x = madeBy(made);
        title("row " + row);
        int other = (row + 1) % 8;
        for (int lane = 0; lane <= 2; lane++) {
            x.row(other, lane, 0);
            add(x.copy(row, 0, other, 0, 0));
        }
        int items = x.drop(row);
        add(items);
        if (items >= 1) {
            firstItem(madeBy(made), row);
            furtherItems(madeBy(made), row, items);
        }
    }

    private static void readStar(VotedMap x) {
        x.city();
        Check.feed(x, STAR);
        x.city();
    }

    /** The item that stands at the row's first place, with a 1 behind it. */
    private void told(VotedMap x, int row) {
        x.set(row, 1, 1);
        add(x.opened(row, 0, 1, 1));
    }

    private void firstItem(VotedMap x, int row) {
        readStar(x);
        told(x, row);
    }

    private void furtherItems(VotedMap x, int row, int items) {
        readStar(x);
        for (int i = 1; i < items; i++) {
            x.copy(row, i, row, 0, 1);
            told(x, row);
        }
    }

    /** The bytes on the tape: how many, and what they would be with an end. */
    private void tape(VotedMap x) {
        title("fault");
        add(x.fault());
        title("bytes");
        add(x.count(8));
        of = "tape ";
        Check.feed(x, ",1;");
        title("read");
        int read = x.city();
        add(read);
        add(x.fault());
        if (read > 0) {
            plan(x);
        }
    }
}
