import java.util.LinkedHashMap;
import java.util.Map;
import java.util.function.Consumer;
import java.util.regex.Pattern;

/**
 * "Nothing is promised beyond the answers and state changes described above": what each call that is taken leaves as
 * it was, of all that Told tells. (What refused calls leave is looked at in the Edge tests.)
 */
final class StaysTest {
    private static final Check check = new Check("StaysTest");
    private static final String ACT = "acts|undone";
    private static final String THEN = "|mornings|votes";
    private static final String DAWN = "day|open|spent|who has spent his|gate by gate|reach, steps|" + ACT + THEN;
    private static final String CITY = "how many plots, gates, people|kinds|homes|errands|wishes|weights"
        + "|first plots|second plots|" + DAWN;
    private static final String TAPE = "bytes|tape .*";
    private static final Consumer<VotedMap> LIVED = x -> {
        Edges.live(x);
        x.turn(1);
        // the vetoer shuts gate 1: a VETO is SPENT, which calls may leave so or not
        x.dawn(1);
    };
    private static final Map<String, String> before = parts(LIVED);

    public static void main(String[] args) {
        spent();
        rows();
        texts();
        acts();
        images();
        looks();
        foretold();
        asked();
        check.finish();
    }

    private static Map<String, String> parts(Consumer<VotedMap> made) {
        Map<String, String> parts = new LinkedHashMap<>();
        for (String line : Told.all(made).split("\n")) {
            int end = line.indexOf(':');
            if (end >= 0 && parts.put(line.substring(0, end), line.substring(end)) != null) {
                throw new IllegalStateException("two parts bear the title of " + line);
            }
        }
        return parts;
    }

    /** The call, behind a finding, may alter just the parts whose titles fit, and alters one of them at least. */
    private static void alters(String call, String fits, Consumer<VotedMap> made) {
        Map<String, String> behind = parts(LIVED.andThen(made));
        Map<String, String> all = new LinkedHashMap<>(before);
        all.putAll(behind);
        Pattern may = Pattern.compile(fits);
        int others = 0;
        for (String title : all.keySet()) {
            boolean alike = behind.getOrDefault(title, "none").equals(before.getOrDefault(title, "none"));
            if (!alike && may.matcher(title).matches()) {
                others++;
            } else {
                check.due(title + " behind " + call + " is as it was", alike ? 1 : 0, 1);
            }
        }
        check.due("something is another behind " + call, others > 0 ? 1 : 0, fits.isEmpty() ? 0 : 1);
    }

    private static void statusBehind(String call, int want, Consumer<VotedMap> made) {
        VotedMap x = new VotedMap();
        LIVED.accept(x);
        x.row(7, 0, -1);
        made.accept(x);
        check.due("status() behind " + call, x.status(), want);
    }

    private static void withoutRow(String call, String fits, Consumer<VotedMap> made) {
        alters(call, fits, made);
        statusBehind(call, 4, made);
    }

    private static void withRow(String call, String fits, Consumer<VotedMap> made) {
        alters(call, fits, made);
        statusBehind(call, 0, made);
    }

    private static void spent() {
        VotedMap x = new VotedMap();
        LIVED.accept(x);
        check.due("whose VETO is SPENT", x.count(6), 8);
        check.due("DAY", x.count(4), 3);
    }

    private static void rows() {
        withRow("a new row", "row 5|how many rows", x -> x.row(5, 1, 40));
        withRow("a row in place of one", "row 0", x -> x.row(0, 2, 6));
        withRow("a row of another lane", "row 3", x -> x.row(3, 0, 0));
        withRow("set", "row 0", x -> x.set(0, 5, 0));
        withRow("set of a byte", "row 1", x -> x.set(1, 39, 0));
        withRow("the like set", "", x -> x.set(0, 5, 2));
        withRow("copy", "row 4", x -> x.copy(0, 0, 4, 1, 3));
        withRow("copy within a row", "row 1", x -> x.copy(1, 0, 1, 20, 20));
        withRow("copy of none", "", x -> x.copy(0, 6, 4, 4, 0));
        withRow("drop", "row 1|how many rows", x -> x.drop(1));
        withRow("drop of an empty row", "row 3|how many rows", x -> x.drop(3));
    }

    private static void texts() {
        withoutRow("feed", TAPE, x -> x.feed(','));
        Consumer<VotedMap> end = x -> Check.feed(x, ",1;s1,2,1,20;");
        withoutRow("a city that is read", CITY + "|" + TAPE, end.andThen(x -> x.city()));
        withoutRow("a fault", "fault|" + TAPE, x -> x.city());
    }

    private static void acts() {
        withoutRow("a dawn", DAWN, x -> x.dawn(1));
        withoutRow("twenty dawns", DAWN, x -> x.dawn(20));
        for (int g = 0; g < 8; g++) {
            int gate = g;
            withoutRow("turn " + g, "open|gate by gate|reach, steps|" + ACT + THEN, x -> x.turn(gate));
        }
        for (int p = 0; p < 5; p++) {
            int person = p;
            withoutRow("wish of " + p, "wishes|" + ACT + THEN, x -> x.wish(person, 77));
            withoutRow("the like wish of " + p, ACT, x -> x.wish(person, x.person(person, 2)));
        }
        withoutRow("a dawn undone", DAWN, x -> x.undo());
        Consumer<VotedMap> undone = x -> x.undo();
        withoutRow("two dawns undone", DAWN, undone.andThen(x -> x.undo()));
        withoutRow("turned and undone", "", x -> {
            x.turn(4);
            x.undo();
        });
        withoutRow("wished and undone", "", x -> {
            x.wish(2, 9);
            x.undo();
        });
        withoutRow("dawned and undone", "", x -> {
            x.dawn(2);
            x.undo();
            x.undo();
        });
    }

    private static void images() {
        withoutRow("an image anew", "image 0 .*", x -> x.image(0));
        withoutRow("the other image", "image 1 .*", x -> x.image(1));
        withoutRow("an image restored", CITY, x -> x.restore(0));
        withoutRow("an image of now restored", ACT + "|image 1 .*", x -> {
            x.image(1);
            x.restore(1);
        });
    }

    /** Of all numbers, those that are taken and those that are not. */
    private static void looks() {
        withoutRow("what is told", "", x -> {
            for (int a = -1; a <= 9; a++) {
                x.reach(a);
                x.kind(a);
                x.trace(a);
                x.count(a);
                x.fault();
                x.status();
                for (int b = -1; b <= 9; b++) {
                    x.person(a, b);
                    x.gate(a, b);
                    x.steps(a, b);
                    x.votes(a, b);
                }
            }
        });
    }

    /** "FORETOLD (nothing changes ..)" */
    private static void foretold() {
        for (int k = 0; k <= 2; k++) {
            int what = k;
            withoutRow("ahead, round, laws " + what, "", x -> {
                x.round(what);
                for (int n = 0; n <= 60; n++) {
                    x.ahead(n, what);
                    x.laws(n, what);
                }
            });
            withoutRow("won, kept " + what, "", x -> {
                for (int gate = 0; gate < 8; gate++) {
                    for (int n = 0; n <= 10; n++) {
                        x.won(gate, n, what);
                        x.kept(gate, n, what);
                    }
                }
            });
            withRow("opened " + what, "", x -> {
                for (int n = 0; n <= 10; n++) {
                    x.opened(1, 0, n, what);
                }
            });
        }
        withoutRow("swap, best", "", x -> {
            for (int a = 0; a < 5; a++) {
                x.best(a);
                for (int b = 0; b < 5; b++) {
                    x.swap(a, b);
                }
            }
        });
        withoutRow("sold", "", x -> {
            for (int gates = 0; gates <= 255; gates++) {
                x.sold(gates);
            }
        });
    }

    private static void asked() {
        for (int p = 0; p < 5; p++) {
            int person = p;
            // the trace of lived objects is that of person 1's size
            withoutRow("size of " + p, p == 1 ? "" : "trace", x -> x.ask(person, 0));
            withoutRow("mark of " + p, "trace", x -> x.ask(person, 1));
            withRow("as a person " + p, "", x -> x.as(person, 0));
            withRow("as what he is " + p, "", x -> x.as(person, x.kind(person)));
        }
    }
}
