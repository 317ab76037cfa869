import java.util.ArrayList;
import java.util.List;
import java.util.function.Consumer;
import java.util.function.ToIntFunction;

/** Refused calls: what they answer, and that nothing but status() is another behind them. */
final class Edges {
    static final int LEAST = Integer.MIN_VALUE, MOST = Integer.MAX_VALUE;
    static final int BAD = VotedMap.BAD, STATE = VotedMap.STATE, FULL = VotedMap.FULL, NONE = VotedMap.NONE;
    static final int NULL = -1000011, PLACE = -1000012, KIND = -1000013, SIZE = -1000014, STORE = -1000015;

    /** Eight gates, six plots, one of each kind of people: a voter, a walled one, a follower, a vetoer, a stranger. */
    static final String CITY = "p6,1,2;g0,1,1;g1,2,0;g2,3,1;g3,4,0;g0,3,0;g4,5,1;g5,0,0;g1,4,1;"
        + "v0,2,2,5;w4,0,24,3;m1,3,0,4;x2,4,8,6;s3,1,255,20;";

    /** A call that is told one number that has edges. */
    interface NumberCall {
        int on(VotedMap x, int number);
    }

    /** How an object came to be as it is ahead of the call, and what is told of it then. */
    private static final class Beginning {
        final Consumer<VotedMap> made;
        final String told;

        Beginning(Consumer<VotedMap> made) {
            this.made = made;
            told = Told.all(made);
        }
    }

    private final Check check;
    private final List<Beginning> late = new ArrayList<>();
    private final List<Beginning> early = new ArrayList<>();

    Edges(Check check) {
        this.check = check;
        Consumer<VotedMap> lived = Edges::live;
        late.add(new Beginning(lived.andThen(x -> x.set(0, 0, 1))));
        late.add(new Beginning(lived.andThen(x -> x.row(7, 0, -1))));
        late.add(new Beginning(lived.andThen(x -> x.set(0, -1, 1))));
        early.add(new Beginning(x -> { }));
        early.add(new Beginning(x -> x.drop(0)));
    }

    /** Rows 0 to 4, image 0, four acts, a trace, a fault and a half text; rows 5 to 7, image 1 are missing. */
    static void live(VotedMap x) {
        Check.feed(x, "p3,0,2;g1,2,1;g0,1,1;s2,1,1,4;x1,0,0,2;");
        x.city();
        x.dawn(1);
        x.image(0);
        Check.feed(x, "p7");
        x.city();
        Check.feed(x, CITY);
        x.city();
        x.wish(0, 3);
        x.turn(3);
        x.dawn(2);
        x.row(0, 2, 6);
        x.row(1, 0, 40);
        x.row(2, 1, 2);
        x.row(3, 2, 0);
        x.row(4, 2, 4);
        for (int i = 0; i < 40; i++) {
            // ten pairs that opened() takes, ahead of such as are none
            x.set(1, i, i < 20 ? i % 2 == 0 ? i / 2 % 5 : i / 2 % 2 : i % 5);
        }
        for (int i = 0; i < 6; i++) {
            x.set(0, i, 1 + i % 4);
        }
        x.set(2, 0, 3);
        x.set(2, 1, 2);
        x.ask(1, 0);
        Check.feed(x, "p3,2,1;g0,2");
    }

    /** An object that has lived so, and had no finding in its latest call with a row. */
    static VotedMap lived() {
        VotedMap x = new VotedMap();
        live(x);
        x.set(0, 0, 1);
        return x;
    }

    void refused(String call, int want, ToIntFunction<VotedMap> made) {
        for (Beginning b : late) {
            refusedFrom(b, call, want, made);
        }
    }

    /** Refused by an object that has no city, no row, no image yet. */
    void refusedAtFirst(String call, int want, ToIntFunction<VotedMap> made) {
        for (Beginning b : early) {
            refusedFrom(b, "at first " + call, want, made);
        }
    }

    private void refusedFrom(Beginning b, String call, int want, ToIntFunction<VotedMap> made) {
        VotedMap x = new VotedMap();
        b.made.accept(x);
        int status = x.status();
        check.due(call, made.applyAsInt(x), want);
        boolean found = want <= NULL && want >= STORE;
        check.due("status() behind " + call, x.status(), found ? -1000010 - want : status);
        String told = Told.all(b.made.andThen(y -> made.applyAsInt(y)));
        check.due("all but status() is as it was behind " + call, told.equals(b.told) ? 1 : 0, 1);
    }

    /** From least to most it is taken; the first beyond, on both sides, and the furthest ints are BAD. */
    void bounds(String what, int least, int most, NumberCall made) {
        bounds(what, least, most, BAD, BAD, made);
    }

    void bounds(String what, int least, int most, int below, int above, NumberCall made) {
        taken(what, least, made);
        taken(what, most, made);
        refused(what + " " + (least - 1), below, x -> made.on(x, least - 1));
        refused(what + " " + LEAST, below, x -> made.on(x, LEAST));
        refused(what + " " + (most + 1), above, x -> made.on(x, most + 1));
        refused(what + " " + MOST, above, x -> made.on(x, MOST));
    }

    private void taken(String what, int number, NumberCall made) {
        int answer = made.on(lived(), number);
        check.due(what + " " + number + " is refused by " + answer, answer <= BAD ? 1 : 0, 0);
    }
}
