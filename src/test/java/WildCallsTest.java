/** No call throws, whatever it is told; what is refused or found changes nothing but status(). */
final class WildCallsTest {
    private static final Check check = new Check("WildCallsTest");
    private static final int[] NUMBERS = {Integer.MIN_VALUE, -1000001, -256, -41, -1, 0, 1, 2, 3, 4, 5, 7, 8, 10, 11,
        20, 21, 31, 32, 40, 41, 60, 61, 112, 255, 256, Integer.MAX_VALUE - 1, Integer.MAX_VALUE};
    private static final int CALLS = 33;

    public static void main(String[] args) {
        everyNumber("");
        everyNumber("p2,0,0;");
        everyNumber("p6,3,2;g0,5,1;g5,0,1;g0,1,1;g1,2,1;g2,3,1;g3,4,1;g4,5,1;g0,3,0;"
            + "v0,5,255,20;w1,4,0,20;m2,3,170,20;x3,2,0,20;s4,1,255,20;");
        thrown();
        check.finish();
    }

    private static void everyNumber(String city) {
        VotedMap x = new VotedMap();
        Check.feed(x, city);
        x.city();
        for (int call = 0; call < CALLS; call++) {
            for (int a : NUMBERS) {
                for (int b : NUMBERS) {
                    for (int c = -1; c <= 3; c++) {
                        refusedChangesNothing(x, call, a, b, c, 1, 0);
                    }
                }
            }
        }
    }

    private static void thrown() {
        for (int seed = 1; seed <= 300; seed++) {
            Dice d = new Dice(seed);
            VotedMap x = new VotedMap();
            x.row(0, 0, 8);
            x.row(1, 1, 40);
            x.row(2, 2, 40);
            for (int k = 0; k < 1000; k++) {
                if (k % 100 == 0) {
                    Check.feed(x, d.cityText());
                    x.city();
                }
                refusedChangesNothing(x, d.below(CALLS), d.about(7), d.about(10), d.about(2), d.about(12), d.about(10));
            }
        }
    }

    private static void refusedChangesNothing(VotedMap x, int call, int a, int b, int c, int d, int e) {
        long ahead = told(x);
        int status = x.status();
        int answer = call(x, call, a, b, c, d, e);
        boolean refused = answer >= VotedMap.FULL && answer <= VotedMap.BAD;
        boolean found = answer >= -1000015 && answer <= -1000011;
        // an item of a row of ints may be any number
        if ((refused || found) && call != 1) {
            check.due("call " + call + " (" + a + ", " + b + ", " + c + ") changed it", told(x), ahead);
            check.due("status of it", x.status(), found ? -1000010 - answer : status);
        }
    }

    private static long told(VotedMap x) {
        long sum = x.fault() + 31L * x.trace(0);
        for (int what = 0; what <= 8; what++) {
            sum = sum * 31 + x.count(what);
        }
        for (int k = 0; k < 8; k++) {
            for (int what = 0; what < 5; what++) {
                sum = (sum * 31 + x.person(k, what)) * 31 + x.gate(k, what);
            }
            sum = sum * 31 + x.kind(k);
        }
        return sum;
    }

    private static int call(VotedMap x, int call, int a, int b, int c, int d, int e) {
        switch (call) {
            case 0: return x.row(a, c, b);
            case 1: return x.set(a, b, c);
            case 2: return x.copy(a, b, c, d, e);
            case 3: return c == 0 ? x.drop(a) : 0;
            case 4: return x.feed(a);
            case 5: return c == 3 && b == 3 ? x.city() : x.fault();
            case 6: return x.dawn(a);
            case 7: return x.turn(a);
            case 8: return x.wish(a, b);
            case 9: return x.undo();
            case 10: return x.person(a, b);
            case 11: return x.gate(a, b);
            case 12: return x.reach(a);
            case 13: return x.steps(a, b);
            case 14: return x.votes(a, c);
            case 15: return x.ahead(a, c);
            case 16: return x.round(a);
            default: return more(x, call, a, b, c, d);
        }
    }

    private static int more(VotedMap x, int call, int a, int b, int c, int d) {
        switch (call) {
            case 17: return x.won(a, b, c);
            case 18: return x.kept(a, b, c);
            case 19: return x.swap(a, b);
            case 20: return x.best(a);
            case 21: return x.laws(a, c);
            case 22: return x.opened(a, b, d, c);
            case 23: return x.opened(d, b, a, c);
            case 24: return x.sold(a);
            case 25: return x.image(a);
            case 26: return x.restore(a);
            case 27: return x.kind(a);
            case 28: return x.as(a, b);
            case 29: return x.ask(a, b);
            case 30: return x.trace(a);
            case 31: return x.count(a);
            default: return x.status();
        }
    }
}
