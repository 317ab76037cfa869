/** Counts the answers of a test that are not as due; the last call of its main method is finish(). */
final class Check {
    private final String name;
    private int wrong;
    private int asked;

    Check(String name) {
        this.name = name;
    }

    void due(String call, long got, long want) {
        asked++;
        if (got != want) {
            wrong++;
            if (wrong <= 40) {
                System.out.println(name + ": " + call + " answered " + got + ", due is " + want);
            }
        }
    }

    int wrong() {
        return wrong;
    }

    void finish() {
        System.out.println(name + ": " + asked + " answers, " + wrong + " not as due");
        if (wrong != 0) {
            System.exit(1);
        }
    }

    static void feed(VotedMap x, String text) {
        for (int i = 0; i < text.length(); i++) {
            x.feed(text.charAt(i));
        }
    }

    /** A new object with the city of a text; the text is to be free of faults. */
    static VotedMap city(String text) {
        VotedMap x = new VotedMap();
        feed(x, text);
        if (x.city() < 2) {
            throw new IllegalStateException("a fault in " + text);
        }
        return x;
    }
}
