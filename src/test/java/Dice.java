/** Numbers that look thrown, alike in each run. */
final class Dice {
    private long state;

    Dice(long seed) {
        state = seed * 2862933555777941757L + 3037000493L;
    }

    int below(int n) {
        state = state * 6364136223846793005L + 1442695040888963407L;
        return (int) ((state >>> 33) % n);
    }

    /** From 0 to most, now and then one off, seldom far off. */
    int about(int most) {
        int k = below(60);
        if (k == 0) {
            return below(2) == 0 ? -1 : most + 1;
        }
        return k == 1 ? wild() : below(most + 1);
    }

    int wild() {
        int[] far = {Integer.MIN_VALUE, Integer.MAX_VALUE, -1000, 1000, 64, 255, 256, -2, 31, 1 << 30};
        return far[below(far.length)];
    }

    /** The text of a city, fair. */
    String cityText() {
        int plots = 2 + below(5);
        int gates = below(6) == 0 ? below(9) : 2 + below(5);
        int people = below(6) == 0 ? below(2) : 2 + below(4);
        StringBuilder text = new StringBuilder("p" + plots + "," + below(4) + "," + below(3) + ";");
        for (int g = 0; g < gates; g++) {
            int a = below(plots);
            int b = (a + 1 + below(plots - 1)) % plots;
            text.append("g" + a + "," + b + "," + below(2) + ";");
        }
        int heavy = 1 + below(20);
        String sorts = below(3) == 0 ? "wwvxx" : "vwmxs";
        for (int p = 0; p < people; p++) {
            text.append(sorts.charAt(below(5))).append(below(plots)).append(',').append(below(plots)).append(',');
            text.append(below(1 << gates)).append(',').append(below(heavy + 1)).append(';');
        }
        return text.toString();
    }

    /** The text with something altered, so that it mostly has a fault. */
    String spoilt(String text) {
        String signs = "0123456789,;pgvwmxsaz Z\n\u00e9";
        int at = below(text.length());
        char sign = signs.charAt(below(signs.length()));
        switch (below(5)) {
            case 0: return text.substring(0, at) + sign + text.substring(at);
            case 1: return text.substring(0, at) + sign + text.substring(at + 1);
            case 2: return text.substring(0, at) + text.substring(at + 1);
            case 3: return text.substring(0, at);
            default: return text + text.substring(at);
        }
    }
}
