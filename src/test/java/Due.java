/** Counts the answers that are not the ones that are due, and tells them. */
final class Due {
    private final String about;
    private static int wrong = 0;

    Due(String about) {
        this.about = about;
    }

    void is(String call, long got, long want) {
        if (got != want) {
            wrong++;
            System.out.println(about + ": " + call + " answered " + got + ", due is " + want);
        }
    }

    /** Appends a text to the pad of x, eight characters a call; returns the last answer. */
    static int write(TokenNets x, String text) {
        int answer = x.count(5);
        for (int i = 0; i < text.length(); i += 8) {
            answer = x.put(packed(text.substring(i, Math.min(i + 8, text.length()))));
        }
        return answer;
    }

    static long packed(String text) {
        long number = 0;
        for (int i = 0; i < text.length(); i++) {
            number = number << 8 | text.charAt(i);
        }
        return number;
    }

    /** A net that a text tells. */
    static TokenNets net(String text) {
        TokenNets x = new TokenNets();
        write(x, text);
        x.carryOut();
        return x;
    }

    static void end() {
        System.exit(wrong == 0 ? 0 : 1);
    }
}
