/** Counts the answers that are not as due, and prints each. */
final class Due {
    private final String name;
    private int asked;
    private int wrong;

    Due(String name) {
        this.name = name;
    }

    void is(String call, long got, long want) {
        asked++;
        if (got == want) return;
        wrong++;
        if (wrong <= 40) System.out.println(name + ": " + call + " answered " + got + ", due is " + want);
    }

    void isTrue(String what, boolean holds) {
        is(what, holds ? 1 : 0, 1);
    }

    int wrong() {
        return wrong;
    }

    void end() {
        System.out.println(name + ": " + asked + " asked, " + wrong + " not as due");
        if (wrong != 0) System.exit(1);
    }

    /** Feeds a whole text in pieces of up to eight bytes; the last answer of feed. */
    static int feed(LeagueOffice x, String text) {
        int last = 0;
        for (int i = 0; i < text.length(); i += 8) {
            int n = Math.min(8, text.length() - i);
            long bytes = 0;
            for (int k = 0; k < n; k++) bytes |= (long) (text.charAt(i + k) & 255) << (8 * k);
            last = x.feed(n, bytes);
        }
        return last;
    }

    /** Feeds a text and reads it. */
    static int read(LeagueOffice x, String text) {
        feed(x, text);
        return x.text();
    }

    /** Makes a text the rule of all days. */
    static void ruled(LeagueOffice x, String text) {
        x.rule(read(x, text), 0);
    }

    /** An object with so many clubs, all in step 0, each in the town of its number (cut at 8). */
    static LeagueOffice clubs(int n) {
        LeagueOffice x = new LeagueOffice();
        for (int i = 0; i < n; i++) x.club(0, i % 8);
        return x;
    }
}
