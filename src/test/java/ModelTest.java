import java.util.ArrayList;
import java.util.List;

/** Runs of made-up calls on the class and on the model: each answer must be the same. The runs are always the same. */
public final class ModelTest {
    private static final Due due = new Due("ModelTest");
    private static final String[] ATOMS = {"goals", "made", "won", "cards", "kind", "late", "0", "1", "2", "3", "5", "10", "9999", "0001"};
    private static final int[] ODD = {-1, -2, 4, 6, 8, 12, 30, 31, 40, 41, 60, 399, 400, 1000000, Integer.MAX_VALUE, Integer.MIN_VALUE};

    private final LeagueOffice x = new LeagueOffice();
    private final ModelOffice y = new ModelOffice();
    private final List<String> calls = new ArrayList<>();
    private final int[] weights;
    private long state;

    private ModelTest(long seed, int[] weights) {
        this.state = seed * 0x9E3779B97F4A7C15L + 1;
        this.weights = weights;
    }

    public static void main(String[] args) {
        int runs = args.length > 0 ? Integer.parseInt(args[0]) : 400;
        int[][] profiles = {
            // games results days, texts rules, tables, players cards, fails, what can come, coin, laid, host, odd
            {20, 10, 10, 10, 5, 10, 5, 8, 10, 3},
            {30, 2, 20, 1, 10, 20, 15, 1, 1, 1},
            {15, 10, 2, 40, 5, 2, 2, 1, 2, 1},
            {20, 1, 5, 1, 25, 10, 5, 1, 1, 1},
            {10, 30, 10, 5, 1, 15, 1, 1, 1, 1},
            {15, 1, 2, 1, 1, 2, 2, 30, 5, 1},
            {15, 1, 2, 1, 1, 2, 5, 1, 40, 2},
            {10, 5, 5, 5, 5, 5, 5, 5, 5, 40},
        };
        for (int run = 0; run < runs && due.wrong() == 0; run++) {
            new ModelTest(run + 1, profiles[run % profiles.length]).go(run);
        }
        due.end();
    }

    private void go(int run) {
        for (int i = 0; i < 3 + below(9); i++) club();
        int players = below(5);
        for (int i = 0; i < players; i++) {
            is("player()", x.player(), y.player());
            int club = near(y.clubs.size());
            is("register(" + i + ", " + club + ", 0)", x.register(i, club, 0), y.register(i, club, 0));
        }
        int games = below(3) == 0 ? below(40) : 0;
        for (int i = 0; i < games; i++) aGameMore(below(40));
        for (int i = calls.size(); i < 512 && due.wrong() == 0; i = calls.size()) call();
        if (due.wrong() == 0) return;
        System.out.println("run " + run + ":");
        for (String c : calls) System.out.println("  " + c);
    }

    private int below(int n) {
        state = state * 6364136223846793005L + 1442695040888963407L;
        return (int) ((state >>> 33) % n);
    }

    private void is(String call, long got, long want) {
        calls.add(call + " -> " + got);
        due.is(call, got, want);
    }

    /** A number below n, or now and then an odd one. */
    private int near(int n) {
        int pick = below(60);
        if (pick == 0) return ODD[below(ODD.length)];
        if (pick == 1) return n;
        return n < 1 ? 0 : below(n);
    }

    private int aClub() {
        return near(y.clubs.size());
    }

    private int aGame() {
        return near(y.games.size());
    }

    private int aPlayer() {
        return near(y.players);
    }

    /** A day near the ones in which something goes on. */
    private int aDay() {
        return below(30) == 0 ? near(400) : Math.max(0, y.today - 6 + below(14));
    }

    private int comeDay() {
        return below(3) > 0 ? y.today : near(y.today + 1);
    }

    private void call() {
        int all = 0;
        for (int w : weights) all += w;
        int pick = below(all), group = 0;
        while (pick >= weights[group]) pick -= weights[group++];
        switch (group) {
            case 0: games(); break;
            case 1: texts(); break;
            case 2: tables(); break;
            case 3: cards(); break;
            case 4: failures(); break;
            case 5: chances(); break;
            case 6: coin(); break;
            case 7: laid(); break;
            case 8: host(); break;
            default: odd(); break;
        }
        if (below(8) == 0) count();
    }

    private void club() {
        int a = below(3) > 0 ? 0 : near(4), b = near(8);
        is("club(" + a + ", " + b + ")", x.club(a, b), y.club(a, b));
    }

    private void aGameMore(int day) {
        int a = below(2) == 0 ? 0 : near(6), b = aClub(), c = aClub();
        is("game(" + a + ", " + b + ", " + c + ", " + day + ")", x.game(a, b, c, day), y.game(a, b, c, day));
    }

    private void games() {
        int pick = below(20), a = aGame(), b, c;
        if (pick < 9) {
            aGameMore(aDay());
        } else if (pick < 13) {
            b = below(4);
            c = below(10) == 0 ? near(31) : below(4);
            is("result(" + a + ", " + b + ", " + c + ")", x.result(a, b, c), y.result(a, b, c));
        } else if (pick < 15) {
            b = comeDay();
            is("known(" + a + ", " + b + ")", x.known(a, b), y.known(a, b));
        } else if (pick < 16) {
            b = near(8);
            is("gameTold(" + a + ", " + b + ")", x.gameTold(a, b), y.gameTold(a, b));
        } else if (pick < 18) {
            b = below(20) == 0 ? near(61) : 1 + below(3);
            is("pass(" + b + ")", x.pass(b), y.pass(b));
        } else if (pick < 19) {
            b = near(6);
            is("taken(" + a + ", " + b + ")", x.taken(a, b), y.taken(a, b));
        } else if (below(4) == 0) {
            club();
        } else {
            a = aClub();
            b = below(3) == 0 ? near(4) : 0;
            is("step(" + a + ", " + b + ")", x.step(a, b), y.step(a, b));
        }
    }

    private String e(int depth) {
        int pick = below(depth > 4 ? 2 : 13);
        if (pick < 3) return ATOMS[below(ATOMS.length)];
        if (pick == 3) return "(" + e(depth + 1) + ")";
        if (pick == 4) return "-" + e(depth + 2);
        if (pick == 5) return "not " + e(depth + 1);
        String[] signs = {"+", "-", "*", "*", "<", "=", " or ", " and ", " + "};
        return e(depth + 1) + signs[below(signs.length)] + e(depth + 1);
    }

    private void texts() {
        int pick = below(12);
        if (pick < 4) {
            feedText();
            is("text()", x.text(), y.text());
        } else if (pick < 6) {
            int a = near(y.texts.size()), b = below(2) == 0 ? 0 : aDay();
            is("rule(" + a + ", " + b + ")", x.rule(a, b), y.rule(a, b));
        } else if (pick < 8) {
            int a = aDay();
            is("ruleOf(" + a + ")", x.ruleOf(a), y.ruleOf(a));
        } else if (pick < 11) {
            int a = aClub(), b = 1 + below(4), c = aDay();
            if (below(8) == 0) b = near(100);
            is("take(" + a + ", " + b + ", " + c + ")", x.take(a, b, c), y.take(a, b, c));
        } else {
            int a = near(9);
            long b = below(10) == 0 ? -1L : 0x2020202020202020L;
            is("feed(" + a + ", " + b + ")", x.feed(a, b), y.feed(a, b));
        }
    }

    private void feedText() {
        String gap = below(2) == 0 ? "" : below(2) == 0 ? " " : "\n";
        StringBuilder s = new StringBuilder("win " + e(2) + ";" + gap + "draw " + e(2) + gap + ";like " + e(1) + ";ban " + e(2) + ";" + gap);
        if (s.length() > 130) s = new StringBuilder("win 2" + gap + ";draw 1;like " + e(3) + ";ban " + e(3) + ";");
        if (below(4) == 0 && s.length() > 0) s.setCharAt(below(s.length()), "()-+;<=n1 \nzA#\u00e9".charAt(below(15)));
        if (below(12) == 0) s.setLength(below(s.length()));
        if (below(12) == 0) s.insert(below(s.length() + 1), below(2) == 0 ? "12345" : "not not not");
        if (below(12) == 0) s.append("end");
        for (int i = 0; i < s.length(); i += 8) {
            long bytes = 0;
            int n = Math.min(8, s.length() - i);
            for (int k = 0; k < n; k++) bytes |= (long) s.charAt(i + k) << (8 * k);
            is("feed(" + n + ", " + bytes + "L)", x.feed(n, bytes), y.feed(n, bytes));
        }
    }

    private void tables() {
        int pick = below(8), a = aClub(), b = comeDay(), c = near(12);
        if (pick < 2) is("points(" + a + ", " + b + ")", x.points(a, b), y.points(a, b));
        else if (pick < 4) is("like(" + a + ", " + b + ")", x.like(a, b), y.like(a, b));
        else if (pick < 6) is("place(" + a + ", " + b + ")", x.place(a, b), y.place(a, b));
        else {
            a = below(3) > 0 ? 0 : near(4);
            c = near(y.clubs.size());
            is("table(" + a + ", " + b + ", " + c + ")", x.table(a, b, c), y.table(a, b, c));
        }
    }

    private void cards() {
        int pick = below(16), a = aPlayer(), b = aGame(), c;
        if (pick == 0 && below(3) == 0) is("player()", x.player(), y.player());
        else if (pick < 3) {
            b = aClub();
            c = aDay();
            is("register(" + a + ", " + b + ", " + c + ")", x.register(a, b, c), y.register(a, b, c));
        } else if (pick < 4) {
            b = aDay();
            is("clubOf(" + a + ", " + b + ")", x.clubOf(a, b), y.clubOf(a, b));
        } else if (pick < 6) {
            c = below(20) == 0 ? near(4) : 1 + below(3) % 2;
            if (below(2) == 0 && a >= 0 && a < y.players) b = gameOf(a, b);
            is("card(" + a + ", " + b + ", " + c + ")", x.card(a, b, c), y.card(a, b, c));
        } else if (pick < 7) {
            a = near(y.cards.size());
            is("bans(" + a + ")", x.bans(a), y.bans(a));
        } else if (pick < 10) {
            a = near(y.cards.size());
            b = below(2) == 0 ? 0 : near(5);
            is("banned(" + a + ", " + b + ")", x.banned(a, b), y.banned(a, b));
        } else if (pick < 12) is("may(" + a + ", " + b + ")", x.may(a, b), y.may(a, b));
        else if (pick < 14) is("played(" + a + ", " + b + ")", x.played(a, b), y.played(a, b));
        else {
            a = below(5) - 1;
            is("wrong(" + a + ")", x.wrong(a), y.wrong(a));
        }
    }

    /** A game from some number on in which the player's club of the first day is, if there is one. */
    private int gameOf(int player, int from) {
        int club = y.clubOf(player, 0);
        for (int g = Math.max(0, from); g < y.games.size(); g++) if (y.games.get(g).has(club)) return g;
        return from;
    }

    private void failures() {
        int a = aClub(), b = aGame(), pick = below(8);
        if (pick < 2) is("fail(" + a + ")", x.fail(a), y.fail(a));
        else if (pick < 5) is("undo(" + a + ")", x.undo(a), y.undo(a));
        else {
            int c = below(3);
            is("gameTold(" + b + ", " + c + ")", x.gameTold(b, c), y.gameTold(b, c));
        }
    }

    private void chances() {
        int pick = below(8), a = aClub(), b = near(y.clubs.size());
        if (pick < 1) {
            a = near(4);
            is("open(" + a + ")", x.open(a), y.open(a));
        } else if (pick < 3) {
            b = near(2);
            is("can(" + a + ", " + b + ")", x.can(a, b), y.can(a, b));
        } else if (pick < 5) is("sure(" + a + ", " + b + ")", x.sure(a, b), y.sure(a, b));
        else is("needs(" + a + ", " + b + ")", x.needs(a, b), y.needs(a, b));
    }

    private void coin() {
        int a = aClub(), b = below(2) == 0 ? below(2000) : near(1000000);
        int step = a >= 0 && a < y.clubs.size() && below(20) > 0 ? y.clubs.get(a)[0] : near(4);
        is("coin(" + step + ", " + b + ", " + a + ")", x.coin(step, b, a), y.coin(step, b, a));
    }

    private void laid() {
        int a = below(15) == 0 ? -1 : below(15) == 0 ? near(1212) : 100 * Math.max(0, aClub() % 50) + Math.max(0, aClub() % 50);
        if (below(2) == 0) is("meet(" + a + ")", x.meet(a), y.meet(a));
        int b = aDay(), c = near(2);
        is("laid(" + b + ", " + c + ")", x.laid(b, c), y.laid(b, c));
    }

    private void host() {
        int pick = below(16), s = near(4), a = near(14), b = near(14), c = near(14);
        if (pick < 2) {
            a = near(4) - 1;
            b = near(41);
            is("sheet(" + s + ", " + a + ", " + b + ")", x.sheet(s, a, b), y.sheet(s, a, b));
        } else if (pick < 10) {
            b = below(2) == 0 ? aGame() : below(8) == 0 ? 256 * below(400) + below(60) : below(5);
            is("cell(" + s + ", " + a + ", " + b + ")", x.cell(s, a, b), y.cell(s, a, b));
        } else if (pick < 13) {
            int other = below(2) == 0 ? s : near(4);
            is("copy(" + s + ", " + a + ", " + other + ", " + b + ", " + c + ")", x.copy(s, a, other, b, c), y.copy(s, a, other, b, c));
        } else {
            int sort = s >= 0 && s < 4 && below(4) > 0 ? y.sheets[s] instanceof byte[] ? 0 : y.sheets[s] instanceof short[] ? 1 : 2 : near(3);
            is("results(" + s + ", " + sort + ", " + a + ", " + b + ")", x.results(s, sort, a, b), y.results(s, sort, a, b));
            int g = aGame(), d = y.today;
            is("known(" + g + ", " + d + ")", x.known(g, d), y.known(g, d));
        }
    }

    private void count() {
        int a = near(13);
        is("count(" + a + ")", x.count(a), y.count(a));
    }

    private int odd1() {
        return below(3) == 0 ? ODD[below(ODD.length)] : below(4);
    }

    /** Numbers of no sense: nothing may be thrown, and the refusals must be in order. */
    private void odd() {
        int a = odd1(), b = odd1(), c = odd1(), d = odd1(), n = odd1();
        String one = "(" + a + ")", two = "(" + a + ", " + b + ")", three = "(" + a + ", " + b + ", " + c + ")";
        switch (below(31)) {
            case 0: is("pass" + one, x.pass(a), y.pass(a)); break;
            case 1: is("club" + two, x.club(a, b), y.club(a, b)); break;
            case 2: is("step" + two, x.step(a, b), y.step(a, b)); break;
            case 3: is("game" + three + d, x.game(a, b, c, d), y.game(a, b, c, d)); break;
            case 4: is("gameTold" + two, x.gameTold(a, b), y.gameTold(a, b)); break;
            case 5: is("result" + three, x.result(a, b, c), y.result(a, b, c)); break;
            case 6: is("known" + two, x.known(a, b), y.known(a, b)); break;
            case 7: is("feed" + two, x.feed(a, b), y.feed(a, b)); break;
            case 8: is("rule" + two, x.rule(a, b), y.rule(a, b)); break;
            case 9: is("ruleOf" + one, x.ruleOf(a), y.ruleOf(a)); break;
            case 10: is("take" + three, x.take(a, b, c), y.take(a, b, c)); break;
            case 11: is("points" + two, x.points(a, b), y.points(a, b)); break;
            case 12: is("like" + two, x.like(a, b), y.like(a, b)); break;
            case 13: is("table" + three, x.table(a, b, c), y.table(a, b, c)); break;
            case 14: is("place" + two, x.place(a, b), y.place(a, b)); break;
            case 15: is("register" + three, x.register(a, b, c), y.register(a, b, c)); break;
            case 16: is("clubOf" + two, x.clubOf(a, b), y.clubOf(a, b)); break;
            case 17: is("card" + three, x.card(a, b, c), y.card(a, b, c)); break;
            case 18: is("bans" + one, x.bans(a), y.bans(a)); break;
            case 19: is("banned" + two, x.banned(a, b), y.banned(a, b)); break;
            case 20: is("may" + two, x.may(a, b), y.may(a, b)); break;
            case 21: is("played" + two, x.played(a, b), y.played(a, b)); break;
            case 22: is("wrong" + one, x.wrong(a), y.wrong(a)); break;
            case 23: is("can" + two, x.can(a, b), y.can(a, b)); break;
            case 24: is("needs" + two, x.needs(a, b), y.needs(a, b)); break;
            case 25: is("coin" + three, x.coin(a, b, c), y.coin(a, b, c)); break;
            case 26: is("meet" + one, x.meet(a), y.meet(a)); break;
            case 27: is("laid" + two, x.laid(a, b), y.laid(a, b)); break;
            case 28: is("sheet" + three, x.sheet(a, b, c), y.sheet(a, b, c)); break;
            case 29: is("copy" + three + d + ", " + n, x.copy(a, b, c, d, n), y.copy(a, b, c, d, n)); break;
            default: is("results" + three + d, x.results(a, b, c, d), y.results(a, b, c, d)); break;
        }
    }
}
