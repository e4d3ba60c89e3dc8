/** An object in which something of everything has been told, and all that such a one answers. */
final class Busy {
    static final int DAY = 10, CLUBS = 5, GAMES = 9, TEXTS = 2, PLAYERS = 3, CARDS = 3, WRONGS = 2, PARTS = 9;
    private static final int[][] GAMES_TOLD = {
        // kind, home, guest, day
        {0, 0, 1, 1}, {2, 1, 2, 2}, {1, 2, 0, 3}, {3, 2, 3, 4}, {4, 3, 0, 20}, {5, 0, 2, 3}, {0, 1, 3, 10}, {0, 0, 3, 21}, {0, 2, 4, 399}};

    private Busy() {
    }

    /** Some 90 calls. */
    static LeagueOffice office() {
        LeagueOffice x = new LeagueOffice();
        for (int c = 0; c < CLUBS; c++) x.club(c < 4 ? 0 : 1, c % 3);
        for (int[] g : GAMES_TOLD) x.game(g[0], g[1], g[2], g[3]);
        x.pass(4);
        x.result(0, 2, 1);
        x.result(1, 0, 0);
        x.pass(DAY - 4);
        x.result(0, 1, 1);
        x.result(2, 4, 0);
        x.result(5, 0, 7);
        Due.read(x, "win 2+late;draw 1;like made;ban 2;");
        x.rule(1, 2);
        x.rule(0, 9);
        x.take(1, 1, 5);
        x.take(3, 99, 11);
        for (int p = 0; p < PLAYERS; p++) x.player();
        x.register(0, 0, 0);
        x.register(1, 1, 0);
        x.register(0, 3, 25);
        x.card(0, 0, 2);
        x.card(1, 1, 1);
        x.card(0, 2, 1);
        x.played(0, 7);
        x.played(1, 1);
        x.played(2, 0);
        x.fail(4);
        x.meet(2);
        x.meet(301);
        for (int s = 0; s < 3; s++) {
            x.sheet(s, s == 2 ? 2 : 1, 7);
            x.cell(s, 1, 6);
            x.cell(s, 2, s + 1);
            x.cell(s, 3, 3);
        }
        Due.feed(x, "win 3;draw 1;like 7;ban ");
        return x;
    }

    /** A part of what an object answers: few enough calls for one object; the later parts change it. */
    static long[] answers(LeagueOffice x, int part) {
        Answers all = new Answers();
        switch (part) {
            case 0: counts(x, all); break;
            case 1: games(x, all); break;
            case 2: tables(x, all); break;
            case 3: players(x, all); break;
            case 4: chances(x, all); break;
            case 5: tape(x, all); break;
            case 6: sheets(x, all); break;
            case 7: failures(x, all); break;
            default: next(x, all); break;
        }
        return all.toArray();
    }

    private static void counts(LeagueOffice x, Answers all) {
        for (int what = 0; what <= 12; what++) all.add(x.count(what));
        for (int day = 0; day < 400; day = day < 12 ? day + 1 : day + 97) all.add(x.ruleOf(day));
        for (int step = 0; step < 4; step++) all.add(x.open(step));
        for (int i = -1; i < 3; i++) all.add(x.wrong(i));
    }

    private static void games(LeagueOffice x, Answers all) {
        for (int g = 0; g < GAMES; g++) {
            for (int what = 0; what < 8; what++) all.add(x.gameTold(g, what));
            for (int day = 0; day <= DAY; day += 2) all.add(x.known(g, day));
            all.add(x.taken(g, 3));
        }
    }

    private static void tables(LeagueOffice x, Answers all) {
        for (int day = 1; day <= DAY; day += 3) {
            for (int c = 0; c < CLUBS; c++) {
                all.add(x.points(c, day));
                all.add(x.like(c, day));
                all.add(x.place(c, day));
                all.add(x.table(0, day, c));
            }
            all.add(x.table(1, day, 0));
        }
    }

    private static void players(LeagueOffice x, Answers all) {
        for (int p = 0; p < PLAYERS; p++) {
            for (int day = 0; day < 400; day = day < 30 ? day + 5 : day + 123) all.add(x.clubOf(p, day));
            for (int g = 0; g < GAMES; g++) all.add(x.may(p, g));
        }
        for (int c = 0; c < CARDS; c++) {
            all.add(x.bans(c));
            for (int i = 0; i < 4; i++) all.add(x.banned(c, i));
        }
    }

    private static void chances(LeagueOffice x, Answers all) {
        for (int c = 0; c < CLUBS; c++) {
            all.add(x.can(c, 0));
            all.add(x.can(c, 1));
            for (int place = 0; place < 4; place++) {
                all.add(x.sure(c, place));
                all.add(x.needs(c, place));
            }
            all.add(x.coin(c < 4 ? 0 : 1, 99991, c));
        }
        for (int day = 0; day < 12; day++) {
            all.add(x.laid(day, 0));
            all.add(x.laid(day, 1));
        }
    }

    /** What stands on the tape is told by the text that it becomes. */
    private static void tape(LeagueOffice x, Answers all) {
        all.add(Due.feed(x, "0;"));
        int text = x.text();
        all.add(text);
        all.add(x.rule(text, 0));
        all.add(x.rule(text, 0));
        all.add(x.like(0, 1));
    }

    /** What stands in the sheets is told by the results that it becomes. */
    private static void sheets(LeagueOffice x, Answers all) {
        for (int s = 0; s < 4; s++) {
            for (int i = 0; i < 8; i++) all.add(x.results(s, s == 2 ? 2 : 1, i, 1));
            all.add(x.results(s, s == 2 ? 2 : 1, 1, 2));
            for (int g = 0; g < GAMES; g++) all.add(x.known(g, x.count(0)));
        }
    }

    private static void failures(LeagueOffice x, Answers all) {
        for (int c = 0; c < CLUBS; c++) {
            all.add(x.undo(c));
            all.add(x.fail(c));
        }
        for (int g = 0; g < GAMES; g++) all.add(x.gameTold(g, 0));
        for (int c = CLUBS - 1; c >= 0; c--) all.add(x.undo(c));
        for (int g = 0; g < GAMES; g++) for (int what = 0; what < 3; what++) all.add(x.gameTold(g, what));
    }

    /** What the next telling of each thing answers. */
    private static void next(LeagueOffice x, Answers all) {
        all.add(x.club(0, 0));
        all.add(x.game(0, 0, 1, 0));
        all.add(x.result(0, 9, 9));
        all.add(x.known(0, x.count(0)));
        all.add(x.rule(0, 0));
        all.add(x.take(0, 1, 0));
        all.add(x.player());
        all.add(x.register(0, 0, 0));
        all.add(x.card(0, 0, 1));
        all.add(x.played(0, 0));
        for (int c = 0; c < CLUBS; c++) all.add(x.meet(100 * c + (c + 1) % CLUBS));
        all.add(x.pass(1));
    }

    /** A row that grows. */
    private static final class Answers {
        private long[] row = new long[0];

        void add(long answer) {
            row = java.util.Arrays.copyOf(row, row.length + 1);
            row[row.length - 1] = answer;
        }

        long[] toArray() {
            return row;
        }
    }
}
