/** Of each number that a call takes: the least and the greatest one that is taken, and the next one beyond each. */
public final class EdgesTest {
    private static final Due due = new Due("EdgesTest");
    private static final int BAD = LeagueOffice.BAD, NONE = LeagueOffice.NONE, STATE = LeagueOffice.STATE;
    private static final long NO = LeagueOffice.NO;

    /** A call with one number left open. */
    private interface Call {
        long ask(LeagueOffice x, int v);
    }

    public static void main(String[] args) {
        clubsGames();
        rules();
        tables();
        players();
        cards();
        coming();
        coinLaid();
        sheets();
        copies();
        results();
        for (int many = 0; many <= 5; many++) bannedOf(many);
        for (int games = 0; games <= 7; games++) openOf(games);
        for (int n = 1; n <= 13; n++) resultsOf(n);
        wholeCells();
        due.end();
    }

    /** From the least to the greatest all are taken; the next ones and the outermost ones are answered otherwise. */
    private static void takes(String call, Call c, int least, int greatest, long below, long above) {
        for (int v : new int[] {least, Math.min(least + 1, greatest), Math.max(greatest - 1, least), greatest}) {
            long got = c.ask(Busy.office(), v);
            due.isTrue(call + " takes " + v + ", answered " + got, got != below && got != above);
        }
        due.is(call + " of " + (least - 1), c.ask(Busy.office(), least - 1), below);
        due.is(call + " of " + (greatest + 1), c.ask(Busy.office(), greatest + 1), above);
        due.is(call + " of the lowest int", c.ask(Busy.office(), Integer.MIN_VALUE), below);
        due.is(call + " of the highest int", c.ask(Busy.office(), Integer.MAX_VALUE), above);
    }

    private static void takes(String call, Call c, int least, int greatest, long beyond) {
        takes(call, c, least, greatest, beyond, beyond);
    }

    private static void ofClubs(String call, Call c, long beyond) {
        takes(call, c, 0, Busy.CLUBS - 1, beyond);
    }

    private static void ofGames(String call, Call c, long beyond) {
        takes(call, c, 0, Busy.GAMES - 1, beyond);
    }

    private static void ofPlayers(String call, Call c) {
        takes(call, c, 0, Busy.PLAYERS - 1, BAD);
    }

    private static void ofAllDays(String call, Call c) {
        takes(call, c, 0, 399, BAD);
    }

    private static void ofDaysGone(String call, Call c, long beyond) {
        takes(call, c, 0, Busy.DAY, beyond);
    }

    private static void clubsGames() {
        takes("2 pass: n", (x, v) -> x.pass(v), 1, 60, BAD);
        takes("3 club: step", (x, v) -> x.club(v, 0), 0, 3, BAD);
        takes("3 club: town", (x, v) -> x.club(0, v), 0, 7, BAD);
        ofClubs("4 step: club", (x, v) -> x.step(v, 0), BAD);
        takes("4 step: step", (x, v) -> x.step(0, v), 0, 3, BAD);
        takes("5 game: kind", (x, v) -> x.game(v, 0, 1, 0), 0, 5, BAD);
        ofClubs("5 game: home", (x, v) -> x.game(0, v, v == 2 ? 1 : 2, 0), BAD);
        ofClubs("5 game: guest", (x, v) -> x.game(0, v == 2 ? 1 : 2, v, 0), BAD);
        for (int c = 0; c < Busy.CLUBS; c++) due.is("5 game: like ones, " + c, Busy.office().game(0, c, c, 0), BAD);
        ofAllDays("5 game: day", (x, v) -> x.game(0, 0, 1, v));
        ofGames("6 gameTold: game", (x, v) -> x.gameTold(v, 0), BAD);
        takes("6 gameTold: what", (x, v) -> x.gameTold(0, v), 0, 7, BAD);
        ofGames("7 result: game", (x, v) -> x.result(v, 0, 0), BAD);
        takes("7 result: home", (x, v) -> x.result(0, v, 0), 0, 30, BAD);
        takes("7 result: guest", (x, v) -> x.result(0, 0, v), 0, 30, BAD);
        ofGames("8 known: game", (x, v) -> x.known(v, 0), BAD);
        ofDaysGone("8 known: day", (x, v) -> x.known(3, v), BAD);
    }

    private static void rules() {
        takes("9 feed: n", (x, v) -> x.feed(v, -1L), 1, 8, BAD);
        takes("11 rule: text", (x, v) -> x.rule(v, 0), 0, Busy.TEXTS - 1, BAD);
        ofAllDays("11 rule: from", (x, v) -> x.rule(0, v));
        ofAllDays("12 ruleOf: day", (x, v) -> x.ruleOf(v));
        ofClubs("13 take: club", (x, v) -> x.take(v, 1, 0), BAD);
        takes("13 take: points", (x, v) -> x.take(0, v, 0), 1, 99, BAD);
        ofAllDays("13 take: from", (x, v) -> x.take(0, 1, v));
    }

    private static void tables() {
        ofClubs("14 points: club", (x, v) -> x.points(v, 0), NO);
        ofDaysGone("14 points: day", (x, v) -> x.points(0, v), NO);
        ofClubs("15 like: club", (x, v) -> x.like(v, 0), NO);
        ofDaysGone("15 like: day", (x, v) -> x.like(0, v), NO);
        takes("16 table: step", (x, v) -> x.table(v, 0, 0), 0, 3, BAD);
        ofDaysGone("16 table: day", (x, v) -> x.table(0, v, 0), BAD);
        takes("16 table: place", (x, v) -> x.table(0, 0, v), 0, 3, NONE);
        takes("16 table: place in a step of one", (x, v) -> x.table(1, 0, v), 0, 0, NONE);
        for (int p = 0; p < 12; p++) due.is("16 table: place " + p + " of none", Busy.office().table(3, 0, p), NONE);
        ofClubs("17 place: club", (x, v) -> x.place(v, 0), BAD);
        ofDaysGone("17 place: day", (x, v) -> x.place(0, v), BAD);
    }

    private static void players() {
        ofPlayers("19 register: player", (x, v) -> x.register(v, 0, 0));
        ofClubs("19 register: club", (x, v) -> x.register(0, v, 0), BAD);
        ofAllDays("19 register: from", (x, v) -> x.register(0, 0, v));
        ofPlayers("20 clubOf: player", (x, v) -> x.clubOf(v, 0));
        ofAllDays("20 clubOf: day", (x, v) -> x.clubOf(0, v));
        ofPlayers("24 may: player", (x, v) -> x.may(v, 0));
        ofGames("24 may: game", (x, v) -> x.may(0, v), BAD);
        ofPlayers("25 played: player", (x, v) -> x.played(v, 4));
        ofGames("25 played: game", (x, v) -> x.played(2, v), BAD);
    }

    private static void cards() {
        ofPlayers("21 card: player", (x, v) -> x.card(v, 0, 1));
        ofGames("21 card: game", (x, v) -> x.card(0, v, 1), BAD);
        takes("21 card: kind", (x, v) -> x.card(0, 0, v), 1, 2, BAD);
        takes("22 bans: card", (x, v) -> x.bans(v), 0, Busy.CARDS - 1, BAD);
        takes("23 banned: card", (x, v) -> x.banned(v, 0), 0, Busy.CARDS - 1, BAD);
        takes("23 banned: i", (x, v) -> x.banned(0, v), 0, 0, NONE);
        takes("26 wrong: i", (x, v) -> x.wrong(v), -1, Busy.WRONGS - 1, NONE);
        ofClubs("27 fail: club", (x, v) -> x.fail(v), BAD);
        ofClubs("28 undo: club", (x, v) -> x.undo(v), BAD);
    }

    /** A card that bans for so many games, of which there are just so many, one more, or one less. */
    private static void bannedOf(int many) {
        for (int games = Math.max(0, many - 1); games <= many + 1; games++) {
            LeagueOffice x = Due.clubs(2);
            Due.ruled(x, "win 0;draw 0;like 0;ban " + many + ";");
            x.player();
            x.register(0, 1, 0);
            x.game(0, 0, 1, 7);
            for (int i = 0; i < games; i++) x.game(0, i % 2, 1 - i % 2, 8);
            x.card(0, 0, 1);
            String card = "23 of " + many + ", " + games + " to come: ";
            int last = Math.min(many, games);
            due.is(card + "bans", x.bans(0), many);
            for (int i = 0; i < 7; i++) due.is(card + "banned " + i, x.banned(0, i), i < last ? i + 1 : NONE);
            for (int g = 0; g <= games; g++) due.is(card + "may " + g, x.may(0, g), g > 0 && g <= last ? 0 : 1);
        }
    }

    private static void coming() {
        takes("29 open: step", (x, v) -> x.open(v), 0, 3, BAD);
        ofClubs("30 can: club", (x, v) -> x.can(v, 0), BAD);
        takes("30 can: what", (x, v) -> x.can(0, v), 0, 1, BAD);
        ofClubs("31 sure: club", (x, v) -> x.sure(v, 0), BAD);
        takes("31 sure: place", (x, v) -> x.sure(0, v), 0, 11, BAD);
        ofClubs("32 needs: club", (x, v) -> x.needs(v, 3), BAD);
        takes("32 needs: place", (x, v) -> x.needs(3, v), 0, 11, BAD);
    }

    /** So many open games of two clubs: up to six can be asked. */
    private static void openOf(int games) {
        LeagueOffice x = Due.clubs(2);
        for (int i = 0; i < games; i++) x.game(i % 2 * 2, i % 2, 1 - i % 2, i);
        boolean asked = games <= 6;
        // the sums from which on the first one has won as often as it lost
        int[] enough = {0, 1, 2, 4, 5, 7, 8};
        String with = " with " + games + " open";
        due.is("29 open" + with, x.open(0), games);
        due.is("30 best of 1" + with, x.can(1, 0), !asked ? STATE : games == 0 ? 1 : 0);
        due.is("30 worst of 0" + with, x.can(0, 1), !asked ? STATE : games == 0 ? 0 : 1);
        due.is("31 first place of 0" + with, x.sure(0, 0), !asked ? STATE : games == 0 ? 1 : 0);
        due.is("31 last place of 1" + with, x.sure(1, 1), asked ? 1 : STATE);
        due.is("32 last place of 0" + with, x.needs(0, 1), asked ? 0 : STATE);
        due.is("32 first place of 0" + with, x.needs(0, 0), asked ? enough[games] : STATE);
    }

    private static void coinLaid() {
        takes("33 coin: pence", (x, v) -> x.coin(0, v, 0), 0, 999999, NO);
        takes("33 coin: club", (x, v) -> x.coin(0, 99, v), 0, 3, NO);
        takes("33 coin: step", (x, v) -> x.coin(v, 99, v == 1 ? 4 : 0), 0, 1, NO);
        takes("33 coin: the last step", (x, v) -> moved(x).coin(v, 99, 0), 3, 3, NO);
        ofClubs("34 meet: the one", (x, v) -> forgotten(x).meet(100 * Math.max(-9, Math.min(99, v)) + (v == 2 ? 1 : 2)), BAD);
        ofClubs("34 meet: the other one", (x, v) -> forgotten(x).meet(100 * (v == 2 ? 1 : 2) + Math.max(-99, Math.min(99, v))), BAD);
        takes("34 meet: all are gone", (x, v) -> x.meet(v), -1, -1, BAD);
        ofAllDays("35 laid: day", (x, v) -> x.laid(v, 0));
        takes("35 laid: what", (x, v) -> x.laid(1, v), 0, 1, BAD);
        takes("36 count: what", (x, v) -> x.count(v), 0, 12, BAD);
    }

    private static LeagueOffice moved(LeagueOffice x) {
        x.step(0, 3);
        return x;
    }

    private static LeagueOffice forgotten(LeagueOffice x) {
        x.meet(-1);
        return x;
    }

    private static void sheets() {
        takes("37 sheet: sheet", (x, v) -> x.sheet(v, 0, 1), 0, 3, BAD);
        takes("37 sheet: sort", (x, v) -> x.sheet(3, v, 1), -1, 2, BAD);
        for (int sort = 0; sort < 3; sort++) {
            int of = sort;
            takes("37 sheet: n of sort " + sort, (x, v) -> x.sheet(3, of, v), 0, 40, -14, BAD);
            for (int n = 0; n <= 40; n++) laidOf(of, n);
        }
        takes("38 cell: sheet", (x, v) -> x.cell(v, 0, 0), 0, 3, BAD);
        takes("38 cell: i", (x, v) -> x.cell(0, v, 0), 0, 6, -12);
    }

    /** A row of n has the items 0 .. n - 1. */
    private static void laidOf(int sort, int n) {
        LeagueOffice x = new LeagueOffice();
        x.sheet(1, sort, n);
        due.is("38 item " + (n - 1) + " of " + n, x.cell(1, n - 1, 1), n > 0 ? 1 : -12);
        due.is("38 item " + n + " of " + n, x.cell(1, n, 1), -12);
    }

    private static void copies() {
        takes("39 copy: sheet", (x, v) -> x.copy(v, 0, 0, 0, 1), 0, 3, BAD);
        takes("39 copy: other", (x, v) -> x.copy(0, 0, v, 0, 1), 0, 3, BAD);
        takes("39 copy: i of one", (x, v) -> x.copy(0, v, 1, 0, 1), 0, 6, -12);
        takes("39 copy: j of one", (x, v) -> x.copy(0, 0, 1, v, 1), 0, 6, -12);
        takes("39 copy: i of none", (x, v) -> x.copy(0, v, 1, 0, 0), 0, 7, -12);
        takes("39 copy: j of none", (x, v) -> x.copy(0, 0, 1, v, 0), 0, 7, -12);
        takes("39 copy: n", (x, v) -> x.copy(0, 0, 1, 0, v), 0, 7, -12);
        takes("39 copy: n from behind", (x, v) -> x.copy(0, 5, 1, 0, v), 0, 2, -12);
        takes("39 copy: n to behind", (x, v) -> x.copy(0, 0, 1, 4, v), 0, 3, -12);
        takes("39 copy: n within", (x, v) -> x.copy(0, 2, 0, 3, v), 0, 4, -12);
    }

    /** What stands in a cell, told by the goals of a result that comes of it, or none. */
    private static void wholeCells() {
        int low = Integer.MIN_VALUE, high = Integer.MAX_VALUE;
        int[][] cells = {
            // sort, v, what stands there, -1 for what is no number of goals
            {0, 0, 0}, {0, 30, 30}, {0, 127, -1}, {0, 128, -1}, {0, 255, -1}, {0, 256, 0}, {0, 286, 30}, {0, -1, -1}, {0, -256, 0}, {0, -226, 30},
            {0, low, 0}, {0, high, -1},
            {1, 30, 30}, {1, 256, -1}, {1, 32767, -1}, {1, 32768, -1}, {1, 65535, -1}, {1, 65536, 0}, {1, 65566, 30}, {1, -65536, 0}, {1, -65506, 30},
            {1, low, 0}, {1, high, -1},
            {2, 30, 30}, {2, 256, -1}, {2, 65536, -1}, {2, low, -1}, {2, high, -1}};
        for (int[] c : cells) {
            LeagueOffice x = Due.clubs(2);
            x.game(0, 0, 1, 0);
            x.sheet(3, c[0], 3);
            String cell = "38 of sort " + c[0] + ", " + c[1];
            due.is(cell, x.cell(3, 1, c[1]), 1);
            due.is(cell + " came", x.results(3, c[0], 0, 1), c[2] < 0 ? 0 : 1);
            due.is(cell + " stands", x.known(0, 0), c[2] < 0 ? -1 : 100 * c[2]);
        }
    }

    private static void results() {
        takes("40 results: sheet", (x, v) -> x.results(v, 1, 0, 1), 0, 3, BAD);
        takes("40 results: sort", (x, v) -> x.results(0, v, 0, 1), 0, 2, BAD);
        takes("40 results: from", (x, v) -> x.results(0, 1, v, 1), 0, 4, -12);
        takes("40 results: n", (x, v) -> x.results(0, 1, 0, v), 0, 13, BAD);
        ofGames("41 taken: game", (x, v) -> x.taken(v, 0), -11);
        takes("41 taken: k", (x, v) -> x.taken(0, v), 0, 5, BAD);
    }

    private static void resultsOf(int n) {
        int size = 3 * n;
        due.is("40 " + n + " in just their room", rowOf(size).results(0, 2, 0, n), n);
        due.is("40 " + n + " from one item on", rowOf(size + 1).results(0, 2, 1, n), n);
        LeagueOffice x = rowOf(size - 1), y = rowOf(size);
        due.is("40 " + n + " in one item less", x.results(0, 2, 0, n), -12);
        due.is("40 those ahead came", x.count(3), n - 1);
        due.is("40 " + n + " from one item on in just their room", y.results(0, 2, 1, n), -12);
        due.is("40 those ahead came", y.count(3), n - 1);
    }

    private static LeagueOffice rowOf(int n) {
        LeagueOffice x = Due.clubs(2);
        x.game(0, 0, 1, 0);
        x.sheet(0, 2, n);
        return x;
    }
}
