/** Promises 18 to 28. */
public final class PlayersCardsTest {
    private static final Due due = new Due("PlayersCardsTest");

    public static void main(String[] args) {
        player();
        register();
        clubOf();
        card();
        bans();
        bansByTexts();
        banned();
        bannedOfClub();
        may();
        played();
        wrong();
        failVoid();
        failGiven();
        failEdges();
        undo();
        undoOfSeveral();
        undoOfTheFirst();
        wrongNoMore();
        failWithNoGoals();
        due.end();
    }

    private static void player() {
        LeagueOffice x = new LeagueOffice();
        for (int i = 0; i < 20; i++) due.is("18 player " + i, x.player(), i);
        due.is("18 a 21st", x.player(), -4);
        due.is("18 count(8)", x.count(8), 20);
    }

    private static void register() {
        LeagueOffice x = Due.clubs(2);
        x.player();
        due.is("19 player 1", x.register(1, 0, 0), -2);
        due.is("19 player -1", x.register(-1, 0, 0), -2);
        due.is("19 club 2", x.register(0, 2, 0), -2);
        due.is("19 club -1", x.register(0, -1, 0), -2);
        due.is("19 day -1", x.register(0, 0, -1), -2);
        due.is("19 day 400", x.register(0, 0, 400), -2);
        due.is("19 count(9)", x.count(9), 0);
        for (int i = 1; i <= 40; i++) due.is("19 telling " + i, x.register(0, i % 2, 399), i);
        due.is("19 a 41st", x.register(0, 0, 0), -4);
        due.is("19 a bad 41st", x.register(0, 0, 400), -2);
        due.is("19 count(9)", x.count(9), 40);
    }

    private static void clubOf() {
        LeagueOffice x = Due.clubs(5);
        x.player();
        x.player();
        x.register(0, 1, 10);
        x.register(0, 2, 5);
        x.register(1, 4, 0);
        x.register(0, 3, 10);
        x.register(0, 0, 20);
        int[][] want = {{0, -1}, {4, -1}, {5, 2}, {9, 2}, {10, 3}, {19, 3}, {20, 0}, {399, 0}};
        for (int[] w : want) due.is("20 clubOf(0, " + w[0] + ")", x.clubOf(0, w[0]), w[1]);
        x.register(0, 4, 4);
        int[][] then = {{3, -1}, {4, 4}, {5, 2}, {10, 3}, {399, 0}};
        for (int[] w : then) due.is("20 one told last from an earlier day on, " + w[0], x.clubOf(0, w[0]), w[1]);
        due.is("20 another one", x.clubOf(1, 5), 4);
        due.is("20 day -1", x.clubOf(0, -1), -2);
        due.is("20 day 400", x.clubOf(0, 400), -2);
        due.is("20 player 2", x.clubOf(2, 0), -2);
        due.is("20 player -1", x.clubOf(-1, 0), -2);
    }

    private static void card() {
        LeagueOffice x = Due.clubs(2);
        x.player();
        x.game(0, 0, 1, 3);
        due.is("21 player 1", x.card(1, 0, 1), -2);
        due.is("21 player -1", x.card(-1, 0, 1), -2);
        due.is("21 game 1", x.card(0, 1, 1), -2);
        due.is("21 game -1", x.card(0, -1, 1), -2);
        due.is("21 kind 0", x.card(0, 0, 0), -2);
        due.is("21 kind 3", x.card(0, 0, 3), -2);
        due.is("21 count(10)", x.count(10), 0);
        for (int i = 0; i < 40; i++) due.is("21 card " + i, x.card(0, 0, 1 + i % 2), i);
        due.is("21 a 41st", x.card(0, 0, 1), -4);
        due.is("21 a bad 41st", x.card(0, 0, 3), -2);
        due.is("21 count(10)", x.count(10), 40);
    }

    private static void bans() {
        LeagueOffice x = Due.clubs(2);
        x.player();
        x.player();
        x.game(0, 0, 1, 0);
        int[] players = {0, 1, 0, 0, 1, 0, 0, 0}, kinds = {1, 1, 1, 2, 1, 1, 1, 2};
        int[] want = {0, 0, 0, 1, 0, 0, 0, 1};
        for (int i = 0; i < players.length; i++) x.card(players[i], 0, kinds[i]);
        want[5] = 0;
        for (int i = 0; i < players.length; i++) {
            int cards = 0;
            for (int k = 0; k <= i; k++) if (players[k] == players[i]) cards++;
            due.is("22 bans(" + i + ")", x.bans(i), kinds[i] == 2 || cards == 5 ? 1 : 0);
        }
        due.is("22 the fifth of its player", x.bans(6), 1);
        due.is("22 the fourth of its player", x.bans(5), 0);
        due.is("22 bans(-1)", x.bans(-1), -2);
        due.is("22 bans(8)", x.bans(8), -2);
    }

    private static int bansBy(String e) {
        LeagueOffice x = Due.clubs(2);
        Due.ruled(x, "win 0;draw 0;like 0;ban " + e + ";");
        x.player();
        x.game(0, 0, 1, 0);
        x.card(0, 0, 1);
        x.card(0, 0, 2);
        return x.bans(1);
    }

    private static void bansByTexts() {
        due.is("22 ban 5", bansBy("5"), 5);
        due.is("22 ban 6", bansBy("6"), 5);
        due.is("22 ban - 1", bansBy("-1"), 0);
        due.is("22 ban 0", bansBy("0"), 0);
        due.is("22 ban kind", bansBy("kind"), 2);
        due.is("22 ban cards * 2", bansBy("cards*2"), 4);
        due.is("22 the lowest int", bansBy("2048*1024*1024"), 0);
        due.is("22 the highest int", bansBy("2048*1024*1024-1"), 5);
        due.is("22 all others are 0", bansBy("goals+made+won+late+3"), 3);
        LeagueOffice x = Due.clubs(2);
        Due.read(x, "win 0;draw 0;like 0;ban 4;");
        x.rule(1, 6);
        x.player();
        x.game(0, 0, 1, 5);
        x.game(0, 0, 1, 6);
        x.card(0, 0, 1);
        x.card(0, 1, 1);
        due.is("22 by the rule of the game's day", x.bans(0), 0);
        due.is("22 by the rule of the game's day", x.bans(1), 4);
    }

    /** Club 0 with games of all kinds, told in no order of their days. */
    private static LeagueOffice season() {
        LeagueOffice x = Due.clubs(3);
        int[][] games = {{0, 9}, {0, 3}, {2, 5}, {1, 4}, {3, 4}, {4, 3}, {5, 6}, {0, 5}, {0, 2}};
        for (int i = 0; i < games.length; i++) x.game(games[i][0], i % 2 == 0 ? 0 : 1, i % 2 == 0 ? 1 : 0, games[i][1]);
        x.game(0, 1, 2, 4);
        x.player();
        x.player();
        x.register(0, 0, 0);
        x.register(1, 1, 0);
        return x;
    }

    private static void banned() {
        LeagueOffice x = season();
        Due.ruled(x, "win 0;draw 0;like 0;ban cards;");
        x.card(0, 8, 1);
        x.card(1, 8, 1);
        x.card(0, 8, 1);
        x.card(0, 1, 1);
        due.is("23 the next one", x.banned(0, 0), 1);
        due.is("23 no more than so many", x.banned(0, 1), -1);
        due.is("23 another player's", x.banned(1, 0), 1);
        due.is("23 what the first one left", x.banned(2, 0), 5);
        due.is("23 by days, then by numbers", x.banned(2, 1), 2);
        due.is("23 of two", x.banned(2, 2), -1);
        due.is("23 behind its own game's day", x.banned(3, 0), 7);
        due.is("23 behind its own game's day", x.banned(3, 1), 0);
        due.is("23 none is left", x.banned(3, 2), -1);
        due.is("23 bans(3)", x.bans(3), 3);
        due.is("23 i -1", x.banned(0, -1), -1);
        due.is("23 i far", x.banned(0, Integer.MAX_VALUE), -1);
        due.is("23 card 4", x.banned(4, 0), -2);
        due.is("23 card -1", x.banned(-1, 0), -2);
    }

    private static void bannedOfClub() {
        LeagueOffice x = season();
        Due.ruled(x, "win 0;draw 0;like 0;ban 2;");
        x.player();
        x.card(2, 8, 1);
        due.is("23 of one who is not registered", x.banned(0, 0), -1);
        x.register(2, 2, 3);
        due.is("23 of one who is registered later", x.banned(0, 0), -1);
        x.card(2, 1, 1);
        due.is("23 for the club of the game's day", x.banned(1, 0), 9);
        due.is("23 one is all there is", x.banned(1, 1), -1);
        x.register(2, 1, 4);
        due.is("23 a change behind that changes nothing", x.banned(1, 0), 9);
        due.is("23 a change behind that changes nothing", x.banned(1, 1), -1);
    }

    private static void may() {
        LeagueOffice x = season();
        x.player();
        x.card(0, 8, 2);
        due.is("24 banned", x.may(0, 1), 0);
        due.is("24 behind that", x.may(0, 5), 1);
        due.is("24 in the card's own game", x.may(0, 8), 1);
        due.is("24 in a cup one", x.may(0, 3), 1);
        due.is("24 in others' game", x.may(0, 9), 0);
        due.is("24 the other club's", x.may(1, 1), 1);
        due.is("24 of no club", x.may(2, 1), 0);
        x.register(2, 1, 4);
        due.is("24 not registered yet", x.may(2, 1), 0);
        due.is("24 registered in its day", x.may(2, 9), 1);
        x.register(0, 2, 4);
        due.is("24 gone to another club", x.may(0, 2), 0);
        due.is("24 gone to another club", x.may(0, 9), 1);
        due.is("24 player 3", x.may(3, 0), -2);
        due.is("24 player -1", x.may(-1, 0), -2);
        due.is("24 game 10", x.may(0, 10), -2);
        due.is("24 game -1", x.may(0, -1), -2);
    }

    private static void played() {
        LeagueOffice x = Due.clubs(2);
        for (int i = 0; i < 20; i++) x.player();
        for (int i = 0; i < 4; i++) x.game(0, 0, 1, i);
        due.is("25 player 20", x.played(20, 0), -2);
        due.is("25 player -1", x.played(-1, 0), -2);
        due.is("25 game 4", x.played(0, 4), -2);
        due.is("25 game -1", x.played(0, -1), -2);
        for (int i = 0; i < 60; i++) due.is("25 playing " + i, x.played(i % 20, i / 20), i + 1);
        due.is("25 told ahead of full", x.played(3, 2), -3);
        due.is("25 a 61st", x.played(0, 3), -4);
        due.is("25 a bad 61st", x.played(0, 4), -2);
        due.is("25 count(11)", x.count(11), 60);
    }

    private static void wrong() {
        LeagueOffice x = season();
        due.is("26 none", x.wrong(-1), 0);
        due.is("26 none", x.wrong(0), -1);
        x.played(0, 8);
        x.played(0, 9);
        x.played(0, 5);
        x.played(1, 5);
        due.is("26 one of others", x.wrong(-1), 1);
        due.is("26 one of others", x.wrong(0), 9);
        x.card(0, 8, 2);
        due.is("26 not for game 5", x.wrong(-1), 1);
        x.card(0, 8, 2);
        x.card(1, 8, 2);
        due.is("26 with a card more", x.wrong(-1), 2);
        due.is("26 by numbers", x.wrong(0), 5);
        due.is("26 by numbers", x.wrong(1), 9);
        due.is("26 wrong(2)", x.wrong(2), -1);
        due.is("26 wrong(-2)", x.wrong(-2), -1);
        x.player();
        x.played(2, 9);
        x.played(2, 5);
        due.is("26 a game is wrong once", x.wrong(-1), 2);
    }

    private static void failVoid() {
        LeagueOffice x = Due.clubs(3);
        x.game(0, 0, 1, 0);
        x.game(2, 1, 0, 0);
        x.game(4, 0, 2, 5);
        x.game(1, 0, 2, 5);
        x.game(0, 1, 2, 5);
        x.game(5, 0, 1, 5);
        x.result(0, 2, 0);
        due.is("27 one of three", x.fail(0), 3);
        for (int g : new int[] {0, 1, 2, 5}) due.is("27 void " + g, x.gameTold(g, 0), 5);
        due.is("27 home stays", x.gameTold(1, 1), 1);
        due.is("27 guest stays", x.gameTold(1, 2), 0);
        due.is("27 a cup one stays", x.gameTold(3, 0), 1);
        due.is("27 others' stays", x.gameTold(4, 0), 0);
        due.is("27 points", x.points(0, 0), 0);
        due.is("27 its result is known still", x.known(0, 0), 200);
        due.is("27 it did", x.fail(0), -3);
        due.is("27 club 3", x.fail(3), -2);
        due.is("27 club -1", x.fail(-1), -2);
        due.is("28 undo", x.undo(0), 3);
        due.is("28 kind", x.gameTold(0, 0), 0);
        due.is("28 kind", x.gameTold(1, 0), 2);
        due.is("28 kind", x.gameTold(2, 0), 4);
        due.is("28 a void one that was", x.gameTold(5, 0), 5);
        due.is("28 points", x.points(0, 0), 3);
    }

    private static void failGiven() {
        LeagueOffice x = Due.clubs(3);
        x.game(0, 0, 1, 0);
        x.game(3, 0, 2, 7);
        x.game(0, 0, 2, 8);
        x.game(2, 1, 0, 9);
        x.result(0, 2, 0);
        due.is("27 half of all, a given one among them", x.fail(0), 2);
        due.is("27 a known one stays", x.gameTold(0, 0), 0);
        due.is("27 a given one stays", x.gameTold(1, 1), 0);
        due.is("27 given", x.gameTold(2, 0), 3);
        due.is("27 the other one at home", x.gameTold(2, 1), 2);
        due.is("27 the club as guest", x.gameTold(2, 2), 0);
        due.is("27 given", x.gameTold(3, 0), 3);
        due.is("27 at home already", x.gameTold(3, 1), 1);
        due.is("27 guest already", x.gameTold(3, 2), 0);
        due.is("27 3 to 0", x.known(3, 0), 300);
        due.is("28 undo", x.undo(0), 2);
        due.is("28 home", x.gameTold(2, 1), 0);
        due.is("28 guest", x.gameTold(2, 2), 2);
        due.is("28 kind", x.gameTold(3, 0), 2);
        due.is("28 not known", x.known(3, 0), -1);
    }

    private static void failEdges() {
        LeagueOffice x = Due.clubs(3);
        due.is("27 without games", x.fail(2), 0);
        due.is("27 it did", x.fail(2), -3);
        due.is("28 without games", x.undo(2), 0);
        x.game(1, 2, 1, 0);
        due.is("27 with a cup one", x.fail(2), 0);
        for (int i = 0; i < 5; i++) x.game(0, 0, 1, 0);
        x.result(1, 1, 0);
        x.result(2, 1, 0);
        due.is("27 two of five", x.fail(0), 5);
        x.undo(0);
        x.result(3, 1, 0);
        due.is("27 three of five", x.fail(0), 2);
        x.undo(0);
        x.game(0, 0, 1, 0);
        due.is("27 three of six", x.fail(0), 3);
        due.is("27 those that do not count", x.game(0, 0, 1, 0), 7);
        due.is("27 the other club", x.fail(1), 1);
        due.is("27 a game of the one that failed", x.gameTold(7, 1), 0);
    }

    private static void undo() {
        LeagueOffice x = Due.clubs(2);
        due.is("28 it didn't", x.undo(0), -3);
        due.is("28 club 2", x.undo(2), -2);
        due.is("28 club -1", x.undo(-1), -2);
        x.game(0, 0, 1, 0);
        x.fail(0);
        due.is("28 undone", x.undo(0), 1);
        due.is("28 once", x.undo(0), -3);
        due.is("27 again", x.fail(0), 1);
        due.is("28 again", x.undo(0), 1);
        due.is("28 kind", x.gameTold(0, 0), 0);
        x.fail(0);
        x.game(0, 0, 1, 0);
        due.is("28 a game told since", x.undo(0), 1);
        due.is("28 is as it was", x.gameTold(1, 0), 0);
    }

    private static void undoOfSeveral() {
        LeagueOffice x = Due.clubs(3);
        x.game(0, 0, 1, 0);
        x.game(0, 1, 2, 0);
        x.game(0, 0, 2, 0);
        x.result(0, 1, 0);
        due.is("27 half: one given", x.fail(0), 1);
        for (int i = 0; i < 3; i++) x.game(0, 2, 1, 9);
        due.is("27 fewer than half: all void", x.fail(2), 5);
        due.is("27 the given one, too", x.gameTold(2, 0), 5);
        due.is("28 changed by another one since", x.undo(0), -3);
        due.is("28 and stays so", x.gameTold(2, 0), 5);
        due.is("28 the later one", x.undo(2), 5);
        due.is("28 as the first one left it", x.gameTold(2, 0), 3);
        due.is("28 home", x.gameTold(2, 1), 2);
        due.is("28 it was changed since", x.undo(0), -3);

        LeagueOffice y = Due.clubs(4);
        y.game(0, 0, 1, 0);
        y.game(0, 2, 3, 0);
        y.fail(0);
        y.fail(2);
        due.is("28 the first one, nothing in common", y.undo(0), 1);
        due.is("28 the second one", y.undo(2), 1);
        y.fail(0);
        due.is("27 nothing is left", y.fail(1), 0);
        due.is("28 untouched since", y.undo(0), 1);
    }

    /** The first game and the first club, and the last ones, are as all others. */
    private static void undoOfTheFirst() {
        LeagueOffice x = Due.clubs(3);
        x.game(0, 0, 1, 0);
        due.is("27 the second one", x.fail(1), 1);
        due.is("27 the first one, nothing is left", x.fail(0), 0);
        due.is("28 the second one's is as it left it", x.undo(1), 1);
        due.is("28 the first one's none", x.undo(0), 0);

        LeagueOffice y = Due.clubs(12);
        for (int g = 0; g < 59; g++) y.game(1, 0, 1, 0);
        y.game(0, 10, 11, 0);
        due.is("27 the last but one", y.fail(10), 1);
        due.is("27 the last one, nothing is left", y.fail(11), 0);
        due.is("28 the last but one", y.undo(10), 1);
        due.is("28 kind of the last game", y.gameTold(59, 0), 0);

        LeagueOffice z = Due.clubs(3);
        z.game(0, 0, 1, 9);
        z.game(0, 0, 2, 0);
        z.result(1, 1, 0);
        due.is("27 half of them: the first one is given", z.fail(0), 1);
        for (int i = 0; i < 2; i++) z.game(0, 2, 1, 9);
        due.is("27 all of the other one are void", z.fail(1), 3);
        due.is("28 the first game was changed since", z.undo(0), -3);
        due.is("28 and is void still", z.gameTold(0, 0), 5);
    }

    private static void wrongNoMore() {
        LeagueOffice x = season();
        x.player();
        x.played(2, 5);
        x.played(2, 9);
        due.is("26 two of one who is registered for none", x.wrong(-1), 2);
        x.register(2, 0, 3);
        due.is("26 one no more", x.wrong(-1), 1);
        due.is("26 the other one", x.wrong(0), 9);
        x.register(2, 2, 4);
        due.is("26 none", x.wrong(-1), 0);
        due.is("26 none", x.wrong(0), -1);
        x.card(2, 8, 2);
        due.is("26 of a day ahead of all registering", x.wrong(-1), 0);
        x.register(2, 0, 2);
        due.is("26 banned for another game", x.wrong(-1), 0);
        x.card(2, 8, 2);
        due.is("26 banned for this one", x.wrong(-1), 1);
        due.is("26 banned for this one", x.wrong(0), 5);
        x.fail(1);
        due.is("26 another kind of it serves no ban", x.gameTold(5, 5), 0);
        due.is("26 so it is wrong no more", x.wrong(-1), 0);
    }

    private static void failWithNoGoals() {
        LeagueOffice x = Due.clubs(2);
        x.game(0, 0, 1, 0);
        x.game(0, 1, 0, 3);
        x.result(0, 0, 0);
        due.is("27 none to none is known", x.fail(0), 1);
        due.is("27 it stays", x.gameTold(0, 0), 0);
        due.is("27 the other one is given", x.gameTold(1, 0), 3);
        due.is("28 undo", x.undo(0), 1);
        x.game(0, 0, 1, 3);
        due.is("27 one of three", x.fail(0), 3);
    }
}
