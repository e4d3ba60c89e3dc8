/** Promises 1 to 8. */
public final class ClubsGamesTest {
    private static final Due due = new Due("ClubsGamesTest");

    public static void main(String[] args) {
        newObject();
        pass();
        club();
        step();
        game();
        gameTold();
        result();
        known();
        knownOfGiven();
        due.end();
    }

    private static void newObject() {
        LeagueOffice x = new LeagueOffice();
        for (int what = 0; what <= 12; what++) due.is("1 count(" + what + ")", x.count(what), what == 4 ? 1 : 0);
        due.is("1 points(0, 0)", x.points(0, 0), LeagueOffice.NO);
        due.is("1 ruleOf(0)", x.ruleOf(0), 0);
        due.is("1 table(0, 0, 0)", x.table(0, 0, 0), -1);
        for (int s = 0; s < 4; s++) due.is("1 cell(" + s + ", 0, 0)", x.cell(s, 0, 0), -11);
        LeagueOffice y = new LeagueOffice();
        x.club(1, 1);
        x.pass(9);
        due.is("1 another one's clubs", y.count(1), 0);
        due.is("1 another one's day", y.count(0), 0);
        due.is("1 NONE", LeagueOffice.NONE, -1);
        due.is("1 BAD", LeagueOffice.BAD, -2);
        due.is("1 STATE", LeagueOffice.STATE, -3);
        due.is("1 FULL", LeagueOffice.FULL, -4);
        due.is("1 NO", LeagueOffice.NO, -4611686018427387904L);
    }

    private static void pass() {
        LeagueOffice x = new LeagueOffice();
        due.is("2 pass(0)", x.pass(0), -2);
        due.is("2 pass(-1)", x.pass(-1), -2);
        due.is("2 pass(61)", x.pass(61), -2);
        due.is("2 pass(MAX)", x.pass(Integer.MAX_VALUE), -2);
        due.is("2 pass(MIN)", x.pass(Integer.MIN_VALUE), -2);
        due.is("2 count(0)", x.count(0), 0);
        due.is("2 pass(1)", x.pass(1), 1);
        for (int i = 1; i <= 6; i++) due.is("2 pass(60)", x.pass(60), 1 + 60 * i);
        due.is("2 pass(39) to 400", x.pass(39), -4);
        due.is("2 pass(61), bad ahead of full", x.pass(61), -2);
        due.is("2 count(0)", x.count(0), 361);
        due.is("2 pass(38) to 399", x.pass(38), 399);
        due.is("2 pass(1) to 400", x.pass(1), -4);
        due.is("2 count(0)", x.count(0), 399);
    }

    private static void club() {
        LeagueOffice x = new LeagueOffice();
        due.is("3 club(-1, 0)", x.club(-1, 0), -2);
        due.is("3 club(4, 0)", x.club(4, 0), -2);
        due.is("3 club(0, -1)", x.club(0, -1), -2);
        due.is("3 club(0, 8)", x.club(0, 8), -2);
        due.is("3 count(1)", x.count(1), 0);
        for (int i = 0; i < 12; i++) due.is("3 club " + i, x.club(i % 4, i % 8), i);
        due.is("3 a 13th club", x.club(0, 0), -4);
        due.is("3 a bad 13th club", x.club(4, 0), -2);
        due.is("3 count(1)", x.count(1), 12);
        for (int i = 0; i < 12; i++) due.is("3 step of club " + i, x.step(i, 0), i % 4);
    }

    private static void step() {
        LeagueOffice x = Due.clubs(2);
        due.is("4 step(0, 3)", x.step(0, 3), 0);
        due.is("4 step(0, 3)", x.step(0, 3), 3);
        due.is("4 step(0, 1)", x.step(0, 1), 3);
        due.is("4 step(1, 2)", x.step(1, 2), 0);
        due.is("4 step(2, 0)", x.step(2, 0), -2);
        due.is("4 step(-1, 0)", x.step(-1, 0), -2);
        due.is("4 step(0, 4)", x.step(0, 4), -2);
        due.is("4 step(0, -1)", x.step(0, -1), -2);
        due.is("4 step(0, 0)", x.step(0, 0), 1);
        due.is("4 table(0, 0, 0)", x.table(0, 0, 0), 0);
        due.is("4 table(0, 0, 1)", x.table(0, 0, 1), -1);
        due.is("4 table(2, 0, 0)", x.table(2, 0, 0), 1);
    }

    private static void game() {
        LeagueOffice x = Due.clubs(3);
        due.is("5 kind -1", x.game(-1, 0, 1, 0), -2);
        due.is("5 kind 6", x.game(6, 0, 1, 0), -2);
        due.is("5 home -1", x.game(0, -1, 1, 0), -2);
        due.is("5 home 3", x.game(0, 3, 1, 0), -2);
        due.is("5 guest -1", x.game(0, 0, -1, 0), -2);
        due.is("5 guest 3", x.game(0, 0, 3, 0), -2);
        due.is("5 clubs alike", x.game(0, 1, 1, 0), -2);
        due.is("5 day -1", x.game(0, 0, 1, -1), -2);
        due.is("5 day 400", x.game(0, 0, 1, 400), -2);
        due.is("5 count(2)", x.count(2), 0);
        x.pass(5);
        for (int i = 0; i < 60; i++) due.is("5 game " + i, x.game(i % 6, i % 3, (i + 1) % 3, i == 0 ? 399 : i), i);
        due.is("5 a 61st game", x.game(0, 0, 1, 0), -4);
        due.is("5 a bad 61st game", x.game(0, 0, 0, 0), -2);
        due.is("5 count(2)", x.count(2), 60);
    }

    private static void gameTold() {
        LeagueOffice x = Due.clubs(12);
        long[][] told = {{1, 1, 300, 100}, {0, 0, 150, 50}, {1, 1, 240, 100}, {1, 0, 0, 100}, {1, 1, 480, 80}, {0, 0, 0, 100}};
        for (int kind = 0; kind < 6; kind++) {
            x.game(kind, kind, 11 - kind, 390 + kind);
            due.is("6 kind", x.gameTold(kind, 0), kind);
            due.is("6 home", x.gameTold(kind, 1), kind);
            due.is("6 guest", x.gameTold(kind, 2), 11 - kind);
            due.is("6 day", x.gameTold(kind, 3), 390 + kind);
            for (int w = 0; w < 4; w++) due.is("6 kind " + kind + ", what " + (4 + w), x.gameTold(kind, 4 + w), told[kind][w]);
        }
        due.is("6 what -1", x.gameTold(0, -1), -2);
        due.is("6 what 8", x.gameTold(0, 8), -2);
        due.is("6 game -1", x.gameTold(-1, 0), -2);
        due.is("6 game 6", x.gameTold(6, 0), -2);
    }

    private static void result() {
        LeagueOffice x = Due.clubs(2);
        x.game(0, 0, 1, 0);
        x.game(0, 1, 0, 2);
        due.is("7 game 2", x.result(2, 0, 0), -2);
        due.is("7 game -1", x.result(-1, 0, 0), -2);
        due.is("7 home -1", x.result(0, -1, 0), -2);
        due.is("7 home 31", x.result(0, 31, 0), -2);
        due.is("7 guest -1", x.result(0, 0, -1), -2);
        due.is("7 guest 31", x.result(0, 0, 31), -2);
        due.is("7 its day is to come", x.result(1, 0, 0), -3);
        due.is("7 bad ahead of state", x.result(1, 31, 0), -2);
        due.is("7 count(3)", x.count(3), 0);
        due.is("7 result(0, 30, 30)", x.result(0, 30, 30), 1);
        due.is("7 known(0, 0)", x.known(0, 0), 3030);
        x.pass(1);
        due.is("7 a day too early", x.result(1, 0, 0), -3);
        x.pass(1);
        for (int i = 2; i <= 120; i++) due.is("7 result " + i, x.result(1, i % 31, 0), i);
        due.is("7 a 121st", x.result(0, 1, 0), -4);
        due.is("7 a bad 121st", x.result(0, 31, 0), -2);
        x.game(0, 0, 1, 3);
        due.is("7 state ahead of full", x.result(2, 0, 0), -3);
        due.is("7 known(1, 2)", x.known(1, 2), 100 * (120 % 31));
        due.is("7 known(0, 2)", x.known(0, 2), 3030);
    }

    private static void known() {
        LeagueOffice x = Due.clubs(2);
        x.game(0, 0, 1, 1);
        x.pass(3);
        due.is("8 none yet", x.known(0, 3), -1);
        x.result(0, 2, 1);
        x.result(0, 4, 3);
        x.pass(2);
        x.result(0, 0, 7);
        due.is("8 known(0, 2)", x.known(0, 2), -1);
        due.is("8 the last of one day", x.known(0, 3), 403);
        due.is("8 known(0, 4)", x.known(0, 4), 403);
        due.is("8 put right", x.known(0, 5), 7);
        due.is("8 day to come", x.known(0, 6), -2);
        due.is("8 day -1", x.known(0, -1), -2);
        due.is("8 game 1", x.known(1, 0), -2);
        due.is("8 game -1", x.known(-1, 0), -2);
    }

    private static void knownOfGiven() {
        LeagueOffice x = Due.clubs(2);
        x.game(3, 0, 1, 2);
        x.game(5, 0, 1, 2);
        due.is("8 a given one ahead of its day", x.known(0, 0), 300);
        due.is("8 a void one", x.known(1, 0), -1);
        x.pass(4);
        x.result(0, 1, 1);
        x.result(1, 2, 2);
        due.is("8 a given one till it was told", x.known(0, 3), 300);
        due.is("8 a given one that was told", x.known(0, 4), 101);
        due.is("8 a void one that was told", x.known(1, 4), 202);
        due.is("8 a void one ahead of that", x.known(1, 3), -1);
    }
}
