/** Promises 33 to 36. */
public final class CoinLaidTest {
    private static final Due due = new Due("CoinLaidTest");

    public static void main(String[] args) {
        coin();
        coinByGates();
        coinWhole();
        meet();
        laid();
        laidByLatest();
        laidByTowns();
        count();
        due.end();
    }

    private static void coin() {
        LeagueOffice x = Due.clubs(3);
        due.is("33 to the first one", x.coin(0, 1000, 0), 111 + 166 + 111 + 2);
        due.is("33 to the second one", x.coin(0, 1000, 1), 111 + 111 + 111);
        due.is("33 to the third one", x.coin(0, 1000, 2), 111 + 55 + 111);
        due.is("33 nothing", x.coin(0, 0, 0), 0);
        due.is("33 one", x.coin(0, 1, 0), 1);
        due.is("33 one", x.coin(0, 1, 1), 0);
        due.is("33 the most", x.coin(0, 999999, 2), 111111 + 55555 + 111111);
        due.is("33 pence -1", x.coin(0, -1, 0), LeagueOffice.NO);
        due.is("33 pence 1000000", x.coin(0, 1000000, 0), LeagueOffice.NO);
        due.is("33 step 4", x.coin(4, 10, 0), LeagueOffice.NO);
        due.is("33 step -1", x.coin(-1, 10, 0), LeagueOffice.NO);
        due.is("33 club 3", x.coin(0, 10, 3), LeagueOffice.NO);
        due.is("33 club -1", x.coin(0, 10, -1), LeagueOffice.NO);
        due.is("33 a club of another step", x.coin(1, 10, 0), LeagueOffice.NO);
        x.take(0, 1, 0);
        due.is("33 to the one that is first now", x.coin(0, 1000, 1), 111 + 166 + 111 + 2);
        due.is("33 to the one that is last now", x.coin(0, 1000, 0), 111 + 55 + 111);
    }

    private static void coinByGates() {
        int[] homes = {300, 75, 240, 0, 384, 0}, guests = {0, 75, 0, 0, 96, 0};
        for (int kind = 0; kind < 6; kind++) {
            LeagueOffice x = Due.clubs(3);
            x.take(0, 50, 0);
            x.take(1, 60, 0);
            x.game(0, 2, 0, 0);
            x.result(0, 0, 0);
            x.game(kind, 0, 1, 0);
            due.is("33 one gate alone", x.coin(0, 3000, 2), 333 + 500 + 1000 + 2);
            due.is("33 nothing by gates", x.coin(0, 3000, 0), 333 + 333);
            x.result(1, 0, 0);
            long all = 300 + homes[kind] + guests[kind];
            due.is("33 home of kind " + kind, x.coin(0, 3000, 0), 333 + 333 + 1000 * homes[kind] / all);
            due.is("33 guest of kind " + kind, x.coin(0, 3000, 1), 333 + 166 + 1000 * guests[kind] / all);
        }
        LeagueOffice y = Due.clubs(2);
        y.step(1, 1);
        y.club(0, 5);
        y.take(2, 1, 0);
        y.game(0, 0, 1, 3);
        y.game(1, 1, 0, 3);
        due.is("33 none known: in like parts", y.coin(0, 300, 2), 50 + 33 + 50);
        y.pass(3);
        y.result(0, 0, 0);
        due.is("33 a game with a club of another step", y.coin(0, 300, 2), 50 + 33);
        due.is("33 a guest's part of 0: in like parts", y.coin(1, 300, 1), 300);
        y.club(1, 6);
        due.is("33 in like parts of two", y.coin(1, 300, 3), 50 + 66 + 50 - 33 + 33 - 33);
        y.result(1, 0, 0);
        due.is("33 a cup one", y.coin(1, 300, 3), 50 + 33);
        y.take(2, 1, 4);
        y.pass(1);
        y.game(0, 2, 1, 4);
        y.result(2, 0, 1);
        y.pass(1);
        y.result(2, 0, 2);
        due.is("33 put right: one gate still", y.coin(0, 375 * 3, 2), 187 + 125 + 375 * 300 / 675);
    }

    private static void coinWhole() {
        LeagueOffice x = Due.clubs(7);
        x.game(4, 0, 1, 0);
        x.game(0, 2, 3, 0);
        x.game(1, 4, 5, 0);
        for (int g = 0; g < 3; g++) x.result(g, g, 1);
        for (int pence : new int[] {0, 1, 2, 3, 17, 100, 12345, 999999}) {
            long sum = 0;
            for (int c = 0; c < 7; c++) sum += x.coin(0, pence, c);
            due.is("33 the sum of " + pence, sum, pence);
        }
        int first = x.table(0, 0, 0), third = 999999 / 3, all = 480 + 300 + 150;
        due.is("33 the first one", first, 1);
        long[] gates = {384, 96, 300, 0, 75, 75, 0};
        for (int c = 0; c < 7; c++) {
            long own = third / 7 + (long) third * (7 - x.place(c, 0)) / 28 + third * gates[c] / all;
            if (c != first) due.is("33 of club " + c, x.coin(0, 999999, c), own);
        }
    }

    private static void meet() {
        LeagueOffice x = Due.clubs(12);
        due.is("34 clubs alike", x.meet(101), -2);
        due.is("34 meet(0)", x.meet(0), -2);
        due.is("34 meet(-2)", x.meet(-2), -2);
        due.is("34 meet(-102)", x.meet(-102), -2);
        due.is("34 the other one 12", x.meet(12), -2);
        due.is("34 the one 12", x.meet(1200), -2);
        due.is("34 the highest int", x.meet(Integer.MAX_VALUE), -2);
        due.is("34 the lowest int", x.meet(Integer.MIN_VALUE), -2);
        due.is("34 count(12)", x.count(12), 0);
        for (int i = 0; i < 6; i++) due.is("34 meeting " + i, x.meet(100 * (2 * i) + 2 * i + 1), i + 1);
        due.is("34 the one is in one", x.meet(3), -3);
        due.is("34 alike ahead of state", x.meet(303), -2);
        due.is("34 all are gone", x.meet(-1), 0);
        due.is("34 count(12)", x.count(12), 0);
        due.is("34 a new one", x.meet(1100), 1);
        due.is("34 the other one is in one", x.meet(111), -3);
        due.is("34 the one is in one", x.meet(1101), -3);
        due.is("34 count(12)", x.count(12), 1);
    }

    private static void laid() {
        LeagueOffice x = Due.clubs(4);
        due.is("35 no meeting, bits", x.laid(0, 0), 0);
        due.is("35 no meeting, breaks", x.laid(0, 1), 0);
        due.is("35 day -1", x.laid(-1, 0), -2);
        due.is("35 day 400", x.laid(400, 0), -2);
        due.is("35 what 2", x.laid(0, 2), -2);
        due.is("35 what -1", x.laid(0, -1), -2);
        x.game(0, 0, 1, 3);
        x.game(0, 2, 3, 3);
        x.meet(2);
        x.meet(103);
        due.is("35 the least bits", x.laid(3, 0), 0);
        due.is("35 no latest ones", x.laid(3, 1), 0);
        due.is("35 the least bits of like ones", x.laid(4, 0), 0);
        due.is("35 two of each", x.laid(4, 1), 2);
        due.is("35 day 399", x.laid(399, 1), 2);
    }

    private static void laidByLatest() {
        LeagueOffice x = Due.clubs(2);
        x.game(0, 0, 1, 5);
        x.game(1, 1, 0, 5);
        x.game(5, 0, 1, 4);
        x.meet(1);
        due.is("35 the later number of one day", x.laid(6, 0), 0);
        due.is("35 the later number of one day", x.laid(6, 1), 0);
        due.is("35 a void one", x.laid(5, 0), 1);
        due.is("35 a void one", x.laid(5, 1), 0);
        due.is("35 ahead of all", x.laid(4, 0), 0);
        x.game(0, 1, 0, 8);
        x.game(0, 0, 1, 7);
        due.is("35 by days", x.laid(9, 0), 0);
        due.is("35 by days", x.laid(8, 0), 1);
        x.club(0, 5);
        x.game(0, 2, 0, 9);
        x.meet(-1);
        x.meet(1);
        due.is("35 one's latest is a later one", x.laid(10, 0), 0);
        due.is("35 one's latest is a later one", x.laid(10, 1), 0);
        x.meet(-1);
        x.meet(201);
        due.is("35 both were at home", x.laid(10, 1), 1);
        due.is("35 the least bits of like ones", x.laid(10, 0), 0);
    }

    private static void laidByTowns() {
        LeagueOffice x = new LeagueOffice();
        int[] towns = {7, 0, 7, 7, 1, 7};
        for (int town : towns) x.club(0, town);
        x.meet(1);
        x.meet(204);
        due.is("35 not both at home", x.laid(0, 0), 1);
        x.game(0, 1, 0, 0);
        due.is("35 with the fewest breaks", x.laid(1, 0), 2);
        due.is("35 with the fewest breaks", x.laid(1, 1), 0);
        x.game(0, 4, 2, 1);
        due.is("35 a break must be", x.laid(2, 1), 2);
        due.is("35 the least of like ones", x.laid(2, 0), 1);
        x.meet(305);
        due.is("35 bits of three", x.laid(0, 0), 3);
        x.meet(-1);
        x.meet(203);
        x.meet(5);
        due.is("35 it can't be", x.laid(0, 0), -1);
        due.is("35 it can't be", x.laid(0, 1), -1);
        x.meet(-1);
        x.meet(203);
        due.is("35 two of one town meet", x.laid(0, 0), 0);
        due.is("35 club 2 was guest", x.laid(2, 0), 0);
    }

    private static void count() {
        LeagueOffice x = new LeagueOffice();
        x.pass(7);
        for (int i = 0; i < 4; i++) x.club(0, 0);
        for (int i = 0; i < 5; i++) x.game(0, 0, 1, 0);
        for (int i = 0; i < 6; i++) x.result(0, 0, 0);
        Due.read(x, "win 3;draw 1;like 0;ban 0;");
        Due.feed(x, "nothing");
        for (int i = 0; i < 8; i++) x.rule(0, 0);
        for (int i = 0; i < 9; i++) x.take(0, 1, 0);
        for (int i = 0; i < 10; i++) x.player();
        for (int i = 0; i < 11; i++) x.register(0, 0, 0);
        for (int i = 0; i < 12; i++) x.card(0, 0, 1);
        for (int i = 0; i < 3; i++) x.played(0, i);
        x.meet(1);
        int[] want = {7, 4, 5, 6, 2, 7, 8, 9, 10, 11, 12, 3, 1};
        for (int what = 0; what < want.length; what++) due.is("36 count(" + what + ")", x.count(what), want[what]);
        due.is("36 count(-1)", x.count(-1), -2);
        due.is("36 count(13)", x.count(13), -2);
    }
}
