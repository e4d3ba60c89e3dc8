/** Promises 29 to 32. */
public final class ComingTest {
    private static final Due due = new Due("ComingTest");

    public static void main(String[] args) {
        open();
        openOfMany();
        can();
        canByGoals();
        canByRules();
        sure();
        needs();
        needsOfOthers();
        needsByTexts();
        needsOfOneGame();
        needsOfAllSix();
        drawsByTexts();
        losersHaveNotWon();
        askedOneAfterAnother();
        oneEndAlone();
        due.end();
    }

    private static void open() {
        LeagueOffice x = Due.clubs(4);
        x.step(3, 1);
        for (int kind = 0; kind < 6; kind++) x.game(kind, 0, 1, kind);
        x.game(0, 0, 3, 0);
        due.is("29 those that count and have none", x.open(0), 3);
        due.is("29 another step", x.open(1), 0);
        due.is("29 step 4", x.open(4), -2);
        due.is("29 step -1", x.open(-1), -2);
        x.result(0, 0, 0);
        due.is("29 one is known", x.open(0), 2);
        x.step(3, 0);
        due.is("29 a club more", x.open(0), 3);
        x.step(0, 1);
        due.is("29 a club less", x.open(0), 0);
        due.is("29 alone", x.open(1), 0);
        x.step(3, 1);
        due.is("29 both went", x.open(1), 1);
    }

    private static void openOfMany() {
        LeagueOffice x = Due.clubs(3);
        for (int i = 0; i < 6; i++) x.game(0, 0, 1, i);
        due.is("29 six", x.open(0), 6);
        due.is("30 six", x.can(0, 1), 2);
        x.game(0, 1, 2, 9);
        due.is("29 seven", x.open(0), 7);
        due.is("30 seven", x.can(0, 0), -3);
        due.is("31 seven", x.sure(0, 0), -3);
        due.is("32 seven", x.needs(0, 0), -3);
        due.is("30 bad ahead of state", x.can(0, 2), -2);
        due.is("31 bad ahead of state", x.sure(0, 12), -2);
        due.is("32 bad ahead of state", x.needs(0, 12), -2);
        x.step(2, 1);
        due.is("30 six again", x.can(0, 0), 0);
        due.is("30 in the other step", x.can(2, 1), 0);
    }

    /** Club 3 has won, 0 has drawn with 1; the open game is between 2 and 0. */
    private static LeagueOffice almostDone() {
        LeagueOffice x = Due.clubs(4);
        x.game(0, 3, 2, 0);
        x.game(0, 0, 1, 0);
        x.game(0, 2, 0, 5);
        x.result(0, 2, 0);
        x.result(1, 1, 1);
        return x;
    }

    private static void can() {
        LeagueOffice x = almostDone();
        int[][] want = {{0, 3}, {2, 2}, {1, 3}, {0, 1}};
        for (int c = 0; c < 4; c++) {
            due.is("30 best of " + c, x.can(c, 0), want[c][0]);
            due.is("30 worst of " + c, x.can(c, 1), want[c][1]);
        }
        due.is("30 what 2", x.can(0, 2), -2);
        due.is("30 what -1", x.can(0, -1), -2);
        due.is("30 club 4", x.can(4, 0), -2);
        due.is("30 club -1", x.can(-1, 0), -2);
        due.is("30 nothing is left behind", x.points(2, 0), 0);
        due.is("30 nothing is left behind", x.like(2, 0), -200);
        x.pass(5);
        x.result(2, 0, 1);
        int[] places = {0, 2, 3, 1};
        for (int c = 0; c < 4; c++) {
            due.is("30 all is known, best of " + c, x.can(c, 0), places[c]);
            due.is("30 all is known, worst of " + c, x.can(c, 1), places[c]);
        }
    }

    private static void canByGoals() {
        LeagueOffice x = Due.clubs(4);
        Due.ruled(x, "win 0;draw 0;like won*100+made*10+goals;ban 0;");
        x.game(0, 2, 3, 0);
        x.result(0, 2, 1);
        x.game(0, 0, 1, 5);
        due.is("30 won, made and goals of one more win", x.can(0, 0), 1);
        x.result(0, 1, 1);
        due.is("30 won counts", x.can(0, 0), 0);
        due.is("30 the loser's goals count", x.can(1, 1), 3);
        due.is("30 a draw's goals don't", x.can(0, 1), 3);
    }

    private static void canByRules() {
        LeagueOffice x = Due.clubs(3);
        Due.read(x, "win 100*goals+10*made+kind+late;draw 5;like 0;ban 0;");
        Due.read(x, "win 0;draw 7;like won;ban 0;");
        x.rule(1, 3);
        x.rule(2, 4);
        x.game(4, 0, 1, 3);
        x.game(0, 0, 1, 4);
        due.is("32 two draws", x.needs(0, 0), 12);
        due.is("32 two draws are not enough for the other one", x.needs(1, 0), 115);
        due.is("32 a draw and a loss", x.needs(1, 1), 5);
        x.take(0, 99, 0);
        x.take(0, 16, 0);
        due.is("32 all that was taken comes back", x.needs(0, 0), 115);
        x.take(0, 1, 0);
        due.is("32 one more is taken", x.needs(0, 0), -1);
        due.is("32 one more is taken, of the second place", x.needs(0, 1), 122);
        due.is("30 one more is taken", x.can(0, 0), 1);
    }

    private static void sure() {
        LeagueOffice x = almostDone();
        int[] worst = {3, 2, 3, 1};
        for (int c = 0; c < 4; c++) {
            for (int p = 0; p < 12; p++) due.is("31 sure(" + c + ", " + p + ")", x.sure(c, p), p >= worst[c] ? 1 : 0);
        }
        due.is("31 place -1", x.sure(0, -1), -2);
        due.is("31 place 12", x.sure(0, 12), -2);
        due.is("31 club 4", x.sure(4, 0), -2);
        due.is("31 club -1", x.sure(-1, 0), -2);
    }

    private static void needs() {
        LeagueOffice x = Due.clubs(3);
        x.game(0, 0, 1, 5);
        x.game(0, 1, 2, 6);
        x.game(0, 2, 0, 7);
        due.is("32 the first place", x.needs(0, 0), 4);
        due.is("32 the second place", x.needs(0, 1), 2);
        due.is("32 the third place", x.needs(0, 2), 0);
        due.is("32 the first place of 2", x.needs(2, 0), 6);
        due.is("32 place -1", x.needs(0, -1), -2);
        due.is("32 place 12", x.needs(0, 12), -2);
        due.is("32 place 11", x.needs(0, 11), 0);
        due.is("32 club 3", x.needs(3, 0), -2);
        due.is("32 club -1", x.needs(-1, 0), -2);
    }

    private static void needsOfOthers() {
        LeagueOffice x = Due.clubs(3);
        x.game(0, 1, 2, 5);
        due.is("32 none is its own", x.needs(0, 0), -1);
        due.is("32 none is its own", x.needs(0, 1), -1);
        due.is("32 none is its own", x.needs(0, 2), 0);
        x.game(3, 0, 1, 0);
        due.is("32 ahead by likes", x.needs(0, 0), 0);
        x.game(0, 0, 1, 5);
        x.game(0, 0, 2, 5);
        x.step(1, 1);
        due.is("32 only those of its step", x.open(0), 1);
        due.is("32 only those of its step", x.needs(2, 0), -1);
    }

    private static void needsByTexts() {
        LeagueOffice x = Due.clubs(2);
        Due.ruled(x, "win 2048*1024*1024-1;draw 0-5;like 0;ban 0;");
        x.game(0, 0, 1, 5);
        x.game(0, 0, 1, 5);
        x.game(0, 0, 1, 5);
        due.is("32 the lowest bits of a long", x.needs(1, 0), (int) (2L * Integer.MAX_VALUE - 5 - Integer.MAX_VALUE + Integer.MAX_VALUE));
        due.is("32 below 0", x.needs(0, 1), -15);
    }

    private static void needsOfOneGame() {
        LeagueOffice x = Due.clubs(3);
        x.game(0, 1, 0, 5);
        due.is("32 a win alone is enough", x.needs(1, 0), 3);
        due.is("32 a draw is enough for the least one", x.needs(0, 0), 1);
        due.is("32 behind by goals", x.needs(1, 1), 1);
        due.is("32 ahead of 2 by its number, but for a loss", x.needs(0, 1), 1);
        due.is("32 the last place", x.needs(1, 2), 0);
        due.is("32 the last place", x.needs(0, 2), 0);
        x.take(1, 4, 0);
        due.is("32 a win is not enough", x.needs(1, 1), -1);
        due.is("32 nor for the first place", x.needs(1, 0), -1);
        due.is("32 what is enough always", x.needs(1, 2), 0);
        x.take(0, 4, 0);
        due.is("32 a win of the guest is not enough", x.needs(0, 0), -1);
        due.is("32 a draw is", x.needs(0, 1), 1);
    }

    /** One that needs to win all six of its games, at home or as a guest. */
    private static void needsOfAllSix() {
        for (int home = 0; home < 2; home++) {
            LeagueOffice x = Due.clubs(2);
            for (int i = 0; i < 6; i++) x.game(0, home, 1 - home, i);
            x.take(0, 18, 0);
            due.is("32 all six", x.needs(0, 0), 18);
            due.is("30 all six", x.can(0, 0), 0);
            due.is("30 the other one can be second", x.can(1, 1), 1);
            due.is("32 the other one needs a draw", x.needs(1, 0), 1);
            x.take(0, 1, 0);
            due.is("32 all six are not enough", x.needs(0, 0), -1);
            due.is("31 the other one is sure", x.sure(1, 0), 1);
            due.is("32 the other one needs nothing", x.needs(1, 0), 0);
        }
    }

    private static void drawsByTexts() {
        LeagueOffice x = Due.clubs(3);
        Due.ruled(x, "win 9;draw goals*100+made*10+kind+late*20+3;like 0;ban 0;");
        x.game(4, 1, 0, 5);
        x.take(0, 20, 0);
        due.is("32 a draw of none to none is more than a win", x.needs(0, 1), 27);
        x.take(0, 7, 0);
        due.is("32 it is just enough", x.needs(0, 1), 27);
        due.is("30 with it", x.can(0, 0), 1);
        x.take(0, 1, 0);
        due.is("32 it is not enough", x.needs(0, 1), -1);
        due.is("30 with it", x.can(0, 0), 2);
    }

    private static void losersHaveNotWon() {
        LeagueOffice x = Due.clubs(3);
        Due.ruled(x, "win 0;draw 0;like won;ban 0;");
        x.game(0, 0, 1, 5);
        x.game(0, 0, 1, 6);
        due.is("30 none won less than the third one", x.can(2, 0), 2);
        due.is("30 the third one, worst", x.can(2, 1), 2);
        due.is("30 the first one", x.can(0, 1), 1);
    }

    /** What was asked of more games, or by greater places, does not stand in what is asked then. */
    private static void askedOneAfterAnother() {
        LeagueOffice x = Due.clubs(9);
        for (int c = 5; c < 9; c++) x.step(c, c < 8 ? 1 : 2);
        for (int i = 0; i < 6; i++) x.game(0, i % 2, 4, i);
        x.game(0, 5, 6, 0);
        x.take(4, 99, 0);
        x.take(8, 50, 0);
        due.is("30 of five", x.can(4, 1), 4);
        due.is("30 of one alone", x.can(8, 1), 0);
        due.is("31 of one alone", x.sure(8, 0), 1);
        due.is("32 of five", x.needs(4, 0), -1);
        due.is("32 of one alone", x.needs(8, 0), 0);
        due.is("32 of three", x.needs(5, 0), 1);
        due.is("30 of five", x.can(4, 0), 4);
        due.is("30 of three", x.can(6, 1), 2);
        due.is("30 of three", x.can(5, 0), 0);
        due.is("32 of three, the last place", x.needs(7, 2), 0);
        due.is("32 of three, none is its own", x.needs(7, 1), -1);
    }

    /** A place that comes by one end of nine alone: the one game is drawn, the other one is won, at home or not. */
    private static void oneEndAlone() {
        for (int turn = 0; turn < 4; turn++) {
            LeagueOffice x = Due.clubs(4);
            int home = turn % 2 == 0 ? 2 : 3;
            if (turn < 2) x.game(0, 0, 1, 5);
            x.game(0, home, 5 - home, 5);
            if (turn >= 2) x.game(0, 0, 1, 5);
            for (int c = 2; c < 4; c++) x.take(c, 1, 0);
            due.is("30 drawn and won", x.can(2, 0), 0);
            due.is("30 drawn and won, the other one", x.can(3, 0), 0);
            due.is("32 a win is not enough always", x.needs(2, 0), -1);
            due.is("32 a win, for the second place", x.needs(2, 1), 3);
            for (int c = 2; c < 4; c++) x.take(c, 2, 0);
            due.is("30 one point too few", x.can(2, 0), 1);
            due.is("30 one of the others wins, or both have more", x.can(3, 1), 3);
        }
    }
}
