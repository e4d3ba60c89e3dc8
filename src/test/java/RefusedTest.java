import java.util.Arrays;
import java.util.function.Consumer;
import java.util.function.ToLongFunction;

/** Each refusal, the first that the call's words name where several are due, and that it changes nothing. */
public final class RefusedTest {
    private static final Due due = new Due("RefusedTest");
    private static final int NONE = -1, BAD = -2, STATE = -3, FULL = -4, NOTHING = -11, OUTSIDE = -12, OTHER_SORT = -13, BELOW_ZERO = -14;
    private static final long NO = LeagueOffice.NO;
    private static final int LOW = Integer.MIN_VALUE, HIGH = Integer.MAX_VALUE;

    public static void main(String[] args) {
        clubsGames();
        rules();
        players();
        failures();
        many();
        coinLaid();
        sheets();
        results();
        due.end();
    }

    /** A call that is refused leaves an object that answers all as one does that was not asked. */
    private static void refused(String call, Consumer<LeagueOffice> ahead, ToLongFunction<LeagueOffice> ask, long want) {
        for (int part = 0; part < Busy.PARTS; part++) {
            LeagueOffice asked = Busy.office(), other = Busy.office();
            ahead.accept(asked);
            ahead.accept(other);
            long got = ask.applyAsLong(asked);
            if (part == 0) due.is(call, got, want);
            due.isTrue(call + " changes nothing of part " + part, Arrays.equals(Busy.answers(asked, part), Busy.answers(other, part)));
        }
    }

    private static void refused(String call, ToLongFunction<LeagueOffice> ask, long want) {
        refused(call, x -> { }, ask, want);
    }

    private static void clubsGames() {
        Consumer<LeagueOffice> lastDay = x -> {
            for (int i = 0; i < 6; i++) x.pass(60);
            x.pass(29);
        };
        refused("2 n", x -> x.pass(61), BAD);
        refused("2 a day too many", lastDay, x -> x.pass(1), FULL);
        refused("2 bad ahead of full", lastDay, x -> x.pass(HIGH), BAD);
        Consumer<LeagueOffice> clubs = x -> {
            for (int c = Busy.CLUBS; c < 12; c++) x.club(0, 0);
        };
        refused("3 step", x -> x.club(4, 0), BAD);
        refused("3 town", x -> x.club(0, 8), BAD);
        refused("3 a club too many", clubs, x -> x.club(0, 0), FULL);
        refused("3 bad ahead of full", clubs, x -> x.club(0, 8), BAD);
        refused("4 club", x -> x.step(5, 3), BAD);
        refused("4 step", x -> x.step(0, 4), BAD);
        Consumer<LeagueOffice> games = x -> {
            for (int g = Busy.GAMES; g < 60; g++) x.game(1, 0, 1, g);
        };
        refused("5 kind", x -> x.game(6, 0, 1, 0), BAD);
        refused("5 home", x -> x.game(0, 5, 1, 0), BAD);
        refused("5 guest", x -> x.game(0, 0, -1, 0), BAD);
        refused("5 alike", x -> x.game(0, 1, 1, 0), BAD);
        refused("5 day", x -> x.game(0, 0, 1, 400), BAD);
        refused("5 a game too many", games, x -> x.game(0, 0, 1, 0), FULL);
        refused("5 bad ahead of full", games, x -> x.game(0, 0, 1, -1), BAD);
        Consumer<LeagueOffice> results = x -> {
            for (int r = x.count(3); r < 120; r++) x.result(0, 0, r % 2);
        };
        refused("7 game", x -> x.result(9, 0, 0), BAD);
        refused("7 home", x -> x.result(0, 31, 0), BAD);
        refused("7 guest", x -> x.result(0, 0, 31), BAD);
        refused("7 to come", x -> x.result(4, 0, 0), STATE);
        refused("7 bad ahead of state", x -> x.result(4, 0, -1), BAD);
        refused("7 a result too many", results, x -> x.result(0, 5, 5), FULL);
        refused("7 state ahead of full", results, x -> x.result(4, 5, 5), STATE);
        refused("7 bad ahead of full", results, x -> x.result(0, 5, 31), BAD);
        refused("8 game", x -> x.known(9, 0), BAD);
        refused("8 day", x -> x.known(0, Busy.DAY + 1), BAD);
    }

    private static void rules() {
        Consumer<LeagueOffice> tape = x -> {
            for (int n = x.count(5); n + 8 <= 160; n = x.feed(8, 0x2020202020202020L)) { }
        };
        Consumer<LeagueOffice> texts = x -> {
            x.text();
            while (x.count(4) < 6) Due.read(x, "win 1;draw 1;like 1;ban 1;");
            Due.feed(x, "win 3;draw 1;like 7;ban ");
        };
        refused("9 n", x -> x.feed(9, 0x6161616161616161L), BAD);
        refused("9 a tape too long", tape, x -> x.feed(8, 0x6161616161616161L), FULL);
        refused("9 bad ahead of full", tape, x -> x.feed(0, 97), BAD);
        refused("10 a text too many, that ends too early", texts, x -> x.text(), FULL);
        refused("10 a text too many", texts.andThen(x -> Due.feed(x, "1;")), x -> x.text(), FULL);
        Consumer<LeagueOffice> rules = x -> {
            while (x.rule(1, 300) < 20) { }
        };
        refused("11 text", x -> x.rule(2, 0), BAD);
        refused("11 day", x -> x.rule(1, 400), BAD);
        refused("11 a rule too many", rules, x -> x.rule(1, 0), FULL);
        refused("11 bad ahead of full", rules, x -> x.rule(1, -1), BAD);
        Consumer<LeagueOffice> takings = x -> {
            while (x.take(0, 1, 399) < 30) { }
        };
        refused("13 club", x -> x.take(5, 1, 0), BAD);
        refused("13 points", x -> x.take(0, 100, 0), BAD);
        refused("13 no points", x -> x.take(0, 0, 0), BAD);
        refused("13 day", x -> x.take(0, 1, 400), BAD);
        refused("13 a taking too many", takings, x -> x.take(0, 1, 0), FULL);
        refused("13 bad ahead of full", takings, x -> x.take(0, 0, 0), BAD);
        refused("14 day", x -> x.points(0, Busy.DAY + 1), NO);
        refused("15 club", x -> x.like(5, 0), NO);
        refused("16 step", x -> x.table(4, 0, 0), BAD);
        refused("16 a step and a place that are none", x -> x.table(4, 0, -1), BAD);
        refused("16 a day and a place that are none", x -> x.table(0, Busy.DAY + 1, 12), BAD);
        refused("16 a day that is none in a step of none", x -> x.table(3, -1, 0), BAD);
        refused("16 none", x -> x.table(0, 0, 4), NONE);
        refused("17 day", x -> x.place(0, Busy.DAY + 1), BAD);
    }

    private static void players() {
        Consumer<LeagueOffice> players = x -> {
            while (x.player() < 19) { }
        };
        refused("18 a player too many", players, x -> x.player(), FULL);
        Consumer<LeagueOffice> signings = x -> {
            while (x.register(0, 0, 0) < 40) { }
        };
        refused("19 player", x -> x.register(3, 0, 0), BAD);
        refused("19 club", x -> x.register(0, 5, 0), BAD);
        refused("19 day", x -> x.register(0, 1, 400), BAD);
        refused("19 a telling too many", signings, x -> x.register(0, 1, 0), FULL);
        refused("19 bad ahead of full", signings, x -> x.register(0, 5, 0), BAD);
        refused("20 none", x -> x.clubOf(2, 399), NONE);
        refused("20 player", x -> x.clubOf(3, 0), BAD);
        Consumer<LeagueOffice> cards = x -> {
            while (x.card(1, 7, 1) < 39) { }
        };
        refused("21 player", x -> x.card(3, 0, 2), BAD);
        refused("21 game", x -> x.card(0, 9, 2), BAD);
        refused("21 kind", x -> x.card(0, 0, 3), BAD);
        refused("21 no kind", x -> x.card(0, 0, 0), BAD);
        refused("21 a card too many", cards, x -> x.card(0, 0, 2), FULL);
        refused("21 bad ahead of full", cards, x -> x.card(0, 0, 0), BAD);
        refused("22 card", x -> x.bans(3), BAD);
        refused("23 card", x -> x.banned(3, 0), BAD);
        refused("23 a card and an i that are none", x -> x.banned(-1, -1), BAD);
        refused("23 none", x -> x.banned(0, HIGH), NONE);
        refused("24 player", x -> x.may(3, 0), BAD);
        refused("24 game", x -> x.may(0, 9), BAD);
        Consumer<LeagueOffice> playings = x -> {
            for (int p = 3; x.count(11) < 60; p++) {
                x.player();
                for (int g = 0; g < Busy.GAMES; g++) x.played(p, g);
            }
        };
        refused("25 player", x -> x.played(3, 0), BAD);
        refused("25 game", x -> x.played(0, 9), BAD);
        refused("25 it was told", x -> x.played(0, 7), STATE);
        refused("25 a telling too many", playings, x -> x.played(0, 4), FULL);
        refused("25 told ahead of full", playings, x -> x.played(0, 7), STATE);
        refused("25 bad ahead of full", playings, x -> x.played(0, 9), BAD);
        refused("26 none", x -> x.wrong(Busy.WRONGS), NONE);
        refused("26 below -1", x -> x.wrong(-2), NONE);
    }

    private static void failures() {
        refused("27 club", x -> x.fail(5), BAD);
        refused("27 it did", x -> x.fail(4), STATE);
        refused("28 club", x -> x.undo(-1), BAD);
        refused("28 it didn't", x -> x.undo(0), STATE);
        refused("28 it is undone", x -> x.undo(4), x -> x.undo(4), STATE);
        Consumer<LeagueOffice> both = x -> {
            x.undo(4);
            x.game(0, 4, 0, 0);
            x.result(Busy.GAMES, 1, 0);
            x.fail(4);
            for (int i = 0; i < 4; i++) x.game(0, 2, 3, 399);
            x.fail(2);
        };
        refused("28 one of these was changed since", both, x -> x.undo(4), STATE);
        refused("27 it did, and so did another one", both, x -> x.fail(4), STATE);
    }

    private static void many() {
        Consumer<LeagueOffice> seven = x -> {
            for (int n = x.open(0); n < 7; n++) x.game(0, 0, 1, 399);
        };
        refused("29 step", x -> x.open(4), BAD);
        refused("30 club", x -> x.can(5, 0), BAD);
        refused("30 what", x -> x.can(0, 2), BAD);
        refused("30 seven", seven, x -> x.can(0, 0), STATE);
        refused("30 bad ahead of state", seven, x -> x.can(0, -1), BAD);
        refused("31 place", x -> x.sure(0, 12), BAD);
        refused("31 seven", seven, x -> x.sure(0, 0), STATE);
        refused("31 bad ahead of state", seven, x -> x.sure(0, -1), BAD);
        refused("32 place", x -> x.needs(0, -1), BAD);
        refused("32 seven", seven, x -> x.needs(0, 0), STATE);
        refused("32 bad ahead of state", seven, x -> x.needs(0, 12), BAD);
        refused("32 bad club ahead of state", seven, x -> x.needs(5, 0), BAD);
    }

    private static void coinLaid() {
        refused("33 step", x -> x.coin(4, 1, 0), NO);
        refused("33 pence", x -> x.coin(0, 1000000, 0), NO);
        refused("33 club", x -> x.coin(0, 1, 5), NO);
        refused("33 of another step", x -> x.coin(0, 1, 4), NO);
        refused("34 the one", x -> x.meet(504), BAD);
        refused("34 the other one", x -> x.meet(405), BAD);
        refused("34 alike", x -> x.meet(404), BAD);
        refused("34 below -1", x -> x.meet(-2), BAD);
        refused("34 the one is in one", x -> x.meet(4), STATE);
        refused("34 the other one is in one", x -> x.meet(403), STATE);
        refused("34 the one is the other one of a meeting", x -> x.meet(204), STATE);
        refused("34 the other one is the other one of a meeting", x -> x.meet(402), STATE);
        refused("34 the one is the other one of the last meeting", x -> x.meet(104), STATE);
        refused("34 both are in one", x -> x.meet(1), STATE);
        refused("34 bad ahead of state", x -> x.meet(5), BAD);
        refused("34 bad ahead of state", x -> x.meet(500), BAD);
        refused("34 alike ahead of state", x -> x.meet(0), BAD);
        Consumer<LeagueOffice> towns = x -> {
            x.meet(-1);
            for (int c = Busy.CLUBS; c < 9; c++) x.club(0, 6);
            x.meet(506);
            x.meet(807);
        };
        refused("35 day", x -> x.laid(400, 0), BAD);
        refused("35 what", x -> x.laid(0, 2), BAD);
        refused("35 it can't be", towns, x -> x.laid(0, 0), NONE);
        refused("35 it can't be, breaks", towns, x -> x.laid(0, 1), NONE);
        refused("35 bad ahead of none", towns, x -> x.laid(-1, 0), BAD);
        refused("36 what", x -> x.count(13), BAD);
    }

    private static void sheets() {
        refused("37 sheet", x -> x.sheet(4, 0, 1), BAD);
        refused("37 sort", x -> x.sheet(0, 3, 1), BAD);
        refused("37 sort below -1", x -> x.sheet(0, -2, 1), BAD);
        refused("37 n", x -> x.sheet(0, 0, 41), BAD);
        refused("37 n below 0", x -> x.sheet(0, 0, -1), BELOW_ZERO);
        refused("37 the lowest n", x -> x.sheet(3, 2, LOW), BELOW_ZERO);
        refused("37 sheet ahead of n", x -> x.sheet(4, 0, -1), BAD);
        refused("37 sort ahead of n", x -> x.sheet(0, 3, -1), BAD);
        refused("37 no such sheet made missing", x -> x.sheet(-1, -1, 0), BAD);
        refused("38 sheet", x -> x.cell(4, 0, 1), BAD);
        refused("38 a missing one", x -> x.cell(3, 0, 1), NOTHING);
        refused("38 missing ahead of outside", x -> x.cell(3, -1, 1), NOTHING);
        refused("38 bad ahead of outside", x -> x.cell(-1, -1, 1), BAD);
        refused("38 outside", x -> x.cell(0, 7, 1), OUTSIDE);
        refused("38 outside below", x -> x.cell(1, -1, 1), OUTSIDE);
        refused("39 sheet", x -> x.copy(4, 0, 0, 0, 1), BAD);
        refused("39 other", x -> x.copy(0, 0, 4, 0, 1), BAD);
        refused("39 bad ahead of missing", x -> x.copy(3, 0, 4, 0, 1), BAD);
        refused("39 bad ahead of missing", x -> x.copy(-1, 0, 3, 0, 1), BAD);
        refused("39 a missing one", x -> x.copy(3, 0, 0, 0, 1), NOTHING);
        refused("39 a missing other one", x -> x.copy(0, 0, 3, 0, 1), NOTHING);
        refused("39 the same missing one", x -> x.copy(3, 0, 3, 0, 0), NOTHING);
        refused("39 missing ahead of outside", x -> x.copy(0, -1, 3, -1, -1), NOTHING);
        refused("39 unlike", x -> x.copy(0, 0, 2, 0, 1), OTHER_SORT);
        refused("39 unlike ahead of outside", x -> x.copy(2, -1, 0, 0, -1), OTHER_SORT);
        refused("39 unlike, none", x -> x.copy(2, 0, 0, 0, 0), OTHER_SORT);
        refused("39 i", x -> x.copy(0, 6, 1, 0, 2), OUTSIDE);
        refused("39 j", x -> x.copy(0, 0, 1, 6, 2), OUTSIDE);
        refused("39 n", x -> x.copy(0, 0, 1, 0, 8), OUTSIDE);
        refused("39 n below 0", x -> x.copy(0, 3, 1, 3, -1), OUTSIDE);
        refused("39 sums that wrap", x -> x.copy(0, HIGH, 1, HIGH, HIGH), OUTSIDE);
        refused("39 sums that wrap", x -> x.copy(0, LOW, 1, 0, LOW), OUTSIDE);
    }

    private static void results() {
        refused("40 sheet", x -> x.results(4, 1, 0, 1), BAD);
        refused("40 sort", x -> x.results(0, 3, 0, 1), BAD);
        refused("40 n", x -> x.results(0, 1, 0, 14), BAD);
        refused("40 n below 0", x -> x.results(0, 1, 0, -1), BAD);
        refused("40 bad ahead of another sort", x -> x.results(0, 2, 0, 14), BAD);
        refused("40 bad ahead of missing", x -> x.results(3, 3, 0, 1), BAD);
        refused("40 another sort", x -> x.results(0, 2, 0, 1), OTHER_SORT);
        refused("40 another sort ahead of outside", x -> x.results(2, 0, -1, 1), OTHER_SORT);
        refused("40 missing", x -> x.results(3, 0, 0, 1), NOTHING);
        refused("40 missing ahead of outside", x -> x.results(3, 2, -1, 1), NOTHING);
        refused("40 missing, none of it", x -> x.results(3, 1, 0, 0), NOTHING);
        refused("40 outside", x -> x.results(0, 1, 5, 1), OUTSIDE);
        refused("40 outside below", x -> x.results(0, 1, -1, 13), OUTSIDE);
        refused("40 the highest place", x -> x.results(0, 1, HIGH, 13), OUTSIDE);
        refused("40 the lowest place", x -> x.results(0, 1, LOW, 13), OUTSIDE);
        refused("40 none of them", x -> x.results(0, 1, 0, 0), 0);
        refused("41 k", x -> x.taken(0, 6), BAD);
        refused("41 k ahead of game", x -> x.taken(9, -1), BAD);
        refused("41 game", x -> x.taken(9, 0), NOTHING);
        refused("41 game of another kind", x -> x.taken(0, 1), OTHER_SORT);
    }
}
