/** Promises 37 to 41. */
public final class HostTest {
    private static final Due due = new Due("HostTest");

    public static void main(String[] args) {
        sheet();
        cell();
        cellsCut();
        copy();
        copyOverlapping();
        rowsApart();
        results();
        resultsOutside();
        resultsLeftOut();
        taken();
        due.end();
    }

    private static void sheet() {
        LeagueOffice x = new LeagueOffice();
        for (int sort = 0; sort < 3; sort++) {
            due.is("37 of sort " + sort, x.sheet(sort, sort, 40), 1);
            due.is("37 its last item", x.cell(sort, 39, 0), 1);
        }
        due.is("37 sheet 4", x.sheet(4, 0, 0), -2);
        due.is("37 sheet -1", x.sheet(-1, 0, 0), -2);
        due.is("37 sort 3", x.sheet(3, 3, 0), -2);
        due.is("37 sort -2", x.sheet(3, -2, 0), -2);
        due.is("37 n 41", x.sheet(3, 0, 41), -2);
        due.is("37 n -1", x.sheet(3, 0, -1), -14);
        due.is("37 n -1 of a bad sort", x.sheet(3, 3, -1), -2);
        due.is("37 the lowest n", x.sheet(3, 2, Integer.MIN_VALUE), -14);
        due.is("37 still missing", x.cell(3, 0, 0), -11);
        due.is("37 n 0", x.sheet(3, 0, 0), 1);
        due.is("37 a row of none", x.cell(3, 0, 0), -12);
        due.is("37 missing, n 41", x.sheet(3, -1, 41), 1);
        due.is("37 missing, n -1", x.sheet(3, -1, -1), 1);
        due.is("37 missing", x.cell(3, 0, 0), -11);
        due.is("37 no such sheet made missing", x.sheet(4, -1, 0), -2);
        LeagueOffice y = Due.clubs(2);
        y.game(0, 0, 1, 0);
        y.sheet(0, 2, 3);
        y.cell(0, 1, 9);
        y.sheet(0, 2, 3);
        due.is("37 all 0", y.results(0, 2, 0, 1), 1);
        due.is("37 all 0", y.known(0, 0), 0);
        y.cell(0, 1, 9);
        y.sheet(0, 2, -1);
        y.sheet(0, 2, 41);
        y.results(0, 2, 0, 1);
        due.is("37 refusals change nothing", y.known(0, 0), 900);
    }

    private static void cell() {
        LeagueOffice x = new LeagueOffice();
        x.sheet(1, 1, 3);
        due.is("38 sheet 4", x.cell(4, 0, 0), -2);
        due.is("38 sheet -1", x.cell(-1, 0, 0), -2);
        due.is("38 a missing one", x.cell(0, 0, 0), -11);
        due.is("38 a missing one, outside", x.cell(0, -1, 0), -11);
        due.is("38 item -1", x.cell(1, -1, 0), -12);
        due.is("38 item 3", x.cell(1, 3, 0), -12);
        due.is("38 the highest item", x.cell(1, Integer.MAX_VALUE, 0), -12);
        due.is("38 item 2", x.cell(1, 2, 0), 1);
        due.is("38 item 0", x.cell(1, 0, 0), 1);
    }

    /** What a cell holds of 5 and bits above: the goals of a result tell it. */
    private static int cut(int sort, int v) {
        LeagueOffice x = Due.clubs(2);
        x.game(0, 0, 1, 0);
        x.sheet(2, sort, 3);
        x.cell(2, 1, v);
        return x.results(2, sort, 0, 1) == 1 ? x.known(0, 0) / 100 : -1;
    }

    private static void cellsCut() {
        due.is("38 a byte", cut(0, 256 + 5), 5);
        due.is("38 a byte", cut(0, -256 + 5), 5);
        due.is("38 a byte of 128", cut(0, 128), -1);
        due.is("38 a short", cut(1, 65536 + 5), 5);
        due.is("38 a short of 256", cut(1, 256 + 5), -1);
        due.is("38 a short of 32768", cut(1, 32768), -1);
        due.is("38 an int", cut(2, 65536 + 5), -1);
        due.is("38 an int", cut(2, 30), 30);
    }

    private static void copy() {
        LeagueOffice x = Due.clubs(2);
        x.game(0, 0, 1, 0);
        x.sheet(0, 1, 6);
        x.sheet(1, 1, 4);
        x.sheet(2, 2, 4);
        due.is("39 sheet 4", x.copy(4, 0, 0, 0, 1), -2);
        due.is("39 sheet -1", x.copy(-1, 0, 0, 0, 1), -2);
        due.is("39 other 4", x.copy(0, 0, 4, 0, 1), -2);
        due.is("39 other -1", x.copy(0, 0, -1, 0, 1), -2);
        due.is("39 a missing one", x.copy(3, 0, 0, 0, 1), -11);
        due.is("39 a missing other one", x.copy(0, 0, 3, 0, 1), -11);
        due.is("39 a missing one of none", x.copy(3, -1, 2, -1, 0), -11);
        due.is("39 of unlike sorts", x.copy(0, 0, 2, 0, 1), -13);
        due.is("39 of unlike sorts, outside", x.copy(0, -1, 2, 0, 1), -13);
        due.is("39 item -1", x.copy(0, -1, 1, 0, 1), -12);
        due.is("39 other's item -1", x.copy(0, 0, 1, -1, 1), -12);
        due.is("39 n -1", x.copy(0, 0, 1, 0, -1), -12);
        due.is("39 one too far", x.copy(0, 3, 1, 0, 4), -12);
        due.is("39 the other one too far", x.copy(0, 0, 1, 1, 4), -12);
        due.is("39 the highest n", x.copy(0, 1, 1, 1, Integer.MAX_VALUE), -12);
        due.is("39 the highest item", x.copy(0, Integer.MAX_VALUE, 1, 0, 1), -12);
        due.is("39 none at the end", x.copy(0, 6, 1, 4, 0), 0);
        for (int i = 0; i < 6; i++) x.cell(0, i, i == 0 ? 0 : i);
        due.is("39 three", x.copy(0, 3, 1, 1, 3), 3);
        x.results(1, 1, 0, 1);
        due.is("39 what came", x.known(0, 0), 304);
        due.is("39 all of them", x.copy(0, 2, 1, 0, 4), 4);
        x.cell(1, 0, 0);
        x.results(1, 1, 0, 1);
        due.is("39 what came then", x.known(0, 0), 304);
    }

    private static void copyOverlapping() {
        LeagueOffice x = Due.clubs(2);
        x.game(0, 0, 1, 0);
        x.sheet(0, 0, 9);
        for (int i = 0; i < 9; i++) x.cell(0, i, i);
        due.is("39 forwards over itself", x.copy(0, 0, 0, 1, 8), 8);
        x.cell(0, 3, 0);
        x.results(0, 0, 3, 1);
        due.is("39 as they were", x.known(0, 0), 304);
        for (int i = 0; i < 9; i++) x.cell(0, i, i);
        due.is("39 backwards over itself", x.copy(0, 2, 0, 0, 7), 7);
        x.cell(0, 3, 0);
        x.results(0, 0, 3, 1);
        due.is("39 as they were", x.known(0, 0), 607);
    }

    /** What an item of a sheet holds (0 .. 30): it is copied into sheet 3, of the same sort, and comes as goals. */
    private static int item(LeagueOffice x, int sheet, int sort, int i) {
        x.sheet(3, sort, 3);
        x.copy(sheet, i, 3, 1, 1);
        x.results(3, sort, 0, 1);
        return x.known(0, 0) / 100;
    }

    /** A row that is made anew is 0 from its first item to its last one, and no other row changes. */
    private static void rowsApart() {
        int[] items = {0, 1, 20, 38, 39};
        for (int anew = 0; anew < 3; anew++) {
            LeagueOffice x = Due.clubs(2);
            x.game(0, 0, 1, 0);
            for (int s = 0; s < 3; s++) {
                x.sheet(s, 1, 40);
                for (int i = 0; i < 40; i++) x.cell(s, i, 1 + (i + 7 * s) % 29);
            }
            x.sheet(anew, 1, 40);
            for (int s = 0; s < 3; s++) {
                for (int i : items) due.is("37 sheet " + s + ", item " + i, item(x, s, 1, i), s == anew ? 0 : 1 + (i + 7 * s) % 29);
            }
            x.cell(anew, 0, 30);
            x.cell(anew, 39, 29);
            x.copy((anew + 1) % 3, 0, anew, 1, 38);
            due.is("39 ahead of what came", item(x, anew, 1, 0), 30);
            due.is("39 behind what came", item(x, anew, 1, 39), 29);
            for (int i : new int[] {0, 1, 37}) due.is("39 what came, " + i, item(x, anew, 1, i + 1), 1 + (i + 7 * ((anew + 1) % 3)) % 29);
            x.sheet(anew, 1, 4);
            x.sheet(anew, 1, 40);
            for (int i : items) due.is("37 made shorter and longer, item " + i, item(x, anew, 1, i), 0);
        }
        LeagueOffice y = Due.clubs(2);
        y.game(0, 0, 1, 0);
        for (int sort = 0; sort < 3; sort++) {
            y.sheet(1, sort, 40);
            y.cell(1, 0, 9);
            y.cell(1, 39, 8);
            y.sheet(1, -1, 0);
            due.is("37 missing", y.copy(1, 0, 1, 0, 0), -11);
            y.sheet(1, (sort + 1) % 3, 40);
            due.is("37 of another sort, the first item", item(y, 1, (sort + 1) % 3, 0), 0);
            due.is("37 of another sort, the last item", item(y, 1, (sort + 1) % 3, 39), 0);
        }
    }

    private static void results() {
        LeagueOffice x = Due.clubs(2);
        for (int i = 0; i < 14; i++) x.game(0, 0, 1, 0);
        x.sheet(0, 2, 40);
        for (int i = 0; i < 13; i++) {
            x.cell(0, 1 + 3 * i, i);
            x.cell(0, 2 + 3 * i, i + 1);
            x.cell(0, 3 + 3 * i, i + 2);
        }
        due.is("40 none", x.results(0, 2, 1, 0), 0);
        due.is("40 13", x.results(0, 2, 1, 13), 13);
        for (int i = 0; i < 13; i++) due.is("40 game " + i, x.known(i, 0), 100 * (i + 1) + i + 2);
        due.is("40 count(3)", x.count(3), 13);
        due.is("40 n 14", x.results(0, 2, 1, 14), -2);
        due.is("40 n -1", x.results(0, 2, 1, -1), -2);
        due.is("40 sheet 4", x.results(4, 2, 1, 1), -2);
        due.is("40 sheet -1", x.results(-1, 2, 1, 1), -2);
        due.is("40 sort 3", x.results(0, 3, 1, 1), -2);
        due.is("40 sort -1", x.results(0, -1, 1, 1), -2);
        due.is("40 a missing one of sort -1", x.results(1, -1, 0, 1), -2);
        due.is("40 another sort", x.results(0, 0, 1, 1), -13);
        due.is("40 another sort, none", x.results(0, 1, -1, 0), -13);
        due.is("40 a missing one", x.results(1, 0, 0, 1), -11);
        due.is("40 a missing one, outside", x.results(1, 2, -1, 1), -11);
        due.is("40 count(3)", x.count(3), 13);
    }

    private static void resultsOutside() {
        LeagueOffice x = Due.clubs(2);
        for (int i = 0; i < 3; i++) x.game(0, 0, 1, 0);
        x.sheet(3, 0, 8);
        for (int i = 0; i < 8; i++) x.cell(3, i, i == 0 ? 0 : i == 3 ? 1 : i == 6 ? 2 : 7);
        due.is("40 the third one is outside", x.results(3, 0, 0, 3), -12);
        due.is("40 what stood ahead came", x.known(0, 0), 707);
        due.is("40 what stood ahead came", x.known(1, 0), 707);
        due.is("40 it did not", x.known(2, 0), -1);
        due.is("40 count(3)", x.count(3), 2);
        due.is("40 from -1", x.results(3, 0, -1, 1), -12);
        due.is("40 from -3", x.results(3, 0, -3, 2), -12);
        due.is("40 from 6", x.results(3, 0, 6, 1), -12);
        due.is("40 from 8", x.results(3, 0, 8, 1), -12);
        due.is("40 the highest from", x.results(3, 0, Integer.MAX_VALUE, 2), -12);
        due.is("40 the lowest from", x.results(3, 0, Integer.MIN_VALUE, 2), -12);
        due.is("40 none from outside", x.results(3, 0, 99, 0), 0);
        due.is("40 count(3)", x.count(3), 2);
        due.is("40 from 5", x.results(3, 0, 5, 1), 0);
    }

    private static void resultsLeftOut() {
        LeagueOffice x = Due.clubs(2);
        x.game(0, 0, 1, 0);
        x.game(0, 0, 1, 9);
        x.sheet(0, 1, 15);
        int[] cells = {0, 31, 0, 1, 1, 1, 0, 0, -1, 2, 1, 1, 0, 2, 1};
        for (int i = 0; i < 15; i++) x.cell(0, i, cells[i]);
        due.is("40 the others are left out", x.results(0, 1, 0, 5), 1);
        due.is("40 the last one came", x.known(0, 0), 201);
        due.is("40 count(3)", x.count(3), 1);
        for (int i = 1; i < 119; i++) x.result(0, 0, 0);
        for (int i = 0; i < 15; i++) x.cell(0, i, 0);
        due.is("40 till there is no room", x.results(0, 1, 0, 5), 1);
        due.is("40 count(3)", x.count(3), 120);
        due.is("40 no room at all", x.results(0, 1, 0, 5), 0);
    }

    private static void taken() {
        int[][] under = {{1, 0, 0, 0, 0, 0}, {1, 1, 0, 0, 0, 0}, {1, 0, 1, 0, 0, 0}, {1, 0, 0, 1, 0, 0}, {1, 0, 1, 0, 1, 0}, {1, 0, 0, 1, 0, 1}};
        LeagueOffice x = Due.clubs(2);
        for (int kind = 0; kind < 6; kind++) {
            x.game(kind, 0, 1, 30 + kind);
            for (int k = 0; k < 6; k++) due.is("41 taken(" + kind + ", " + k + ")", x.taken(kind, k), under[kind][k] == 1 ? 30 + kind : -13);
        }
        due.is("41 k 6", x.taken(0, 6), -2);
        due.is("41 k -1", x.taken(0, -1), -2);
        due.is("41 k 6 of no game", x.taken(6, 6), -2);
        due.is("41 game 6", x.taken(6, 0), -11);
        due.is("41 game -1", x.taken(-1, 0), -11);
        x.fail(0);
        due.is("41 as it is now", x.taken(0, 5), 30);
    }
}
