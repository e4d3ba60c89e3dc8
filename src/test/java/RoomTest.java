import java.lang.management.ManagementFactory;

/** An object that is as full as it can be: no call throws, none is refused wrongly, none makes an object. */
public final class RoomTest {
    private static final Due due = new Due("RoomTest");
    private static long sum;

    public static void main(String[] args) {
        LeagueOffice x = full();
        counts(x);
        for (int i = 0; i < 3; i++) callAll(x);
        var threads = (com.sun.management.ThreadMXBean) ManagementFactory.getThreadMXBean();
        long id = Thread.currentThread().getId();
        threads.getThreadAllocatedBytes(id);
        long before = threads.getThreadAllocatedBytes(id);
        for (int i = 0; i < 10; i++) callAll(x);
        long made = threads.getThreadAllocatedBytes(id) - before;
        due.isTrue("the calls make next to nothing, " + made + " bytes", made < 20000);
        before = threads.getThreadAllocatedBytes(id);
        LeagueOffice y = new LeagueOffice();
        made = threads.getThreadAllocatedBytes(id) - before;
        due.isTrue("an object is small, " + made + " bytes", made < 60000 && y.count(0) == 0);
        due.isTrue("the sum of all answers is one", sum != 0);
        due.end();
    }

    private static LeagueOffice full() {
        LeagueOffice x = Due.clubs(12);
        String like = "goals*100+made*(won+1)-(-(goals<made or made=won and not goals<0))";
        for (int i = 1; i <= 5; i++) Due.read(x, "win 3+late;draw 1;like " + like + ";ban cards*kind;");
        for (int i = 0; i < 20; i++) x.rule(i % 6, 10 * i);
        for (int i = 0; i < 30; i++) x.take(i % 12, 1 + i % 3, i);
        for (int i = 0; i < 20; i++) x.player();
        for (int i = 0; i < 40; i++) x.register(i % 20, i % 12, i);
        for (int g = 0; g < 60; g++) x.game(g < 6 || g % 5 > 0 ? g % 5 : 0, g % 12, (g + 5) % 12, g < 6 ? 300 + g : g);
        x.pass(60);
        for (int i = 0; i < 120; i++) x.result(i < 54 ? i + 6 : 6 + i % 54, i % 4, i % 3);
        for (int i = 0; i < 40; i++) x.card(i % 4, i, 1 + i % 2);
        for (int i = 0; i < 60; i++) x.played(i % 20, i);
        for (int i = 0; i < 6; i++) x.meet(100 * i + 11 - i);
        for (int i = 0; i < 4; i++) x.sheet(i, i % 3, 40);
        for (int i = 0; i < 20; i++) x.feed(8, 0x2020202020202020L);
        return x;
    }

    private static void counts(LeagueOffice x) {
        int[] want = {60, 12, 60, 120, 6, 160, 20, 30, 20, 40, 40, 60, 6};
        for (int what = 0; what < want.length; what++) due.is("count(" + what + ")", x.count(what), want[what]);
        due.isTrue("games that can still count", x.open(0) > 0 && x.open(0) <= 6);
    }

    private static void callAll(LeagueOffice x) {
        for (int i = 0; i < 12; i++) {
            sum += x.points(i, 60) + x.like(i, 60) + x.place(i, 60) + x.table(0, 60, i) + x.coin(0, 99999, i);
            sum += x.can(i, 0) + x.can(i, 1) + x.sure(i, 3) + x.needs(i, 3);
            sum += x.known(i, 60) + x.gameTold(i, 6) + x.taken(i, 2) + x.ruleOf(i) + x.step(i, 0);
            sum += x.clubOf(i, 60) + x.bans(i) + x.banned(i, 0) + x.may(i, i) + x.played(i, i) + x.wrong(i);
            sum += x.open(0) + x.laid(i, 0) + x.laid(61, 1) + x.count(i) + x.meet(i);
            sum += x.pass(0) + x.club(0, 0) + x.game(0, 0, 1, 0) + x.result(0, 1, 0) + x.feed(8, 0) + x.rule(0, 0) + x.take(0, 1, 0);
            sum += x.player() + x.register(0, 0, 0) + x.card(0, 0, 1);
            sum += x.sheet(0, 0, 40) + x.cell(0, i, i) + x.copy(0, 0, 3, 0, 9) + x.results(0, 0, 0, 13);
            sum += x.fail(i) + x.undo(i);
        }
        sum += x.text() + Due.feed(x, "win");
    }
}
