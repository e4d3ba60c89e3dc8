import java.util.ArrayList;
import java.util.Arrays;
import java.util.Comparator;
import java.util.HashMap;
import java.util.HashSet;
import java.util.List;
import java.util.Map;
import java.util.Set;
import java.util.TreeSet;
import java.util.function.ToIntFunction;

/** The document once more, with the library and in other ways, to be compared with the class. */
final class ModelOffice {
    static final long NO = -4611686018427387904L;

    /** What is asked of an E. */
    record Asked(int goals, int made, int won, int cards, int kind, int late) { }

    record Text(List<ToIntFunction<Asked>> parts) { }

    record Told(int game, int home, int guest, int day) { }

    record From(int who, int what, int day) { }

    record Card(int player, int game, int kind) { }

    record Pair(int one, int other) { }

    static final class Game {
        int number, kind, home, guest, day;

        boolean has(int club) {
            return home == club || guest == club;
        }
    }

    /** A failing: the games as they were, by numbers. */
    static final class Failing {
        final int club;
        boolean undone;
        final Map<Integer, int[]> were = new HashMap<>();

        Failing(int club) {
            this.club = club;
        }
    }

    static final class Fault extends RuntimeException {
        final int place;

        Fault(int place) {
            this.place = place;
        }
    }

    int today;
    final List<int[]> clubs = new ArrayList<>();
    final List<Game> games = new ArrayList<>();
    final List<Told> told = new ArrayList<>();
    final List<Text> texts = new ArrayList<>();
    final List<From> rules = new ArrayList<>();
    final List<From> takings = new ArrayList<>();
    int players;
    final List<From> signings = new ArrayList<>();
    final List<Card> cards = new ArrayList<>();
    final List<Pair> playings = new ArrayList<>();
    final List<Failing> failings = new ArrayList<>();
    final List<Pair> meetings = new ArrayList<>();
    final StringBuilder tape = new StringBuilder();
    final Object[] sheets = new Object[4];

    ModelOffice() {
        texts.add(new ModelReader("win 3 ; draw 1 ; like goals * 100 + made ; ban kind = 2 or cards = 5 ;").read());
    }

    private static boolean in(int v, int low, int high) {
        return low <= v && v <= high;
    }

    private boolean club(int c) {
        return in(c, 0, clubs.size() - 1);
    }

    private boolean game(int g) {
        return in(g, 0, games.size() - 1);
    }

    // ---- kinds, as the terms tell them: as another one's, half of it, ..

    static int told(int kind, int what) {
        switch (what) {
            case 4: return kind == 1 || kind == 5 ? 0 : 1;
            case 5: return kind == 0 ? 1 : kind == 1 ? 0 : kind == 2 ? told(0, 5) : kind == 3 ? 0 : kind == 4 ? told(2, 5) : told(3, 5);
            case 6: return kind == 0 ? 300 : kind == 1 ? told(0, 6) / 2 : kind == 2 ? told(0, 6) - 60 : kind == 3 ? 0 : kind == 4 ? 2 * told(2, 6) : told(3, 6);
            default: return kind == 0 ? 100 : kind == 1 ? 50 : kind == 4 ? told(2, 7) - 20 : told(0, 7);
        }
    }

    static boolean under(int kind, int other) {
        if (kind == other || other == 0) return true;
        return kind == 4 && other == 2 || kind == 5 && other == 3;
    }

    // ---- calls

    int pass(int n) {
        if (!in(n, 1, 60)) return -2;
        if (today + n > 399) return -4;
        return today += n;
    }

    int club(int step, int town) {
        if (!in(step, 0, 3) || !in(town, 0, 7)) return -2;
        if (clubs.size() == 12) return -4;
        clubs.add(new int[] {step, town});
        return clubs.size() - 1;
    }

    int step(int club, int step) {
        if (!club(club) || !in(step, 0, 3)) return -2;
        int was = clubs.get(club)[0];
        clubs.get(club)[0] = step;
        return was;
    }

    int game(int kind, int home, int guest, int day) {
        if (!in(kind, 0, 5) || !club(home) || !club(guest) || home == guest || !in(day, 0, 399)) return -2;
        if (games.size() == 60) return -4;
        Game g = new Game();
        g.number = games.size();
        g.kind = kind;
        g.home = home;
        g.guest = guest;
        g.day = day;
        games.add(g);
        return g.number;
    }

    int gameTold(int game, int what) {
        if (!game(game) || !in(what, 0, 7)) return -2;
        Game g = games.get(game);
        int[] own = {g.kind, g.home, g.guest, g.day};
        return what < 4 ? own[what] : told(g.kind, what);
    }

    int result(int game, int home, int guest) {
        if (!game(game) || !in(home, 0, 30) || !in(guest, 0, 30)) return -2;
        if (today < games.get(game).day) return -3;
        if (told.size() == 120) return -4;
        told.add(new Told(game, home, guest, today));
        return told.size();
    }

    /** The goals of both, or null. */
    private int[] score(Game g, int day) {
        for (int i = told.size() - 1; i >= 0; i--) {
            Told t = told.get(i);
            if (t.game == g.number && t.day <= day) return new int[] {t.home, t.guest};
        }
        return g.kind == 3 ? new int[] {3, 0} : null;
    }

    int known(int game, int day) {
        if (!game(game) || !in(day, 0, today)) return -2;
        int[] s = score(games.get(game), day);
        return s == null ? -1 : 100 * s[0] + s[1];
    }

    int feed(int n, long bytes) {
        if (!in(n, 1, 8)) return -2;
        if (tape.length() + n > 160) return -4;
        for (int i = 0; i < n; i++, bytes >>>= 8) tape.append((char) (bytes & 255));
        return tape.length();
    }

    int text() {
        if (texts.size() == 6) return -4;
        String all = tape.toString();
        tape.setLength(0);
        try {
            texts.add(new ModelReader(all).read());
            return texts.size() - 1;
        } catch (Fault f) {
            return -100 - f.place;
        }
    }

    int rule(int text, int from) {
        if (!in(text, 0, texts.size() - 1) || !in(from, 0, 399)) return -2;
        if (rules.size() == 20) return -4;
        rules.add(new From(0, text, from));
        return rules.size();
    }

    private static int latest(List<From> all, int who, int day, int none) {
        From found = null;
        for (From f : all) {
            if (f.who == who && f.day <= day && (found == null || f.day >= found.day)) found = f;
        }
        return found == null ? none : found.what;
    }

    int ruleOf(int day) {
        return in(day, 0, 399) ? latest(rules, 0, day, 0) : -2;
    }

    private int ask(int part, int day, Asked asked) {
        return texts.get(latest(rules, 0, day, 0)).parts.get(part).applyAsInt(asked);
    }

    int take(int club, int points, int from) {
        if (!club(club) || !in(points, 1, 99) || !in(from, 0, 399)) return -2;
        if (takings.size() == 30) return -4;
        takings.add(new From(club, points, from));
        return takings.size();
    }

    /** Points, goals, made, won of a club that a game adds. */
    private long[] added(Game g, int club, int home, int guest) {
        int own = g.home == club ? home : guest, other = g.home == club ? guest : home;
        Asked asked = new Asked(own - other, own, 0, 0, g.kind, under(g.kind, 2) ? 1 : 0);
        long points = own > other ? ask(0, g.day, asked) : own == other ? ask(1, g.day, asked) : 0;
        return new long[] {points, own - other, own, own > other ? 1 : 0};
    }

    private static void addTo(long[] sums, long[] more) {
        for (int i = 0; i < 4; i++) sums[i] += more[i];
    }

    private long[] sums(int club, int day) {
        long[] sums = new long[4];
        for (Game g : games) {
            int[] s = score(g, day);
            if (g.has(club) && g.day <= day && told(g.kind, 4) == 1 && s != null) addTo(sums, added(g, club, s[0], s[1]));
        }
        for (From t : takings) if (t.who == club && t.day <= day) sums[0] -= t.what;
        return sums;
    }

    private int likeOf(long[] sums, int day) {
        return ask(2, day, new Asked((int) sums[1], (int) sums[2], (int) sums[3], 0, 0, 0));
    }

    long points(int club, int day) {
        return club(club) && in(day, 0, today) ? sums(club, day)[0] : NO;
    }

    long like(int club, int day) {
        return club(club) && in(day, 0, today) ? likeOf(sums(club, day), day) : NO;
    }

    private List<Integer> clubsOf(int step) {
        List<Integer> all = new ArrayList<>();
        for (int c = 0; c < clubs.size(); c++) if (clubs.get(c)[0] == step) all.add(c);
        return all;
    }

    private List<Integer> ordered(int step, int day, Map<Integer, long[]> sums) {
        List<Integer> all = clubsOf(step);
        Map<Integer, Integer> likes = new HashMap<>();
        for (int c : all) likes.put(c, likeOf(sums.get(c), day));
        all.sort(Comparator.comparingLong((Integer c) -> sums.get(c)[0]).reversed()
            .thenComparing(Comparator.comparingInt((Integer c) -> likes.get(c)).reversed())
            .thenComparing(Comparator.naturalOrder()));
        return all;
    }

    private Map<Integer, long[]> sumsOf(int step, int day) {
        Map<Integer, long[]> sums = new HashMap<>();
        for (int c : clubsOf(step)) sums.put(c, sums(c, day));
        return sums;
    }

    int table(int step, int day, int place) {
        if (!in(step, 0, 3) || !in(day, 0, today)) return -2;
        List<Integer> all = ordered(step, day, sumsOf(step, day));
        return in(place, 0, all.size() - 1) ? all.get(place) : -1;
    }

    int place(int club, int day) {
        if (!club(club) || !in(day, 0, today)) return -2;
        int step = clubs.get(club)[0];
        return ordered(step, day, sumsOf(step, day)).indexOf(club);
    }

    int player() {
        return players == 20 ? -4 : players++;
    }

    private boolean player(int p) {
        return in(p, 0, players - 1);
    }

    int register(int player, int club, int from) {
        if (!player(player) || !club(club) || !in(from, 0, 399)) return -2;
        if (signings.size() == 40) return -4;
        signings.add(new From(player, club, from));
        return signings.size();
    }

    int clubOf(int player, int day) {
        return player(player) && in(day, 0, 399) ? latest(signings, player, day, -1) : -2;
    }

    int card(int player, int game, int kind) {
        if (!player(player) || !game(game) || !in(kind, 1, 2)) return -2;
        if (cards.size() == 40) return -4;
        cards.add(new Card(player, game, kind));
        return cards.size() - 1;
    }

    int bans(int card) {
        if (!in(card, 0, cards.size() - 1)) return -2;
        Card own = cards.get(card);
        int n = (int) cards.subList(0, card + 1).stream().filter(c -> c.player == own.player).count();
        int said = ask(3, games.get(own.game).day, new Asked(0, 0, 0, n, own.kind, 0));
        return said < 0 ? 0 : said > 5 ? 5 : said;
    }

    private List<Integer> bannedGames(int card) {
        Set<Integer> gone = new HashSet<>();
        List<Integer> last = List.of();
        for (int c = 0; c <= card; c++) {
            if (cards.get(c).player != cards.get(card).player) continue;
            last = picked(c, gone);
            gone.addAll(last);
        }
        return last;
    }

    private List<Integer> picked(int card, Set<Integer> gone) {
        Card own = cards.get(card);
        int day = games.get(own.game).day, club = latest(signings, own.player, day, -1);
        if (club < 0) return List.of();
        return games.stream().filter(g -> g.has(club) && told(g.kind, 5) == 1 && g.day > day && !gone.contains(g.number))
            .sorted(Comparator.comparingInt((Game g) -> g.day).thenComparingInt(g -> g.number))
            .limit(bans(card)).map(g -> g.number).toList();
    }

    int banned(int card, int i) {
        if (!in(card, 0, cards.size() - 1)) return -2;
        List<Integer> all = bannedGames(card);
        return in(i, 0, all.size() - 1) ? all.get(i) : -1;
    }

    int may(int player, int game) {
        if (!player(player) || !game(game)) return -2;
        Game g = games.get(game);
        int club = latest(signings, player, g.day, -1);
        if (club < 0 || !g.has(club)) return 0;
        for (int c = 0; c < cards.size(); c++) {
            if (cards.get(c).player == player && bannedGames(c).contains(game)) return 0;
        }
        return 1;
    }

    int played(int player, int game) {
        if (!player(player) || !game(game)) return -2;
        if (playings.contains(new Pair(player, game))) return -3;
        if (playings.size() == 60) return -4;
        playings.add(new Pair(player, game));
        return playings.size();
    }

    int wrong(int i) {
        TreeSet<Integer> all = new TreeSet<>();
        for (Pair p : playings) if (may(p.one, p.other) == 0) all.add(p.other);
        if (i == -1) return all.size();
        return in(i, 0, all.size() - 1) ? new ArrayList<>(all).get(i) : -1;
    }

    private Failing standing(int club) {
        for (Failing f : failings) if (f.club == club && !f.undone) return f;
        return null;
    }

    int fail(int club) {
        if (!club(club)) return -2;
        if (standing(club) != null) return -3;
        Failing f = new Failing(club);
        List<Game> all = new ArrayList<>(), without = new ArrayList<>();
        for (Game g : games) {
            if (!g.has(club) || told(g.kind, 4) == 0) continue;
            all.add(g);
            if (score(g, today) == null) without.add(g);
        }
        boolean toVoid = all.size() - without.size() < all.size() / 2.0;
        for (Game g : toVoid ? all : without) {
            f.were.put(g.number, new int[] {g.kind, g.home, g.guest});
            g.kind = toVoid ? 5 : 3;
            if (toVoid || g.guest == club) continue;
            g.home = g.guest;
            g.guest = club;
        }
        failings.add(f);
        return f.were.size();
    }

    int undo(int club) {
        if (!club(club)) return -2;
        Failing f = standing(club);
        if (f == null) return -3;
        for (Failing later : failings.subList(failings.indexOf(f) + 1, failings.size())) {
            for (int g : later.were.keySet()) if (f.were.containsKey(g)) return -3;
        }
        f.undone = true;
        for (Map.Entry<Integer, int[]> e : f.were.entrySet()) {
            Game g = games.get(e.getKey());
            g.kind = e.getValue()[0];
            g.home = e.getValue()[1];
            g.guest = e.getValue()[2];
        }
        return f.were.size();
    }

    private List<Game> openGames(int step) {
        List<Game> all = new ArrayList<>();
        for (Game g : games) {
            boolean among = clubs.get(g.home)[0] == step && clubs.get(g.guest)[0] == step;
            if (among && told(g.kind, 4) == 1 && score(g, today) == null) all.add(g);
        }
        return all;
    }

    int open(int step) {
        return in(step, 0, 3) ? openGames(step).size() : -2;
    }

    /** All ends: the club's own sum of points and its place. */
    private List<long[]> ends(int club) {
        int step = clubs.get(club)[0];
        List<long[]> all = new ArrayList<>();
        goOn(club, openGames(step), 0, sumsOf(step, today), 0, all);
        return all;
    }

    private void goOn(int club, List<Game> open, int i, Map<Integer, long[]> sums, long own, List<long[]> all) {
        if (i == open.size()) {
            all.add(new long[] {own, ordered(clubs.get(club)[0], today, sums).indexOf(club)});
            return;
        }
        Game g = open.get(i);
        for (int[] s : new int[][] {{1, 0}, {0, 0}, {0, 1}}) {
            Map<Integer, long[]> next = new HashMap<>();
            sums.forEach((c, row) -> next.put(c, row.clone()));
            long more = 0;
            for (int c : new int[] {g.home, g.guest}) {
                long[] added = added(g, c, s[0], s[1]);
                addTo(next.get(c), added);
                if (c == club) more = added[0];
            }
            goOn(club, open, i + 1, next, own + more, all);
        }
    }

    int can(int club, int what) {
        if (!club(club) || !in(what, 0, 1)) return -2;
        if (open(clubs.get(club)[0]) > 6) return -3;
        var places = ends(club).stream().mapToLong(e -> e[1]);
        return (int) (what == 0 ? places.min() : places.max()).getAsLong();
    }

    int sure(int club, int place) {
        if (!club(club) || !in(place, 0, 11)) return -2;
        int worst = can(club, 1);
        return worst == -3 ? -3 : worst <= place ? 1 : 0;
    }

    int needs(int club, int place) {
        if (!club(club) || !in(place, 0, 11)) return -2;
        if (open(clubs.get(club)[0]) > 6) return -3;
        List<long[]> ends = ends(club);
        TreeSet<Long> sums = new TreeSet<>();
        for (long[] e : ends) sums.add(e[0]);
        for (long sum : sums) {
            if (ends.stream().allMatch(e -> e[0] < sum || e[1] <= place)) return (int) sum;
        }
        return -1;
    }

    long coin(int step, int pence, int club) {
        if (!in(step, 0, 3) || !in(pence, 0, 999999) || !club(club) || clubs.get(club)[0] != step) return NO;
        List<Integer> all = ordered(step, today, sumsOf(step, today));
        int n = all.size();
        long third = pence / 3, rest = pence - third - third;
        long[] gates = new long[n], got = new long[n];
        for (Game g : games) {
            if (score(g, today) == null) continue;
            int gate = told(g.kind, 6), home = gate * told(g.kind, 7) / 100;
            if (all.contains(g.home)) gates[all.indexOf(g.home)] += home;
            if (all.contains(g.guest)) gates[all.indexOf(g.guest)] += gate - home;
        }
        long sum = Arrays.stream(gates).sum(), parts = 0;
        for (int i = 1; i <= n; i++) parts += i;
        for (int i = 0; i < n; i++) got[i] = third / n + third * (n - i) / parts + (sum == 0 ? rest / n : rest * gates[i] / sum);
        got[0] += pence - Arrays.stream(got).sum();
        return got[all.indexOf(club)];
    }

    int meet(int clubs) {
        if (clubs == -1) {
            meetings.clear();
            return 0;
        }
        int one = clubs / 100, other = clubs % 100;
        if (clubs < 0 || !club(one) || !club(other) || one == other) return -2;
        for (Pair m : meetings) if (Set.of(m.one, m.other).contains(one) || Set.of(m.one, m.other).contains(other)) return -3;
        meetings.add(new Pair(one, other));
        return meetings.size();
    }

    /** 1 at home, 0 guest, -1 neither: in the latest game ahead of a day. */
    private int was(int club, int day) {
        return games.stream().filter(g -> g.has(club) && g.day < day)
            .max(Comparator.comparingInt((Game g) -> g.day).thenComparingInt(g -> g.number))
            .map(g -> g.home == club ? 1 : 0).orElse(-1);
    }

    int laid(int day, int what) {
        if (!in(day, 0, 399) || !in(what, 0, 1)) return -2;
        int best = -1, fewest = Integer.MAX_VALUE;
        for (int bits = (1 << meetings.size()) - 1; bits >= 0; bits--) {
            Set<Integer> towns = new HashSet<>();
            int breaks = 0;
            for (int i = 0; i < meetings.size(); i++) {
                Pair m = meetings.get(i);
                int home = (bits & 1 << i) == 0 ? m.one : m.other, guest = m.one + m.other - home;
                towns.add(clubs.get(home)[1]);
                if (was(home, day) == 1) breaks++;
                if (was(guest, day) == 0) breaks++;
            }
            if (towns.size() < meetings.size() || breaks > fewest) continue;
            fewest = breaks;
            best = bits;
        }
        return what == 0 || best < 0 ? best : fewest;
    }

    int count(int what) {
        if (!in(what, 0, 12)) return -2;
        return new int[] {today, clubs.size(), games.size(), told.size(), texts.size(), tape.length(), rules.size(),
            takings.size(), players, signings.size(), cards.size(), playings.size(), meetings.size()}[what];
    }

    int sheet(int sheet, int sort, int n) {
        if (!in(sheet, 0, 3) || !in(sort, -1, 2) || sort != -1 && n > 40) return -2;
        if (sort != -1 && n < 0) return -14;
        sheets[sheet] = sort == -1 ? null : sort == 0 ? new byte[n] : sort == 1 ? new short[n] : (Object) new int[n];
        return 1;
    }

    private static int size(Object row) {
        return row instanceof byte[] b ? b.length : row instanceof short[] s ? s.length : ((int[]) row).length;
    }

    private static int item(Object row, int i) {
        return row instanceof byte[] b ? b[i] : row instanceof short[] s ? s[i] : ((int[]) row)[i];
    }

    int cell(int sheet, int i, int v) {
        if (!in(sheet, 0, 3)) return -2;
        Object row = sheets[sheet];
        if (row == null) return -11;
        if (!in(i, 0, size(row) - 1)) return -12;
        if (row instanceof byte[] b) b[i] = (byte) v;
        else if (row instanceof short[] s) s[i] = (short) v;
        else ((int[]) row)[i] = v;
        return 1;
    }

    int copy(int sheet, int i, int other, int j, int n) {
        if (!in(sheet, 0, 3) || !in(other, 0, 3)) return -2;
        try {
            System.arraycopy(sheets[sheet], i, sheets[other], j, n);
            return n;
        } catch (NullPointerException e) {
            return -11;
        } catch (ArrayStoreException e) {
            return -13;
        } catch (IndexOutOfBoundsException e) {
            return -12;
        }
    }

    int results(int sheet, int sort, int from, int n) {
        if (!in(sheet, 0, 3) || !in(sort, 0, 2) || !in(n, 0, 13)) return -2;
        Object row = sheets[sheet];
        if (row == null) return -11;
        if (sort != (row instanceof byte[] ? 0 : row instanceof short[] ? 1 : 2)) return -13;
        int came = 0;
        for (long at = from; at < from + 3L * n; at += 3) {
            if (at < 0 || at + 2 >= size(row)) return -12;
            if (result(item(row, (int) at), item(row, (int) at + 1), item(row, (int) at + 2)) > 0) came++;
        }
        return came;
    }

    int taken(int game, int k) {
        if (!in(k, 0, 5)) return -2;
        if (!game(game)) return -11;
        return under(games.get(game).kind, k) ? games.get(game).day : -13;
    }
}
