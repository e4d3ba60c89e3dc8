import java.util.Arrays;

/**
 * The office of a league of steps: games and their results, tables by rules that are texts, cards and
 * bans, clubs that fail, the places that can still come, coin, and a day of games laid.
 * All rows are made with the object; no call makes another one.
 */
public final class LeagueOffice {
    public static final int NONE = -1, BAD = -2, STATE = -3, FULL = -4;
    public static final long NO = -4611686018427387904L;

    private static final int NOTHING = -11, OUTSIDE = -12, OTHER_SORT = -13, BELOW_ZERO = -14;

    private static final int DAYS = 400, PASS_AT_ONCE = 60, STEPS = 4, TOWNS = 8, CLUBS = 12;
    private static final int GAMES = 60, RESULTS = 120, MOST_GOALS = 30;
    private static final int RULES = 20, TAKINGS = 30, MOST_TAKEN = 99;
    private static final int PLAYERS = 20, REGISTERINGS = 40, CARDS = 40, PLAYINGS = 60, MOST_BANS = 5;
    private static final int MOST_PENCE = 999999, MEETINGS = 6;
    private static final int SHEETS = 4, SORTS = 3, SHEET_ROOM = 40, RESULTS_AT_ONCE = 13;

    private static final int GIVEN = 3, MOVED = 2, VOID = 5, KINDS = 6;
    /** The kind that each kind is under; -1 for the one under none. */
    private static final int[] UNDER = {-1, 0, 0, 0, 2, 3};
    private static final int[] COUNTS = {1, 0, 1, 1, 1, 0};
    private static final int[] SERVES = {1, 0, 1, 0, 1, 0};
    private static final int[] GATES = {300, 150, 240, 0, 480, 0};
    private static final int[] HOME_PARTS = {100, 50, 100, 100, 80, 100};

    private static final int TAPE_ROOM = 160, TEXTS = 6, MOST_NESTED = 5, MOST_DIGITS = 4;
    private static final String FIRST_TEXT =
        "win 3 ; draw 1 ; like goals * 100 + made ; ban kind = 2 or cards = 5 ;";
    /** What a text is asked for: its parts, in the order in which they stand there. */
    private static final int WIN = 0, DRAW = 1, LIKE = 2, BAN = 3, PARTS = 4;

    /** Tokens: a sign is its byte, a word is WORD and its number, which is below NAMES for a name. */
    private static final int END = 0, FAULTY = 1, NUMBER = 2, NEGATE = 3, WORD = 256, NAMES = 6, WORDS = 13;
    private static final int NAME_GOALS = 0, NAME_MADE = 1, NAME_WON = 2, NAME_CARDS = 3, NAME_KIND = 4, NAME_LATE = 5;
    private static final int WIN_KEY = WORD + 6, OR = WORD + 10, AND = WORD + 11, NOT = WORD + 12;
    /** How tightly a part of an E is bound: each level is made of parts of the next one. */
    private static final int OR_LEVEL = 0, AND_LEVEL = 1, NOT_LEVEL = 2, SUM_LEVEL = 3, TERM_LEVEL = 4, ONE_LEVEL = 5;

    private static final int MOST_OPEN = 6, ENDS = 729;

    private final Book book = new Book();
    private final Texts texts = new Texts();
    private final Reader reader = new Reader(texts);
    private final Tables tables = new Tables(book, texts);
    private final Squad squad = new Squad(book, texts);
    private final Failures failures = new Failures(book);
    private final Chances chances = new Chances(book, texts, tables);
    private final Purse purse = new Purse(book, tables);
    private final Plan plan = new Plan(book);
    private final Sheets sheets = new Sheets();

    public LeagueOffice() {
        for (int i = 0; i < FIRST_TEXT.length(); i++) reader.tape.add(FIRST_TEXT.charAt(i));
        reader.readTape();
    }

    // ---- clubs, games

    public int pass(int n) {
        if (n < 1 || n > PASS_AT_ONCE) return BAD;
        if (book.today + n >= DAYS) return FULL;
        book.today += n;
        return book.today;
    }

    public int club(int step, int town) {
        if (!inside(step, STEPS) || !inside(town, TOWNS)) return BAD;
        if (book.steps.isFull()) return FULL;
        book.towns.add(town);
        return book.steps.add(step) - 1;
    }

    public int step(int club, int step) {
        if (!book.isClub(club) || !inside(step, STEPS)) return BAD;
        int before = book.steps.get(club);
        book.steps.put(club, step);
        return before;
    }

    public int game(int kind, int home, int guest, int day) {
        if (!inside(kind, KINDS) || !book.isClub(home) || !book.isClub(guest)) return BAD;
        if (home == guest || !inside(day, DAYS)) return BAD;
        if (book.kinds.isFull()) return FULL;
        return book.addGame(kind, home, guest, day);
    }

    public int gameTold(int game, int what) {
        if (!book.isGame(game)) return BAD;
        int kind = book.kinds.get(game);
        switch (what) {
            case 0: return kind;
            case 1: return book.homes.get(game);
            case 2: return book.guests.get(game);
            case 3: return book.days.get(game);
            case 4: return ofKind(COUNTS, kind);
            case 5: return ofKind(SERVES, kind);
            case 6: return ofKind(GATES, kind);
            case 7: return ofKind(HOME_PARTS, kind);
            default: return BAD;
        }
    }

    public int result(int game, int home, int guest) {
        return tellResult(game, home, guest);
    }

    public int known(int game, int day) {
        if (!book.isGame(game) || !book.hasCome(day)) return BAD;
        book.learn(day);
        return book.scores.get(game);
    }

    // ---- rules, tables

    public int feed(int n, long bytes) {
        if (n < 1 || n > 8) return BAD;
        if (reader.tape.size() + n > TAPE_ROOM) return FULL;
        for (int i = 0; i < n; i++) reader.tape.add((int) (bytes >> (8 * i)) & 255);
        return reader.tape.size();
    }

    public int text() {
        if (texts.size >= TEXTS) return FULL;
        int fault = reader.readTape();
        return fault >= 0 ? -100 - fault : texts.size - 1;
    }

    public int rule(int text, int from) {
        if (!inside(text, texts.size) || !inside(from, DAYS)) return BAD;
        if (texts.ruleTexts.isFull()) return FULL;
        texts.ruleTexts.add(text);
        return texts.ruleFroms.add(from);
    }

    public int ruleOf(int day) {
        return inside(day, DAYS) ? texts.textFor(day) : BAD;
    }

    public int take(int club, int points, int from) {
        if (!book.isClub(club) || points < 1 || points > MOST_TAKEN || !inside(from, DAYS)) return BAD;
        if (tables.takenClubs.isFull()) return FULL;
        tables.takenClubs.add(club);
        tables.takenPoints.add(points);
        return tables.takenFroms.add(from);
    }

    public long points(int club, int day) {
        if (!book.isClub(club) || !book.hasCome(day)) return NO;
        tables.tally(day);
        return tables.pointsOf(club);
    }

    public long like(int club, int day) {
        if (!book.isClub(club) || !book.hasCome(day)) return NO;
        tables.tally(day);
        return tables.likeOf(club);
    }

    public int table(int step, int day, int place) {
        if (!inside(step, STEPS) || !book.hasCome(day)) return BAD;
        tables.tally(day);
        return tables.clubAt(step, place);
    }

    public int place(int club, int day) {
        if (!book.isClub(club) || !book.hasCome(day)) return BAD;
        tables.tally(day);
        return tables.placeOf(club);
    }

    // ---- players, cards

    public int player() {
        if (squad.players >= PLAYERS) return FULL;
        squad.players++;
        return squad.players - 1;
    }

    public int register(int player, int club, int from) {
        if (!squad.isPlayer(player) || !book.isClub(club) || !inside(from, DAYS)) return BAD;
        if (squad.signedPlayers.isFull()) return FULL;
        squad.signedPlayers.add(player);
        squad.signedClubs.add(club);
        return squad.signedFroms.add(from);
    }

    public int clubOf(int player, int day) {
        if (!squad.isPlayer(player) || !inside(day, DAYS)) return BAD;
        return squad.clubIn(player, day);
    }

    public int card(int player, int game, int kind) {
        if (!squad.isPlayer(player) || !book.isGame(game) || kind < 1 || kind > 2) return BAD;
        if (squad.cardPlayers.isFull()) return FULL;
        squad.cardGames.add(game);
        squad.cardKinds.add(kind);
        return squad.cardPlayers.add(player) - 1;
    }

    public int bans(int card) {
        return squad.cardPlayers.has(card) ? squad.banOf(card, squad.cardsTill(card)) : BAD;
    }

    public int banned(int card, int i) {
        return squad.cardPlayers.has(card) ? squad.heldBy(card, i) : BAD;
    }

    public int may(int player, int game) {
        if (!squad.isPlayer(player) || !book.isGame(game)) return BAD;
        squad.holdGames(player);
        return squad.isFree(player, game) ? 1 : 0;
    }

    public int played(int player, int game) {
        if (!squad.isPlayer(player) || !book.isGame(game)) return BAD;
        if (squad.hasPlayed(player, game)) return STATE;
        if (squad.playingPlayers.isFull()) return FULL;
        squad.playingGames.add(game);
        return squad.playingPlayers.add(player);
    }

    public int wrong(int i) {
        squad.listWrongs();
        if (i == -1) return squad.wrongs.size();
        return squad.wrongs.has(i) ? squad.wrongs.get(i) : NONE;
    }

    public int fail(int club) {
        if (!book.isClub(club)) return BAD;
        return failures.hasFailed(club) ? STATE : failures.enter(club);
    }

    public int undo(int club) {
        if (!book.isClub(club)) return BAD;
        return failures.canGoBack(club) ? failures.goBack(club) : STATE;
    }

    // ---- what can come

    public int open(int step) {
        return inside(step, STEPS) ? chances.gather(step) : BAD;
    }

    public int can(int club, int what) {
        if (!book.isClub(club) || !inside(what, 2)) return BAD;
        if (!chances.tryAll(club)) return STATE;
        return what == 0 ? chances.bestPlace() : chances.worstPlace();
    }

    public int sure(int club, int place) {
        if (!book.isClub(club) || !inside(place, CLUBS)) return BAD;
        if (!chances.tryAll(club)) return STATE;
        return chances.worstPlace() <= place ? 1 : 0;
    }

    public int needs(int club, int place) {
        if (!book.isClub(club) || !inside(place, CLUBS)) return BAD;
        return chances.tryAll(club) ? chances.leastFor(place) : STATE;
    }

    // ---- coin, a day laid

    public long coin(int step, int pence, int club) {
        if (!inside(step, STEPS) || pence < 0 || pence > MOST_PENCE) return NO;
        return book.isIn(step, club) ? purse.share(step, pence, club) : NO;
    }

    public int meet(int clubs) {
        if (clubs == -1) return plan.forget();
        int one = clubs / 100, other = clubs % 100;
        if (!book.isClub(one) || !book.isClub(other) || one == other) return BAD;
        if (plan.hasMeeting(one) || plan.hasMeeting(other)) return STATE;
        return plan.add(one, other);
    }

    public int laid(int day, int what) {
        if (!inside(day, DAYS) || !inside(what, 2)) return BAD;
        plan.lay(day);
        return what == 0 ? plan.bestBits : plan.bestBreaks;
    }

    public int count(int what) {
        switch (what) {
            case 0: return book.today;
            case 1: return book.steps.size();
            case 2: return book.kinds.size();
            case 3: return book.toldGames.size();
            case 4: return texts.size;
            case 5: return reader.tape.size();
            case 6: return texts.ruleTexts.size();
            case 7: return tables.takenClubs.size();
            case 8: return squad.players;
            case 9: return squad.signedPlayers.size();
            case 10: return squad.cardPlayers.size();
            case 11: return squad.playingPlayers.size();
            case 12: return plan.ones.size();
            default: return BAD;
        }
    }

    // ---- the host

    public int sheet(int sheet, int sort, int n) {
        if (!inside(sheet, SHEETS) || sort < -1 || sort >= SORTS) return BAD;
        if (sort == -1) return sheets.remove(sheet);
        if (n > SHEET_ROOM) return BAD;
        return n < 0 ? BELOW_ZERO : sheets.lay(sheet, sort, n);
    }

    public int cell(int sheet, int i, int v) {
        if (!inside(sheet, SHEETS)) return BAD;
        if (sheets.isMissing(sheet)) return NOTHING;
        return sheets.holds(sheet, i, 1) ? sheets.write(sheet, i, v) : OUTSIDE;
    }

    public int copy(int sheet, int i, int other, int j, int n) {
        if (!inside(sheet, SHEETS) || !inside(other, SHEETS)) return BAD;
        if (sheets.isMissing(sheet) || sheets.isMissing(other)) return NOTHING;
        if (sheets.sortOf(sheet) != sheets.sortOf(other)) return OTHER_SORT;
        if (!sheets.holds(sheet, i, n) || !sheets.holds(other, j, n)) return OUTSIDE;
        return sheets.move(sheet, i, other, j, n);
    }

    public int results(int sheet, int sort, int from, int n) {
        if (!inside(sheet, SHEETS) || !inside(sort, SORTS) || !inside(n, RESULTS_AT_ONCE + 1)) return BAD;
        if (sheets.isMissing(sheet)) return NOTHING;
        if (sheets.sortOf(sheet) != sort) return OTHER_SORT;
        int came = 0;
        int at = from;
        for (int k = 0; k < n; k++) {
            if (!sheets.holds(sheet, at, 3)) return OUTSIDE;
            int told = tellResult(sheets.read(sheet, at), sheets.read(sheet, at + 1), sheets.read(sheet, at + 2));
            if (told >= 0) came++;
            at += 3;
        }
        return came;
    }

    public int taken(int game, int k) {
        if (!inside(k, KINDS)) return BAD;
        if (!book.isGame(game)) return NOTHING;
        return isUnder(book.kinds.get(game), k) ? book.days.get(game) : OTHER_SORT;
    }

    private int tellResult(int game, int home, int guest) {
        if (!book.isGame(game) || !inside(home, MOST_GOALS + 1) || !inside(guest, MOST_GOALS + 1)) return BAD;
        if (book.days.get(game) > book.today) return STATE;
        if (book.toldGames.isFull()) return FULL;
        return book.addResult(game, home, guest);
    }

    private static boolean inside(int v, int bound) {
        return v >= 0 && v < bound;
    }

    private static int ofKind(int[] answers, int kind) {
        return kind >= 0 && kind < answers.length ? answers[kind] : 0;
    }

    /** Whether a kind is another one or under it, also by others between. */
    private static boolean isUnder(int kind, int other) {
        int at = kind;
        for (int n = 0; n < KINDS && at >= 0; n++) {
            if (at == other) return true;
            at = ofKind(UNDER, at);
        }
        return false;
    }

    /** A row of numbers with a bound: a place outside reads as 0 and takes nothing. */
    private static final class Row {
        private final int[] items;
        private int used;

        Row(int room) {
            items = new int[Math.max(room, 0)];
        }

        int size() {
            return used;
        }

        boolean isFull() {
            return used >= items.length;
        }

        boolean has(int i) {
            return i >= 0 && i < used;
        }

        int get(int i) {
            return i >= 0 && i < items.length ? items[i] : 0;
        }

        void put(int i, int v) {
            if (i >= 0 && i < items.length) items[i] = v;
        }

        /** Raises an item; how many are in use stays. */
        void raise(int i, int by) {
            if (i >= 0 && i < items.length) items[i] += by;
        }

        int add(int v) {
            if (used >= 0 && used < items.length) {
                items[used] = v;
                used++;
            }
            return used;
        }

        int pop() {
            if (used <= 0 || used > items.length) return 0;
            used--;
            return items[used];
        }

        void insert(int at, int v) {
            if (used >= items.length || at < 0 || at > used) return;
            System.arraycopy(items, at, items, at + 1, used - at);
            items[at] = v;
            used++;
        }

        void move(int from, int to, int n) {
            if (from < 0 || to < 0 || n < 0 || n > items.length - from || n > items.length - to) return;
            System.arraycopy(items, from, items, to, n);
        }

        void clear() {
            used = 0;
        }

        void fill(int v) {
            Arrays.fill(items, v);
        }
    }

    /** The clubs, the games, and the results that were told of them. */
    private static final class Book {
        private int today;
        private final Row steps = new Row(CLUBS), towns = new Row(CLUBS);
        private final Row kinds = new Row(GAMES), homes = new Row(GAMES), guests = new Row(GAMES), days = new Row(GAMES);
        /** The games by their days, of like ones by numbers. */
        private final Row byDay = new Row(GAMES);
        private final Row toldGames = new Row(RESULTS), toldScores = new Row(RESULTS), toldDays = new Row(RESULTS);
        /** The score of each game as known in the day last learnt; NONE without one. */
        private final Row scores = new Row(GAMES);

        boolean isClub(int club) {
            return steps.has(club);
        }

        boolean isGame(int game) {
            return kinds.has(game);
        }

        boolean hasCome(int day) {
            return day >= 0 && day <= today;
        }

        boolean isIn(int step, int club) {
            return steps.has(club) && steps.get(club) == step;
        }

        boolean plays(int game, int club) {
            return homes.get(game) == club || guests.get(game) == club;
        }

        boolean doesCount(int game) {
            return ofKind(COUNTS, kinds.get(game)) == 1;
        }

        boolean doesServe(int game) {
            return ofKind(SERVES, kinds.get(game)) == 1;
        }

        int isLate(int game) {
            return isUnder(kinds.get(game), MOVED) ? 1 : 0;
        }

        int addGame(int kind, int home, int guest, int day) {
            int game = kinds.size();
            int at = byDay.size();
            for (int i = 0; i < byDay.size() && at == byDay.size(); i++) {
                if (days.get(byDay.get(i)) > day) at = i;
            }
            byDay.insert(at, game);
            homes.add(home);
            guests.add(guest);
            days.add(day);
            return kinds.add(kind) - 1;
        }

        int addResult(int game, int home, int guest) {
            toldScores.add(100 * home + guest);
            toldDays.add(today);
            return toldGames.add(game);
        }

        /** Sets the scores to what is known in a day. */
        void learn(int day) {
            for (int g = 0; g < kinds.size(); g++) scores.put(g, kinds.get(g) == GIVEN ? 300 : NONE);
            for (int r = 0; r < toldGames.size(); r++) {
                if (toldDays.get(r) <= day) scores.put(toldGames.get(r), toldScores.get(r));
            }
        }
    }

    /** The texts, read into rows of numbers and operations behind them, and the rules that say which is due. */
    private static final class Texts {
        private int size;
        private final Row code = new Row(TEXTS * TAPE_ROOM);
        private final Row starts = new Row(TEXTS * PARTS), ends = new Row(TEXTS * PARTS);
        private final Row names = new Row(NAMES), stack = new Row(TAPE_ROOM);
        private final Row ruleTexts = new Row(RULES), ruleFroms = new Row(RULES);

        /** Makes the text that is about to be read empty: one that had a fault leaves nothing. */
        void begin() {
            code.used = size == 0 ? 0 : ends.get(size * PARTS - 1);
        }

        void beginPart(int part) {
            starts.put(size * PARTS + part, code.size());
        }

        void endPart(int part) {
            ends.put(size * PARTS + part, code.size());
        }

        void emitNumber(int v) {
            code.add(v);
        }

        /** Numbers are not below 0, so what is below is a token. */
        void emitToken(int token) {
            code.add(-1 - token);
        }

        int textFor(int day) {
            int found = 0, latest = -1;
            for (int i = 0; i < ruleTexts.size(); i++) {
                int from = ruleFroms.get(i);
                if (from <= day && from >= latest) {
                    latest = from;
                    found = ruleTexts.get(i);
                }
            }
            return found;
        }

        int askGame(int part, int day, int goals, int made, int kind, int late) {
            names.fill(0);
            names.put(NAME_GOALS, goals);
            names.put(NAME_MADE, made);
            names.put(NAME_KIND, kind);
            names.put(NAME_LATE, late);
            return value(textFor(day), part);
        }

        int askLike(int day, int goals, int made, int won) {
            names.fill(0);
            names.put(NAME_GOALS, goals);
            names.put(NAME_MADE, made);
            names.put(NAME_WON, won);
            return value(textFor(day), LIKE);
        }

        int askBan(int day, int cards, int kind) {
            names.fill(0);
            names.put(NAME_CARDS, cards);
            names.put(NAME_KIND, kind);
            return value(textFor(day), BAN);
        }

        private int value(int text, int part) {
            int start = starts.get(text * PARTS + part), end = ends.get(text * PARTS + part);
            stack.clear();
            for (int i = start; i < end; i++) {
                int item = code.get(i), token = -1 - item;
                if (item >= 0) {
                    stack.add(item);
                } else if (token >= WORD && token < WORD + NAMES) {
                    stack.add(names.get(token - WORD));
                } else if (token == NEGATE) {
                    stack.add(-stack.pop());
                } else if (token == NOT) {
                    stack.add(stack.pop() == 0 ? 1 : 0);
                } else {
                    int right = stack.pop(), left = stack.pop();
                    stack.add(joined(token, left, right));
                }
            }
            return stack.pop();
        }

        private static int joined(int token, int left, int right) {
            switch (token) {
                case '+': return left + right;
                case '-': return left - right;
                case '*': return left * right;
                case '<': return left < right ? 1 : 0;
                case '=': return left == right ? 1 : 0;
                case AND: return left != 0 && right != 0 ? 1 : 0;
                case OR: return left != 0 || right != 0 ? 1 : 0;
                default: return 0;
            }
        }
    }

    /** The tape and what reads it into a text: first its tokens, then their order. */
    private static final class Reader {
        private final Texts texts;
        private final Row tape = new Row(TAPE_ROOM);
        private final Row tokens = new Row(TAPE_ROOM + 1), places = new Row(TAPE_ROOM + 1), values = new Row(TAPE_ROOM + 1);
        /** The first token that is not read yet. */
        private int at;

        Reader(Texts texts) {
            this.texts = texts;
        }

        /** Makes the tape a text and empties it: the place of its fault, or NONE. */
        int readTape() {
            split();
            texts.begin();
            at = 0;
            boolean fits = true;
            for (int part = 0; part < PARTS && fits; part++) fits = readPart(part);
            tape.clear();
            if (!fits || tokens.get(at) != END) return places.get(at);
            texts.size++;
            return NONE;
        }

        /** Finds the tokens, behind the last of which stands END, or FAULTY where no token is. */
        private void split() {
            tokens.clear();
            places.clear();
            values.clear();
            int from = 0;
            boolean goesOn = true;
            for (int n = 0; n <= TAPE_ROOM && goesOn; n++) {
                from = behindBlanks(from);
                int first = tape.get(from);
                int to = from + 1;
                if (from >= tape.size()) addToken(END, from, 0);
                else if (isDigit(first)) {
                    to = behindDigits(from);
                    addToken(to - from > MOST_DIGITS ? FAULTY : NUMBER, from, numberAt(from, to));
                } else if (isLetter(first)) {
                    to = behindLetters(from);
                    addToken(wordAt(from, to), from, 0);
                } else addToken(isSign(first) ? first : FAULTY, from, 0);
                int last = tokens.get(tokens.size() - 1);
                goesOn = last != END && last != FAULTY;
                from = to;
            }
        }

        private void addToken(int token, int place, int v) {
            tokens.add(token);
            places.add(place);
            values.add(v);
        }

        private int behindBlanks(int from) {
            int to = from;
            while (to < tape.size() && (tape.get(to) == ' ' || tape.get(to) == 10)) to++;
            return to;
        }

        private int behindDigits(int from) {
            int to = from;
            while (to < tape.size() && isDigit(tape.get(to))) to++;
            return to;
        }

        private int behindLetters(int from) {
            int to = from;
            while (to < tape.size() && isLetter(tape.get(to))) to++;
            return to;
        }

        private int numberAt(int from, int to) {
            int v = 0;
            for (int i = from; i < to; i++) v = v * 10 + tape.get(i) - '0';
            return v;
        }

        private int wordAt(int from, int to) {
            for (int w = 0; w < WORDS; w++) {
                if (isWord(wordOf(w), from, to)) return WORD + w;
            }
            return FAULTY;
        }

        private boolean isWord(String word, int from, int to) {
            if (word.length() != to - from) return false;
            for (int i = 0; i < word.length(); i++) {
                if (word.charAt(i) != tape.get(from + i)) return false;
            }
            return true;
        }

        private static String wordOf(int w) {
            switch (w) {
                case 0: return "goals";
                case 1: return "made";
                case 2: return "won";
                case 3: return "cards";
                case 4: return "kind";
                case 5: return "late";
                case 6: return "win";
                case 7: return "draw";
                case 8: return "like";
                case 9: return "ban";
                case 10: return "or";
                case 11: return "and";
                default: return "not";
            }
        }

        private static boolean isDigit(int b) {
            return b >= '0' && b <= '9';
        }

        private static boolean isLetter(int b) {
            return b >= 'a' && b <= 'z';
        }

        private static boolean isSign(int b) {
            return b == '(' || b == ')' || b == ';' || b == '+' || b == '-' || b == '*' || b == '<' || b == '=';
        }

        private boolean readToken(int token) {
            if (tokens.get(at) != token) return false;
            at++;
            return true;
        }

        private boolean readPart(int part) {
            if (!readToken(WIN_KEY + part)) return false;
            texts.beginPart(part);
            if (!readLevel(OR_LEVEL, 0)) return false;
            texts.endPart(part);
            return readToken(';');
        }

        /** Reads what a level is made of, while so many of ( and not and - are open. */
        private boolean readLevel(int level, int open) {
            if (open > MOST_NESTED) return false;
            if (level >= ONE_LEVEL) return readOne(open);
            if (level == NOT_LEVEL && tokens.get(at) == NOT) return readNot(open);
            if (!readLevel(level + 1, open)) return false;
            for (int n = 0; n < TAPE_ROOM && joins(level, n, tokens.get(at)); n++) {
                int token = tokens.get(at);
                at++;
                if (!readLevel(level + 1, open)) return false;
                texts.emitToken(token);
            }
            return true;
        }

        /** Whether a token joins one more part to a level that has so many joined already. */
        private static boolean joins(int level, int joined, int token) {
            switch (level) {
                case OR_LEVEL: return token == OR;
                case AND_LEVEL: return token == AND;
                case NOT_LEVEL: return joined == 0 && (token == '<' || token == '=');
                case SUM_LEVEL: return token == '+' || token == '-';
                case TERM_LEVEL: return token == '*';
                default: return false;
            }
        }

        private boolean readNot(int open) {
            if (open >= MOST_NESTED || !readToken(NOT)) return false;
            if (!readLevel(NOT_LEVEL, open + 1)) return false;
            texts.emitToken(NOT);
            return true;
        }

        private boolean readOne(int open) {
            int token = tokens.get(at);
            if (token == NUMBER) {
                texts.emitNumber(values.get(at));
                at++;
                return true;
            }
            if (token >= WORD && token < WORD + NAMES) {
                texts.emitToken(token);
                at++;
                return true;
            }
            if (open >= MOST_NESTED) return false;
            if (readToken('(')) return readLevel(OR_LEVEL, open + 1) && readToken(')');
            if (!readToken('-') || !readLevel(ONE_LEVEL, open + 1)) return false;
            texts.emitToken(NEGATE);
            return true;
        }
    }

    /** What each club has by the games of a day and ahead of it, and the tables by that. */
    private static final class Tables {
        private final Book book;
        private final Texts texts;
        private final Row takenClubs = new Row(TAKINGS), takenPoints = new Row(TAKINGS), takenFroms = new Row(TAKINGS);
        private final long[] points = new long[CLUBS];
        private final Row goals = new Row(CLUBS), made = new Row(CLUBS), won = new Row(CLUBS);
        /** The like of each club, where it was asked since its sums changed. */
        private final Row likes = new Row(CLUBS), asked = new Row(CLUBS);
        private int likeDay;

        Tables(Book book, Texts texts) {
            this.book = book;
            this.texts = texts;
        }

        /** Sets the sums of all clubs to what they are in a day. */
        void tally(int day) {
            Arrays.fill(points, 0L);
            goals.fill(0);
            made.fill(0);
            won.fill(0);
            asked.fill(0);
            likeDay = day;
            book.learn(day);
            for (int g = 0; g < book.kinds.size(); g++) {
                int score = book.scores.get(g);
                if (score < 0 || book.days.get(g) > day || !book.doesCount(g)) continue;
                enter(g, book.homes.get(g), score / 100, score % 100);
                enter(g, book.guests.get(g), score % 100, score / 100);
            }
            for (int i = 0; i < takenClubs.size(); i++) {
                if (takenFroms.get(i) <= day) addPoints(takenClubs.get(i), -takenPoints.get(i));
            }
        }

        private void enter(int game, int club, int own, int other) {
            addGoals(club, own - other, own, own > other ? 1 : 0);
            if (own < other) return;
            int kind = book.kinds.get(game), late = book.isLate(game);
            int part = own > other ? WIN : DRAW;
            addPoints(club, texts.askGame(part, book.days.get(game), own - other, own, kind, late));
        }

        void addPoints(int club, long by) {
            if (club >= 0 && club < points.length) points[club] += by;
        }

        void addGoals(int club, int goalsBy, int madeBy, int wonBy) {
            goals.raise(club, goalsBy);
            made.raise(club, madeBy);
            won.raise(club, wonBy);
            asked.put(club, 0);
        }

        long pointsOf(int club) {
            return club >= 0 && club < points.length ? points[club] : 0;
        }

        int likeOf(int club) {
            if (asked.get(club) == 0) likes.put(club, texts.askLike(likeDay, goals.get(club), made.get(club), won.get(club)));
            asked.put(club, 1);
            return likes.get(club);
        }

        /** The place of a club among those of its step, by the sums as they stand. */
        int placeOf(int club) {
            int step = book.steps.get(club), ahead = 0;
            for (int c = 0; c < book.steps.size(); c++) {
                if (c == club || book.steps.get(c) != step) continue;
                long more = pointsOf(c) - pointsOf(club);
                if (more == 0) more = (long) likeOf(c) - likeOf(club);
                if (more > 0 || more == 0 && c < club) ahead++;
            }
            return ahead;
        }

        int clubAt(int step, int place) {
            for (int c = 0; c < book.steps.size(); c++) {
                if (book.steps.get(c) == step && placeOf(c) == place) return c;
            }
            return NONE;
        }
    }

    /** The players, for whom they are registered, their cards, and the games that they played. */
    private static final class Squad {
        private final Book book;
        private final Texts texts;
        private int players;
        private final Row signedPlayers = new Row(REGISTERINGS), signedClubs = new Row(REGISTERINGS);
        private final Row signedFroms = new Row(REGISTERINGS);
        private final Row cardPlayers = new Row(CARDS), cardGames = new Row(CARDS), cardKinds = new Row(CARDS);
        private final Row playingPlayers = new Row(PLAYINGS), playingGames = new Row(PLAYINGS);
        /** For each game the card that bans the player last looked at for it, or NONE. */
        private final Row holders = new Row(GAMES);
        private final Row marks = new Row(GAMES), wrongs = new Row(GAMES);

        Squad(Book book, Texts texts) {
            this.book = book;
            this.texts = texts;
        }

        boolean isPlayer(int player) {
            return player >= 0 && player < players;
        }

        int clubIn(int player, int day) {
            int found = NONE, latest = -1;
            for (int i = 0; i < signedPlayers.size(); i++) {
                int from = signedFroms.get(i);
                if (signedPlayers.get(i) == player && from <= day && from >= latest) {
                    latest = from;
                    found = signedClubs.get(i);
                }
            }
            return found;
        }

        int cardsTill(int card) {
            int cards = 0;
            for (int c = 0; c <= card && c < cardPlayers.size(); c++) {
                if (cardPlayers.get(c) == cardPlayers.get(card)) cards++;
            }
            return cards;
        }

        /** For how many games a card bans that is the player's so manieth. */
        int banOf(int card, int cards) {
            int said = texts.askBan(book.days.get(cardGames.get(card)), cards, cardKinds.get(card));
            return Math.max(0, Math.min(MOST_BANS, said));
        }

        /** Finds the games for which a player is banned: each card has its pick of what the ones ahead left. */
        void holdGames(int player) {
            holders.fill(NONE);
            int cards = 0;
            for (int c = 0; c < cardPlayers.size(); c++) {
                if (cardPlayers.get(c) != player) continue;
                cards++;
                hold(c, banOf(c, cards));
            }
        }

        private void hold(int card, int n) {
            int day = book.days.get(cardGames.get(card));
            int club = clubIn(cardPlayers.get(card), day);
            int left = club == NONE ? 0 : n;
            for (int k = 0; k < book.byDay.size() && left > 0; k++) {
                int game = book.byDay.get(k);
                if (book.days.get(game) <= day || !book.plays(game, club)) continue;
                if (!book.doesServe(game) || holders.get(game) != NONE) continue;
                holders.put(game, card);
                left--;
            }
        }

        int heldBy(int card, int i) {
            holdGames(cardPlayers.get(card));
            int ahead = 0;
            for (int k = 0; k < book.byDay.size(); k++) {
                int game = book.byDay.get(k);
                if (holders.get(game) != card) continue;
                if (ahead == i) return game;
                ahead++;
            }
            return NONE;
        }

        /** Whether the player last looked at may play in a game. */
        boolean isFree(int player, int game) {
            int club = clubIn(player, book.days.get(game));
            return club != NONE && book.plays(game, club) && holders.get(game) == NONE;
        }

        boolean hasPlayed(int player, int game) {
            for (int i = 0; i < playingPlayers.size(); i++) {
                if (playingPlayers.get(i) == player && playingGames.get(i) == game) return true;
            }
            return false;
        }

        void listWrongs() {
            marks.fill(0);
            for (int p = 0; p < players; p++) {
                holdGames(p);
                for (int i = 0; i < playingPlayers.size(); i++) {
                    int game = playingGames.get(i);
                    if (playingPlayers.get(i) == p && !isFree(p, game)) marks.put(game, 1);
                }
            }
            wrongs.clear();
            for (int g = 0; g < book.kinds.size(); g++) {
                if (marks.get(g) == 1) wrongs.add(g);
            }
        }
    }

    /** The clubs that failed, and how the games were that each one's failing changed. */
    private static final class Failures {
        private final Book book;
        private int failings;
        /** The number of each club's failing that is not undone; 0 without one. */
        private final Row numbers = new Row(CLUBS);
        /** The number of the failing that changed each game last. */
        private final Row lastChanges = new Row(GAMES);
        /** By clubs and games; the kind is NONE where the club's failing changed nothing. */
        private final Row wasKinds = new Row(CLUBS * GAMES), wasHomes = new Row(CLUBS * GAMES), wasGuests = new Row(CLUBS * GAMES);

        Failures(Book book) {
            this.book = book;
        }

        boolean hasFailed(int club) {
            return numbers.get(club) > 0;
        }

        int enter(int club) {
            failings++;
            numbers.put(club, failings);
            book.learn(book.today);
            for (int g = 0; g < GAMES; g++) wasKinds.put(club * GAMES + g, NONE);
            int all = 0, known = 0;
            for (int g = 0; g < book.kinds.size(); g++) {
                if (!book.plays(g, club) || !book.doesCount(g)) continue;
                all++;
                if (book.scores.get(g) >= 0) known++;
            }
            return changeGames(club, 2 * known < all);
        }

        private int changeGames(int club, boolean toVoid) {
            int changed = 0;
            for (int g = 0; g < book.kinds.size(); g++) {
                if (!book.plays(g, club) || !book.doesCount(g)) continue;
                if (!toVoid && book.scores.get(g) >= 0) continue;
                keep(club, g);
                if (toVoid) book.kinds.put(g, VOID);
                else give(g, club);
                changed++;
            }
            return changed;
        }

        private void keep(int club, int game) {
            wasKinds.put(club * GAMES + game, book.kinds.get(game));
            wasHomes.put(club * GAMES + game, book.homes.get(game));
            wasGuests.put(club * GAMES + game, book.guests.get(game));
            lastChanges.put(game, failings);
        }

        private void give(int game, int loser) {
            int other = book.homes.get(game) == loser ? book.guests.get(game) : book.homes.get(game);
            book.kinds.put(game, GIVEN);
            book.homes.put(game, other);
            book.guests.put(game, loser);
        }

        private boolean hasChanged(int club, int game) {
            return wasKinds.get(club * GAMES + game) != NONE;
        }

        boolean canGoBack(int club) {
            if (!hasFailed(club)) return false;
            for (int g = 0; g < book.kinds.size(); g++) {
                if (hasChanged(club, g) && lastChanges.get(g) != numbers.get(club)) return false;
            }
            return true;
        }

        int goBack(int club) {
            int changed = 0;
            for (int g = 0; g < book.kinds.size(); g++) {
                if (!hasChanged(club, g)) continue;
                book.kinds.put(g, wasKinds.get(club * GAMES + g));
                book.homes.put(g, wasHomes.get(club * GAMES + g));
                book.guests.put(g, wasGuests.get(club * GAMES + g));
                changed++;
            }
            numbers.put(club, 0);
            return changed;
        }
    }

    /** All ends that the open games of a step can come to, and what one club has in each. */
    private static final class Chances {
        private final Book book;
        private final Texts texts;
        private final Tables tables;
        private final Row games = new Row(GAMES);
        private final Row wins = new Row(MOST_OPEN), draws = new Row(MOST_OPEN);
        /** How each game ends: 0 its home wins, 1 none does, 2 its guest does. */
        private final Row hows = new Row(MOST_OPEN);
        private final Row places = new Row(ENDS);
        private final long[] sums = new long[ENDS];
        private int ends;

        Chances(Book book, Texts texts, Tables tables) {
            this.book = book;
            this.texts = texts;
            this.tables = tables;
        }

        int gather(int step) {
            book.learn(book.today);
            games.clear();
            for (int g = 0; g < book.kinds.size(); g++) {
                boolean among = book.isIn(step, book.homes.get(g)) && book.isIn(step, book.guests.get(g));
                if (among && book.doesCount(g) && book.scores.get(g) < 0) games.add(g);
            }
            return games.size();
        }

        /** Tries all ends for a club; false if the games are too many. */
        boolean tryAll(int club) {
            if (gather(book.steps.get(club)) > MOST_OPEN) return false;
            tables.tally(book.today);
            long before = tables.pointsOf(club);
            ends = enterFirst();
            for (int end = 0; end < ends && end < sums.length; end++) {
                places.put(end, tables.placeOf(club));
                sums[end] = tables.pointsOf(club) - before;
                enterNext();
            }
            return true;
        }

        /** Enters the first end of every game: how many ends there are. */
        private int enterFirst() {
            int all = 1;
            for (int i = 0; i < games.size(); i++) {
                int game = games.get(i), day = book.days.get(game), kind = book.kinds.get(game);
                wins.put(i, texts.askGame(WIN, day, 1, 1, kind, book.isLate(game)));
                draws.put(i, texts.askGame(DRAW, day, 0, 0, kind, book.isLate(game)));
                hows.put(i, 0);
                enter(i, 1);
                all *= 3;
            }
            return all;
        }

        /** Goes on to the next end of the last game; behind its last one to its first one, and to the next one of the game ahead. */
        private void enterNext() {
            boolean wraps = true;
            for (int i = games.size() - 1; i >= 0 && wraps; i--) {
                enter(i, -1);
                wraps = hows.get(i) == 2;
                hows.put(i, wraps ? 0 : hows.get(i) + 1);
                enter(i, 1);
            }
        }

        /** Adds the end of a game to the sums of its clubs, or takes it off again. */
        private void enter(int i, int sign) {
            int home = book.homes.get(games.get(i)), guest = book.guests.get(games.get(i));
            if (hows.get(i) == 0) enterWin(i, home, guest, sign);
            else if (hows.get(i) == 1) enterDraw(i, home, guest, sign);
            else enterWin(i, guest, home, sign);
        }

        private void enterWin(int i, int winner, int loser, int sign) {
            tables.addPoints(winner, (long) sign * wins.get(i));
            tables.addGoals(winner, sign, sign, sign);
            tables.addGoals(loser, -sign, 0, 0);
        }

        private void enterDraw(int i, int home, int guest, int sign) {
            tables.addPoints(home, (long) sign * draws.get(i));
            tables.addPoints(guest, (long) sign * draws.get(i));
        }

        int bestPlace() {
            int best = CLUBS;
            for (int end = 0; end < ends; end++) best = Math.min(best, places.get(end));
            return best;
        }

        int worstPlace() {
            int worst = 0;
            for (int end = 0; end < ends; end++) worst = Math.max(worst, places.get(end));
            return worst;
        }

        /** The least sum that is enough for a place: one above all sums that are not. */
        int leastFor(int place) {
            int missing = -1;
            for (int end = 0; end < ends; end++) {
                if (places.get(end) > place && (missing < 0 || sumOf(end) > sumOf(missing))) missing = end;
            }
            int least = -1;
            for (int end = 0; end < ends; end++) {
                boolean enough = missing < 0 || sumOf(end) > sumOf(missing);
                if (enough && (least < 0 || sumOf(end) < sumOf(least))) least = end;
            }
            return least < 0 ? NONE : (int) sumOf(least);
        }

        private long sumOf(int end) {
            return end >= 0 && end < sums.length ? sums[end] : 0;
        }
    }

    /** Coin shared among the clubs of a step. */
    private static final class Purse {
        private final Book book;
        private final Tables tables;
        private final Row gateParts = new Row(CLUBS);

        Purse(Book book, Tables tables) {
            this.book = book;
            this.tables = tables;
        }

        /** What a club of the step gets. */
        long share(int step, int pence, int club) {
            tables.tally(book.today);
            sumGates();
            int clubs = 0, gates = 0;
            for (int c = 0; c < book.steps.size(); c++) {
                if (!book.isIn(step, c)) continue;
                clubs++;
                gates += gateParts.get(c);
            }
            long own = 0, left = pence;
            for (int c = 0; c < book.steps.size(); c++) {
                if (!book.isIn(step, c)) continue;
                long part = part(pence, clubs, clubs - tables.placeOf(c), gateParts.get(c), gates);
                left -= part;
                if (c == club) own = part;
            }
            return tables.placeOf(club) == 0 ? own + left : own;
        }

        /** What one of so many clubs gets of all three thirds, by its parts of places and of all gates, each cut. */
        private static long part(int pence, int clubs, int placeParts, int gateParts, int gates) {
            if (clubs < 1) return 0;
            long third = pence / 3, rest = pence - 2 * third;
            long byPlace = third * placeParts / Math.max(1, clubs * (clubs + 1) / 2);
            long byGates = gates > 0 ? rest * gateParts / gates : rest / clubs;
            return third / clubs + byPlace + byGates;
        }

        /** Sums the parts of the gates of the games whose score is known, of whatever kind and step. */
        private void sumGates() {
            gateParts.fill(0);
            for (int g = 0; g < book.kinds.size(); g++) {
                if (book.scores.get(g) < 0) continue;
                int gate = ofKind(GATES, book.kinds.get(g));
                int homes = gate * ofKind(HOME_PARTS, book.kinds.get(g)) / 100;
                gateParts.raise(book.homes.get(g), homes);
                gateParts.raise(book.guests.get(g), gate - homes);
            }
        }
    }

    /** The meetings of a day, and who is at home in them. */
    private static final class Plan {
        private static final int AT_HOME = 1, GUEST = 0;

        private final Book book;
        private final Row ones = new Row(MEETINGS), others = new Row(MEETINGS);
        /** How each club was in its latest game ahead of the day; NONE without one. */
        private final Row latest = new Row(CLUBS);
        private int bestBits, bestBreaks;

        Plan(Book book) {
            this.book = book;
        }

        int forget() {
            ones.clear();
            others.clear();
            return 0;
        }

        boolean hasMeeting(int club) {
            for (int i = 0; i < ones.size(); i++) {
                if (ones.get(i) == club || others.get(i) == club) return true;
            }
            return false;
        }

        int add(int one, int other) {
            others.add(other);
            return ones.add(one);
        }

        /** Finds the bits with the fewest breaks for a day, the least ones first; both are NONE if there are none. */
        void lay(int day) {
            look(day);
            bestBits = NONE;
            bestBreaks = NONE;
            for (int bits = 0; bits < 1 << ones.size(); bits++) {
                int breaks = breaksOf(bits);
                if (breaks == NONE || bestBits != NONE && breaks >= bestBreaks) continue;
                bestBits = bits;
                bestBreaks = breaks;
            }
        }

        private void look(int day) {
            latest.fill(NONE);
            for (int k = 0; k < book.byDay.size(); k++) {
                int game = book.byDay.get(k);
                if (book.days.get(game) >= day) break;
                latest.put(book.homes.get(game), AT_HOME);
                latest.put(book.guests.get(game), GUEST);
            }
        }

        /** How many breaks there are by some bits; NONE if two of one town would be at home. */
        private int breaksOf(int bits) {
            int breaks = 0, townBits = 0;
            for (int i = 0; i < ones.size(); i++) {
                boolean turned = (bits >> i & 1) == 1;
                int home = turned ? others.get(i) : ones.get(i), guest = turned ? ones.get(i) : others.get(i);
                int townBit = 1 << book.towns.get(home);
                if ((townBits & townBit) != 0) return NONE;
                townBits |= townBit;
                if (latest.get(home) == AT_HOME) breaks++;
                if (latest.get(guest) == GUEST) breaks++;
            }
            return breaks;
        }
    }

    /** Rows of bytes, shorts or ints, one behind the other in one row. */
    private static final class Sheets {
        private static final int BYTES = 0, SHORTS = 1;

        /** 0 where a sheet is missing, else its sort and 1. */
        private final Row sorts = new Row(SHEETS);
        private final Row sizes = new Row(SHEETS);
        private final Row cells = new Row(SHEETS * SHEET_ROOM);

        int remove(int sheet) {
            sorts.put(sheet, 0);
            return 1;
        }

        int lay(int sheet, int sort, int n) {
            sorts.put(sheet, sort + 1);
            sizes.put(sheet, n);
            for (int i = 0; i < SHEET_ROOM; i++) cells.put(sheet * SHEET_ROOM + i, 0);
            return 1;
        }

        boolean isMissing(int sheet) {
            return sorts.get(sheet) == 0;
        }

        int sortOf(int sheet) {
            return sorts.get(sheet) - 1;
        }

        /** Whether n items from one on are all inside; none at all may also stand right behind the last one. */
        boolean holds(int sheet, int i, int n) {
            return i >= 0 && n >= 0 && i <= sizes.get(sheet) && n <= sizes.get(sheet) - i;
        }

        int read(int sheet, int i) {
            return cells.get(sheet * SHEET_ROOM + i);
        }

        int write(int sheet, int i, int v) {
            int sort = sortOf(sheet);
            cells.put(sheet * SHEET_ROOM + i, sort == BYTES ? (byte) v : sort == SHORTS ? (short) v : v);
            return 1;
        }

        int move(int sheet, int i, int other, int j, int n) {
            cells.move(sheet * SHEET_ROOM + i, other * SHEET_ROOM + j, n);
            return n;
        }
    }
}
