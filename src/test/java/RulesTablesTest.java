/** Promises 9 to 17. */
public final class RulesTablesTest {
    private static final Due due = new Due("RulesTablesTest");

    public static void main(String[] args) {
        feed();
        feedFull();
        textNumbers();
        textFull();
        tapesAheadAreGone();
        textOrder();
        textTokens();
        textNesting();
        textValues();
        textsAreLong();
        faultsLeaveNothing();
        rule();
        ruleOf();
        take();
        points();
        pointsByTexts();
        pointsAreLong();
        like();
        table();
        place();
        tableByTheOutermost();
        othersAreZero();
        due.end();
    }

    private static void feed() {
        LeagueOffice x = new LeagueOffice();
        due.is("9 feed(0, 1)", x.feed(0, 1), -2);
        due.is("9 feed(9, 1)", x.feed(9, 1), -2);
        due.is("9 feed(-1, 1)", x.feed(-1, 1), -2);
        due.is("9 count(5)", x.count(5), 0);
        String first = "win 1;dr";
        long bytes = 0;
        for (int i = 7; i >= 0; i--) bytes = bytes << 8 | first.charAt(i);
        due.is("9 the lowest byte first", x.feed(8, bytes), 8);
        due.is("9 only so many of them", x.feed(2, 0x7777777777777761L), 10);
        due.is("9 feed a tail", Due.feed(x, " 1;like 1;ban 1;"), 26);
        due.is("9 text()", x.text(), 1);
        due.is("9 feed of a byte above 127", x.feed(1, -1L), 1);
        due.is("9 such a byte begins no token", x.text(), -100);
        bytes = 'w' | 'i' << 8 | 'n' << 16 | (long) '3' << 24 | (long) ';' << 32 | (long) ' ' << 40 | 10L << 48;
        due.is("9 the highest byte is one, too", x.feed(8, bytes | 200L << 56), 8);
        due.is("9 bytes above those that are taken", x.feed(1, 0x6162636465666768L), 9);
        due.is("9 the eighth begins no token", x.text(), -107);
        due.is("9 seven of them", x.feed(7, bytes | 200L << 56), 7);
        due.is("9 and one more", x.feed(1, 'd' | 200L << 56), 8);
        due.is("9 a word that is none", x.text(), -107);
    }

    private static void feedFull() {
        LeagueOffice x = new LeagueOffice();
        for (int i = 1; i <= 19; i++) due.is("9 feed", x.feed(8, 0x2020202020202020L), 8 * i);
        due.is("9 feed(7)", x.feed(7, 0x2020202020202020L), 159);
        due.is("9 feed(2) above 160", x.feed(2, 0), -4);
        due.is("9 feed(9), bad ahead of full", x.feed(9, 0), -2);
        due.is("9 count(5)", x.count(5), 159);
        due.is("9 feed(1) to 160", x.feed(1, 32), 160);
        due.is("9 feed(1) above 160", x.feed(1, 32), -4);
        due.is("9 text() of blanks ends too early", x.text(), -260);
        due.is("9 count(5) behind text()", x.count(5), 0);
    }

    private static void textNumbers() {
        LeagueOffice x = new LeagueOffice();
        due.is("10 nothing", x.text(), -100);
        due.is("10 count(4)", x.count(4), 1);
        due.is("10 a text", Due.read(x, "win 3;draw 1;like 0;ban 0;"), 1);
        due.is("10 count(5)", x.count(5), 0);
        due.is("10 count(4)", x.count(4), 2);
        due.is("10 a fault", Due.read(x, "win 3;draw 1;like 0;ban 0"), -125);
        due.is("10 count(5) behind a fault", x.count(5), 0);
        due.is("10 count(4) behind a fault", x.count(4), 2);
        due.is("10 the next text", Due.read(x, "win 2;draw 1;like 0;ban 0;"), 2);
    }

    private static void textFull() {
        LeagueOffice x = new LeagueOffice();
        for (int i = 1; i <= 5; i++) due.is("10 text " + i, Due.read(x, "win " + i + ";draw 1;like 0;ban 0;"), i);
        Due.feed(x, "win x");
        due.is("10 no text more has room", x.text(), -4);
        due.is("10 the tape stays", x.count(5), 5);
        due.is("10 count(4)", x.count(4), 6);
        due.is("10 rule of the last one", x.rule(5, 0), 1);
        x.club(0, 0);
        x.club(0, 1);
        x.game(0, 0, 1, 0);
        x.result(0, 1, 0);
        due.is("10 by the last one", x.points(0, 0), 5);
    }

    /** What a tape ahead of this one had does not stand behind its end. */
    private static void tapesAheadAreGone() {
        LeagueOffice x = new LeagueOffice();
        due.is("10 too long", Due.read(x, "win 99999"), -104);
        due.is("10 ends behind a number", Due.read(x, "win 9999"), -108);
        due.is("10 no name", Due.read(x, "win goalss"), -104);
        due.is("10 ends behind a name", Due.read(x, "win goals"), -109);
        due.is("10 blanks behind", Due.read(x, "win 1    \n"), -110);
        due.is("10 ends behind a sign", Due.read(x, "win 1+"), -106);
        due.is("10 a whole one", Due.read(x, "win 1;draw 1;like 0;ban 0;"), 1);
        due.is("10 one without its last part", Due.read(x, "win 1;draw 1;like 0;"), -120);
        due.is("10 nothing", x.text(), -100);
    }

    private static void fault(String text, int place) {
        due.is("10 '" + text + "'", Due.read(new LeagueOffice(), text), place < 0 ? 1 : -100 - place);
    }

    private static void textOrder() {
        fault("win 3;draw 1;like 0;ban 0;", -1);
        fault("win3;draw1;like0;ban0;", -1);
        fault("win\n3 ;draw 1\n;like 0;ban 0; \n ", -1);
        fault("draw 3;win 1;like 0;ban 0;", 0);
        fault("win 3;like 1;draw 0;ban 0;", 6);
        fault("win 3;draw 1;like 0;ban 0;;", 26);
        fault("win 3;draw 1;like 0;ban 0; win", 27);
        fault("win 3 draw 1;like 0;ban 0;", 6);
        fault("win ;draw 1;like 0;ban 0;", 4);
        fault("win 3;;draw 1;like 0;ban 0;", 6);
        fault("win 3;draw 1;like 0;ban 0 ", 26);
        fault("win 3;draw 1;like 0;ban", 23);
        fault("win 3;draw 1;like 0;", 20);
        fault("", 0);
        fault("   ", 3);
        fault("win win;draw 1;like 0;ban 0;", 4);
        fault("win 3 3;draw 1;like 0;ban 0;", 6);
        fault("win 3 goals;draw 1;like 0;ban 0;", 6);
        fault("win 1 <;draw 1;like 0;ban 0;", 7);
        fault("win 1 < 2 < 3;draw 1;like 0;ban 0;", 10);
        fault("win 1 = 2 = 3;draw 1;like 0;ban 0;", 10);
        fault("win 1 < 2 = 3;draw 1;like 0;ban 0;", 10);
        fault("win (1 < 2) = 3;draw 1;like 0;ban 0;", -1);
        fault("win + 1;draw 1;like 0;ban 0;", 4);
        fault("win 1 + not 1;draw 1;like 0;ban 0;", 8);
        fault("win 1 = not 1;draw 1;like 0;ban 0;", 8);
        fault("win - not 1;draw 1;like 0;ban 0;", 6);
        fault("win 1 and not 1 or not not 1;draw 1;like 0;ban 0;", -1);
        fault("win 1 or or 1;draw 1;like 0;ban 0;", 9);
        fault("win 1 and;draw 1;like 0;ban 0;", 9);
        fault("win not;draw 1;like 0;ban 0;", 7);
        fault("win -;draw 1;like 0;ban 0;", 5);
        fault("win (;draw 1;like 0;ban 0;", 5);
        fault("win (not);draw 1;like 0;ban 0;", 8);
        fault("win (-);draw 1;like 0;ban 0;", 6);
        fault("win not and 1;draw 1;like 0;ban 0;", 8);
        fault("win 1 or not or 1;draw 1;like 0;ban 0;", 13);
        fault("win 1+;draw 1;like 0;ban 0;", 6);
        fault("win 1*;draw 1;like 0;ban 0;", 6);
        fault("win 1=;draw 1;like 0;ban 0;", 6);
        fault("win *1;draw 1;like 0;ban 0;", 4);
        fault("win <1;draw 1;like 0;ban 0;", 4);
        fault("win and 1;draw 1;like 0;ban 0;", 4);
        fault("win 1 not 1;draw 1;like 0;ban 0;", 6);
        fault("win 1(2);draw 1;like 0;ban 0;", 5);
        fault("win 3,draw 1;like 0;ban 0;", 5);
        fault("win 3;draw 1;like 0", 19);
        fault("win 3;draw 1;like", 17);
        fault("win 3;draw 1", 12);
        fault("win 3;draw", 10);
        fault("win 3;", 6);
        fault("win 3", 5);
        fault("win", 3);
        fault("wi", 0);
        fault("win 3;draw 1;like 0;ban 0;\n", -1);
        fault("\n win 3;draw 1;like 0;ban 0;", -1);
        fault("win 3;draw 1;like 0;ban (0", 26);
        fault("win 3;draw 1;like 0;ban not", 27);
        fault("win 3;draw 1;like 0;ban -  ", 27);
        fault("win 3;draw 1;like 0;ban 0 <", 27);
        fault("win ();draw 1;like 0;ban 0;", 5);
        fault("win (1;draw 1;like 0;ban 0;", 6);
        fault("win 1);draw 1;like 0;ban 0;", 5);
        fault("win (1)(2);draw 1;like 0;ban 0;", 7);
        fault("win goals+made-won*cards+kind*late;draw 1;like 0;ban 0;", -1);
        fault("win 1 - - 1;draw 1 * - 1;like 0--0;ban 0;", -1);
    }

    private static void textTokens() {
        fault("win 9999;draw 0000;like 0;ban 0;", -1);
        fault("win 10000;draw 1;like 0;ban 0;", 4);
        fault("win 1+00000;draw 1;like 0;ban 0;", 6);
        fault("win 12345", 4);
        fault("win goalsmade;draw 1;like 0;ban 0;", 4);
        fault("win goal;draw 1;like 0;ban 0;", 4);
        fault("win goalss;draw 1;like 0;ban 0;", 4);
        fault("winn 1;draw 1;like 0;ban 0;", 0);
        fault("win Goals;draw 1;like 0;ban 0;", 4);
        fault("win goalS;draw 1;like 0;ban 0;", 4);
        fault("win goalsS;draw 1;like 0;ban 0;", 9);
        fault("win 1\t;draw 1;like 0;ban 0;", 5);
        fault("win 1\r;draw 1;like 0;ban 0;", 5);
        fault("win 1>2;draw 1;like 0;ban 0;", 5);
        fault("win 1/2;draw 1;like 0;ban 0;", 5);
        fault("win `;draw 1;like 0;ban 0;", 4);
        fault("win {;draw 1;like 0;ban 0;", 4);
        fault("win :;draw 1;like 0;ban 0;", 4);
        fault("win ,;draw 1;like 0;ban 0;", 4);
        fault("win 1 10000;draw", 6);
        fault("win 1;draw 1;like 0;ban 0;#", 26);
        fault("win 3 ?", 6);
        fault("win ) ?", 4);
        fault("win 1notgoals;draw", 5);
        fault("win 2goals;draw", 5);
        fault("\0win 3;draw 1;like 0;ban 0;", 0);
        fault("winz 3;draw 1;like 0;ban 0;", 0);
        fault("win goalsz;draw 1;like 0;ban 0;", 4);
        fault("win goalsa;draw 1;like 0;ban 0;", 4);
        fault("win 3;zdraw 1;like 0;ban 0;", 6);
        fault("bin 3;draw 1;like 0;ban 0;", 0);
        fault("win hoals;draw 1;like 0;ban 0;", 4);
        fault("win 1 xr 1;draw 1;like 0;ban 0;", 6);
        fault("wi n 3;draw 1;like 0;ban 0;", 0);
        fault("win 3;dr\naw 1;like 0;ban 0;", 6);
        fault("win 1 2;draw 1;like 0;ban 0;", 6);
        fault("win 99 99;draw 1;like 0;ban 0;", 7);
        fault("win 9999 9;draw 1;like 0;ban 0;", 9);
        fault("win 99999;draw 1;like 0;ban 0;", 4);
        fault("win goals 99999;draw 1;like 0;ban 0;", 10);
        fault("win go als;draw 1;like 0;ban 0;", 4);
        fault("win or;draw 1;like 0;ban 0;", 4);
        fault("or win 3;draw 1;like 0;ban 0;", 0);
        fault("goals 3;draw 1;like 0;ban 0;", 0);
        fault("win ban;draw 1;like 0;ban 0;", 4);
        fault("win 1;draw draw;like 0;ban 0;", 11);
        fault("win 1;draw 1;like 0;ban 0;\u00e9", 26);
        fault("win 1;draw 1;like 0;ban 0;  \n 7", 30);
    }

    private static void textNesting() {
        fault("win (((((1)))));draw 1;like 0;ban 0;", -1);
        fault("win ((((((1))))));draw 1;like 0;ban 0;", 9);
        fault("win -----1;draw 1;like 0;ban 0;", -1);
        fault("win ------1;draw 1;like 0;ban 0;", 9);
        fault("win not not not not not 1;draw 1;like 0;ban 0;", -1);
        fault("win not not not not not not 1;draw 1;like 0;ban 0;", 24);
        fault("win not (-(not 1));draw 1;like 0;ban 0;", -1);
        fault("win not (-(not -1));draw 1;like 0;ban 0;", 15);
        fault("win not (-(not not 1));draw 1;like 0;ban 0;", 15);
        fault("win not (-(not (1)));draw 1;like 0;ban 0;", 15);
        fault("win (((((1-1)))))-1;draw 1;like 0;ban 0;", -1);
        fault("win (((((1)))))+(((((1)))));draw 1;like 0;ban 0;", -1);
        fault("win -1+-1+-1+-1+-1+-1+-1;draw 1;like 0;ban 0;", -1);
        fault("win not 1 and not 1 and not 1 and not 1 and not 1 and not 1;draw 1;like 0;ban 0;", -1);
        fault("win ((((-1))));draw ((((-1))));like 0;ban 0;", -1);
        fault("win (((((-1)))));draw 1;like 0;ban 0;", 9);
        fault("win ((((-1*-1))));draw 1;like 0;ban 0;", -1);
    }

    /** What an E comes to, as like of a club that won 2 to 1 and 4 to 1. */
    private static void value(String e, long want) {
        LeagueOffice x = Due.clubs(2);
        Due.ruled(x, "win 0;draw 0;like " + e + ";ban 0;");
        x.game(0, 0, 1, 0);
        x.game(0, 1, 0, 0);
        x.result(0, 2, 1);
        x.result(1, 1, 4);
        due.is("10 " + e, x.like(0, 0), want);
    }

    private static void textValues() {
        value("goals", 4);
        value("made", 6);
        value("won", 2);
        value("cards+kind+late", 0);
        value("1+2*3", 7);
        value("(1+2)*3", 9);
        value("9-3-2", 4);
        value("9-3+2", 8);
        value("2*3*4", 24);
        value("-2*3", -6);
        value("--2", 2);
        value("2--3", 5);
        value("1<2", 1);
        value("2<2", 0);
        value("-1<0", 1);
        value("2=2", 1);
        value("1+1=2", 1);
        value("7 and 8", 1);
        value("7 and 0", 0);
        value("1 and 1", 1);
        value("0 and 1", 0);
        value("0 and 0", 0);
        value("-1 and 1", 1);
        value("1 and -1", 1);
        value("-1 and 0", 0);
        value("1 or 1", 1);
        value("0 or 1", 1);
        value("-1 or 0", 1);
        value("7 or 8", 1);
        value("not -1", 0);
        value("not 1", 0);
        value("1 < 0", 0);
        value("1 = 0", 0);
        value("0 = 0", 1);
        value("0 or -3", 1);
        value("0 or 0", 0);
        value("not 0", 1);
        value("not 5", 0);
        value("not not 5", 1);
        value("not 1 = 2", 1);
        value("not 1 < 2", 0);
        value("1 or 0 and 0", 1);
        value("(1 or 0) and 0", 0);
        value("0 and 0 or 1", 1);
        value("not 0 and 0", 0);
        value("not 1 or 1", 1);
        value("(not 5)+3", 3);
        value("(1<2)+(2=2)*5", 6);
        value("0007", 7);
        value("9999*9999", 99980001);
        value("9999*9999*9999", (int) (9999L * 9999 * 9999));
        value("2048*1024*1024", Integer.MIN_VALUE);
        value("2048*1024*1024-1", Integer.MAX_VALUE);
        value("-(2048*1024*1024)", Integer.MIN_VALUE);
        value("2048*1024*1024<0", 1);
        valuesThatWrap();
    }

    private static void valuesThatWrap() {
        String lowest = "(2048*1024*1024)", highest = "(2048*1024*1024-1)";
        value(highest + "+1", Integer.MIN_VALUE);
        value(lowest + "-1", Integer.MAX_VALUE);
        value("0-" + lowest, Integer.MIN_VALUE);
        value("-" + lowest + "-1", Integer.MAX_VALUE);
        value(lowest + "*-1", Integer.MIN_VALUE);
        value(highest + "*2", -2);
        value("9999*9999*9999*9999", (int) (9999L * 9999 * 9999 * 9999));
        value(lowest + "<" + highest, 1);
        value(highest + "<" + lowest, 0);
        value(lowest + "<0", 1);
        value("0<" + lowest, 0);
        value(lowest + "=-" + lowest, 1);
        value("4096*1024*1024=0", 1);
        value("4096*1024*1024 or 0", 0);
        value("not 4096*1024*1024", 1);
        value(lowest + " and 1", 1);
        value("not " + lowest, 0);
        value("256*256 and 256", 1);
        value("0 or 256", 1);
    }

    /** A text of 160 bytes whose like comes to so many ones and a last number. */
    private static String longText(int last) {
        StringBuilder s = new StringBuilder("win 3;draw 1;like ");
        while (s.length() < 152) s.append("1+");
        while (s.length() < 153) s.append(last);
        return s.append(";ban 0;").toString();
    }

    private static void textsAreLong() {
        LeagueOffice x = new LeagueOffice();
        x.club(0, 0);
        x.pass(9);
        for (int i = 1; i <= 5; i++) {
            due.is("10 a text of 160 bytes", longText(i).length(), 160);
            due.is("10 long text " + i, Due.read(x, longText(i)), i);
            x.rule(i, i);
        }
        int ones = longText(0).split("1\\+").length - 1;
        due.is("10 text 0", x.like(0, 0), 0);
        for (int i = 1; i <= 5; i++) due.is("10 like of long text " + i, x.like(0, i), ones + i);
        due.is("10 like of the last one", x.like(0, 9), ones + 5);
    }

    private static void faultsLeaveNothing() {
        LeagueOffice x = new LeagueOffice();
        x.club(0, 0);
        for (int i = 0; i < 20; i++) due.is("10 a long text with a fault", Due.read(x, longText(1).replace("ban 0;", "ban ;;")), -258);
        due.is("10 count(4)", x.count(4), 1);
        due.is("10 text 0 goes on", x.like(0, 0), 0);
        due.is("10 a text behind them", Due.read(x, "win 3;draw 1;like 7;ban 0;"), 1);
        x.rule(1, 0);
        due.is("10 is what was told", x.like(0, 0), 7);
    }

    private static void rule() {
        LeagueOffice x = new LeagueOffice();
        due.is("11 rule(1, 0)", x.rule(1, 0), -2);
        due.is("11 rule(-1, 0)", x.rule(-1, 0), -2);
        due.is("11 rule(0, -1)", x.rule(0, -1), -2);
        due.is("11 rule(0, 400)", x.rule(0, 400), -2);
        due.is("11 count(6)", x.count(6), 0);
        for (int i = 1; i <= 20; i++) due.is("11 rule " + i, x.rule(0, 399), i);
        due.is("11 a 21st", x.rule(0, 0), -4);
        due.is("11 a bad 21st", x.rule(1, 0), -2);
        due.is("11 count(6)", x.count(6), 20);
    }

    private static void ruleOf() {
        LeagueOffice x = new LeagueOffice();
        for (int i = 1; i <= 4; i++) Due.read(x, "win " + i + ";draw 1;like 0;ban 0;");
        due.is("12 without any", x.ruleOf(399), 0);
        x.rule(1, 10);
        x.rule(2, 5);
        x.rule(3, 10);
        x.rule(4, 20);
        x.rule(0, 30);
        int[][] want = {{0, 0}, {4, 0}, {5, 2}, {9, 2}, {10, 3}, {19, 3}, {20, 4}, {29, 4}, {30, 0}, {399, 0}};
        for (int[] w : want) due.is("12 ruleOf(" + w[0] + ")", x.ruleOf(w[0]), w[1]);
        x.rule(2, 4);
        int[][] then = {{3, 0}, {4, 2}, {5, 2}, {10, 3}, {399, 0}};
        for (int[] w : then) due.is("12 one told last from an earlier day on, " + w[0], x.ruleOf(w[0]), w[1]);
        due.is("12 ruleOf(-1)", x.ruleOf(-1), -2);
        due.is("12 ruleOf(400)", x.ruleOf(400), -2);
    }

    private static void take() {
        LeagueOffice x = Due.clubs(2);
        due.is("13 club 2", x.take(2, 1, 0), -2);
        due.is("13 club -1", x.take(-1, 1, 0), -2);
        due.is("13 no points", x.take(0, 0, 0), -2);
        due.is("13 100 points", x.take(0, 100, 0), -2);
        due.is("13 day -1", x.take(0, 1, -1), -2);
        due.is("13 day 400", x.take(0, 1, 400), -2);
        due.is("13 count(7)", x.count(7), 0);
        due.is("13 take(0, 99, 2)", x.take(0, 99, 2), 1);
        due.is("13 take(0, 1, 1)", x.take(0, 1, 1), 2);
        due.is("13 points(0, 0)", x.points(0, 0), 0);
        x.pass(3);
        due.is("13 points(0, 0)", x.points(0, 0), 0);
        due.is("13 points(0, 1)", x.points(0, 1), -1);
        due.is("13 points(0, 2)", x.points(0, 2), -100);
        due.is("13 points(1, 2)", x.points(1, 2), 0);
        x.take(0, 5, 1);
        due.is("13 a taking from a day gone by", x.points(0, 1), -6);
        for (int i = 4; i <= 30; i++) due.is("13 take " + i, x.take(1, 1, 399), i);
        due.is("13 a 31st", x.take(1, 1, 0), -4);
        due.is("13 a bad 31st", x.take(1, 100, 0), -2);
    }

    private static void points() {
        LeagueOffice x = Due.clubs(3);
        x.game(0, 0, 1, 1);
        x.game(0, 1, 2, 2);
        x.game(1, 0, 1, 0);
        x.game(3, 0, 2, 4);
        x.game(5, 0, 1, 0);
        x.result(2, 9, 0);
        x.result(4, 9, 0);
        due.is("14 a cup one and a void one", x.points(0, 0), 0);
        x.pass(1);
        x.result(0, 2, 1);
        due.is("14 a win", x.points(0, 1), 3);
        due.is("14 a loss", x.points(1, 1), 0);
        x.pass(2);
        x.result(1, 1, 1);
        x.result(0, 0, 1);
        due.is("14 as known then", x.points(0, 1), 3);
        due.is("14 not known yet", x.points(1, 2), 0);
        due.is("14 put right", x.points(0, 3), 0);
        due.is("14 a win and a draw", x.points(1, 3), 4);
        due.is("14 a draw", x.points(2, 3), 1);
        due.is("14 a day to come", x.points(0, 4), LeagueOffice.NO);
        x.pass(1);
        due.is("14 a given one in its day", x.points(0, 4), 3);
        due.is("14 a given one ahead of its day", x.points(0, 3), 0);
        due.is("14 day -1", x.points(0, -1), LeagueOffice.NO);
        due.is("14 club 3", x.points(3, 0), LeagueOffice.NO);
        due.is("14 club -1", x.points(-1, 0), LeagueOffice.NO);
    }

    private static void pointsByTexts() {
        LeagueOffice x = Due.clubs(2);
        Due.ruled(x, "win goals*1000+made*10+kind+late*5;draw made*10+kind+late*5+goals;like 0;ban 0;");
        int[] kinds = {0, 2, 3, 4};
        long[] wins = {2050, 2057, 2053, 2059}, draws = {40, 47, 43, 49};
        for (int i = 0; i < 4; i++) {
            LeagueOffice y = Due.clubs(2);
            Due.ruled(y, "win goals*1000+made*10+kind+late*5;draw made*10+kind+late*5+goals;like 0;ban 0;");
            y.game(kinds[i], 0, 1, 0);
            y.result(0, 3, 5);
            due.is("14 win of kind " + kinds[i], y.points(1, 0), wins[i]);
            due.is("14 loss of kind " + kinds[i], y.points(0, 0), 0);
            y.result(0, 4, 4);
            due.is("14 draw of kind " + kinds[i], y.points(0, 0), draws[i]);
            due.is("14 draw of kind " + kinds[i], y.points(1, 0), draws[i]);
        }
        Due.read(x, "win won+cards+100;draw won+cards+10;like 0;ban 0;");
        x.rule(2, 1);
        x.game(0, 0, 1, 0);
        x.game(0, 0, 1, 1);
        x.game(0, 1, 0, 1);
        x.pass(1);
        x.result(0, 1, 0);
        x.result(1, 1, 0);
        x.result(2, 0, 0);
        due.is("14 by the rules of the games' days", x.points(0, 1), 1010 + 100 + 10);
        due.is("14 ahead of the other rule", x.points(0, 0), 0);
    }

    private static void pointsAreLong() {
        LeagueOffice x = Due.clubs(2);
        Due.ruled(x, "win 2048*1024*1024-1;draw 2048*1024*1024;like 0;ban 0;");
        for (int i = 0; i < 3; i++) {
            x.game(0, 0, 1, 0);
            x.result(i, 1, 0);
        }
        due.is("14 more than an int", x.points(0, 0), 3L * Integer.MAX_VALUE);
        x.take(0, 1, 0);
        due.is("14 less what was taken", x.points(0, 0), 3L * Integer.MAX_VALUE - 1);
        for (int i = 0; i < 3; i++) x.result(i, 1, 1);
        due.is("14 less than an int", x.points(1, 0), 3L * Integer.MIN_VALUE);
        due.is("14 place by longs", x.place(0, 0), 1);
    }

    private static void like() {
        LeagueOffice x = Due.clubs(3);
        x.game(0, 0, 1, 0);
        x.game(2, 1, 0, 0);
        x.game(1, 0, 1, 0);
        x.game(5, 0, 1, 0);
        for (int i = 0; i < 4; i++) x.result(i, 3, 1);
        due.is("15 like(0, 0)", x.like(0, 0), 4);
        x.game(0, 0, 2, 1);
        x.pass(2);
        x.result(4, 5, 5);
        x.result(0, 0, 2);
        due.is("15 as known then", x.like(0, 1), 4);
        due.is("15 put right", x.like(0, 2), -400 + 6);
        due.is("15 of a club without games", x.like(2, 0), 0);
        due.is("15 goals alone", x.like(2, 2), 5);
        Due.read(x, "win 3;draw 1;like won*1000+made;ban 0;");
        x.rule(1, 1);
        due.is("15 by the rule of the day", x.like(0, 0), 4);
        due.is("15 by the rule of the next day", x.like(0, 1), 1004);
        due.is("15 won", x.like(1, 2), 2005);
        due.is("15 a draw is not won", x.like(2, 2), 5);
        due.is("15 day to come", x.like(0, 3), LeagueOffice.NO);
        due.is("15 day -1", x.like(0, -1), LeagueOffice.NO);
        due.is("15 club 3", x.like(3, 0), LeagueOffice.NO);
        due.is("15 club -1", x.like(-1, 0), LeagueOffice.NO);
        Due.read(x, "win 3;draw 1;like kind+late+cards-1;ban 0;");
        x.rule(2, 2);
        due.is("15 all others are 0", x.like(0, 2), -1);
    }

    private static void table() {
        LeagueOffice x = Due.clubs(5);
        x.step(4, 2);
        x.game(0, 3, 0, 0);
        x.game(0, 2, 1, 0);
        x.result(0, 4, 0);
        x.result(1, 2, 0);
        int[] want = {3, 2, 1, 0};
        for (int p = 0; p < 4; p++) due.is("16 place " + p, x.table(0, 0, p), want[p]);
        due.is("16 place 4", x.table(0, 0, 4), -1);
        due.is("16 place -1", x.table(0, 0, -1), -1);
        due.is("16 step 2", x.table(2, 0, 0), 4);
        due.is("16 step 1", x.table(1, 0, 0), -1);
        due.is("16 step 4", x.table(4, 0, 0), -2);
        due.is("16 step -1", x.table(-1, 0, 0), -2);
        due.is("16 day to come", x.table(0, 1, 0), -2);
        due.is("16 day -1", x.table(0, -1, 0), -2);
        x.result(0, 2, 0);
        int[] like = {2, 3, 0, 1};
        for (int p = 0; p < 4; p++) due.is("16 like ones by numbers, place " + p, x.table(0, 0, p), like[p]);
        x.pass(1);
        x.take(2, 1, 1);
        due.is("16 with points taken", x.table(0, 1, 0), 3);
        due.is("16 ahead of that", x.table(0, 0, 0), 2);
        x.step(4, 0);
        due.is("16 a club more", x.table(0, 1, 2), 4);
    }

    /** What one of the four is asked of stands in none of the others, in whatever order they are asked. */
    private static void othersAreZero() {
        LeagueOffice x = Due.clubs(2);
        Due.ruled(x, "win won+cards+5;draw won+cards+3;like cards+kind+late+won*8;ban goals+made+won+late+2;");
        x.player();
        x.game(4, 0, 1, 0);
        x.game(2, 0, 1, 0);
        x.game(2, 1, 0, 0);
        for (int i = 0; i < 3; i++) x.card(0, 1, 2);
        x.result(0, 3, 1);
        x.result(1, 4, 1);
        x.result(2, 2, 2);
        for (int i = 0; i < 2; i++) {
            due.is("22 ban", x.bans(2), 2);
            due.is("15 like of one that won", x.like(0, 0), 16);
            due.is("14 points of one that won", x.points(0, 0), 13);
            due.is("22 ban", x.bans(0), 2);
            due.is("14 points of one that lost", x.points(1, 0), 3);
            due.is("15 like of one that lost", x.like(1, 0), 0);
            due.is("17 place", x.place(1, 0), 1);
        }
    }

    /** Likes and points that are further from each other than an int can tell. */
    private static void tableByTheOutermost() {
        LeagueOffice x = Due.clubs(3);
        Due.ruled(x, "win 0;draw 0;like 2048*1024*1024-(0<goals);ban 0;");
        x.game(0, 2, 1, 0);
        x.result(0, 1, 0);
        int[] likes = {2, 0, 1};
        for (int p = 0; p < 3; p++) due.is("16 by likes, place " + p, x.table(0, 0, p), likes[p]);
        due.is("15 the highest like", x.like(2, 0), Integer.MAX_VALUE);
        due.is("15 the lowest like", x.like(1, 0), Integer.MIN_VALUE);
        Due.read(x, "win 2048*1024*1024-1+1;draw 0-1;like 0;ban 0;");
        x.rule(2, 0);
        x.game(0, 0, 1, 0);
        x.result(1, 2, 0);
        int[] points = {1, 0, 2};
        for (int p = 0; p < 3; p++) due.is("16 by points, place " + p, x.table(0, 0, p), points[p]);
        x.game(0, 0, 2, 0);
        x.result(2, 2, 0);
        int[] fewest = {1, 2, 0};
        for (int p = 0; p < 3; p++) due.is("16 by points below all ints, place " + p, x.table(0, 0, p), fewest[p]);
        due.is("14 points below all ints", x.points(0, 0), 2L * Integer.MIN_VALUE);
    }

    private static void place() {
        LeagueOffice x = Due.clubs(4);
        x.step(3, 1);
        x.game(0, 1, 0, 0);
        x.game(0, 3, 2, 0);
        x.result(0, 1, 0);
        x.result(1, 0, 5);
        due.is("17 place(0, 0)", x.place(0, 0), 2);
        due.is("17 place(1, 0)", x.place(1, 0), 1);
        due.is("17 place(2, 0)", x.place(2, 0), 0);
        due.is("17 place(3, 0)", x.place(3, 0), 0);
        due.is("17 day to come", x.place(0, 1), -2);
        due.is("17 day -1", x.place(0, -1), -2);
        due.is("17 club 4", x.place(4, 0), -2);
        due.is("17 club -1", x.place(-1, 0), -2);
    }
}
