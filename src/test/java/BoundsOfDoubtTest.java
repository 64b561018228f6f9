/** Promises 24 to 27 at their bounds: how much to let, what is not sure, two laws. What the document says stands ahead of each test. */
public final class BoundsOfDoubtTest extends Kinds {
    private static final Due due = new Due();
    private static final int[] NO_DEALS = {-1, 3, 60, MIN, MAX};
    private static final int[] NO_DAYS = {-1, 1000, MIN, MAX};

    public static void main(String[] args) {
        wiseRefused();
        wiseAtLeast();
        wiseTo2000();
        wiseBeyond2000();
        wiseOfAMillion();
        wiseByTheLaw();
        wiseWithoutHidden();
        wiseBesideSecond();
        sureRefused();
        hangsRefused();
        nothingDoubted();
        eachKindOfDoubt();
        fiveDoubted();
        notThereAtAll();
        doubtOfLaterDay();
        doubtedNoMore();
        sureOfFractions();
        soElsewhere();
        payIsSoElsewhere();
        hangsAlone();
        doubtInPursesInPurses();
        bitsInOrderOfNotes();
        wayWithoutAnother();
        partedRefused();
        partedOfNone();
        partedOfNoLaterDay();
        partedFirst();
        partedAtMostOwed();
        partedWithHidden();
        partedOfClosed();
        due.end();
    }

    private static void ask(SonsPurse x, int deal, int ask, int day, long above, long below) {
        String call = "ask(" + deal + ", " + ask + ", " + day + ")";
        due.is(call, x.ask(deal, ask, day), 1);
        due.fraction(call, x, above, below);
    }

    private static void sure(SonsPurse x, int ask, int day, long least, long most, int bits) {
        due.is("sure", x.sure(0, ask, 0, day), 1);
        due.fraction("the least of " + ask + " on " + day, x, least, 1);
        due.is("sure", x.sure(0, ask, 1, day), 1);
        due.fraction("the greatest of " + ask + " on " + day, x, most, 1);
        due.is("hangs of " + ask + " on " + day, x.hangs(0, ask, day), bits);
        due.fraction("it changes nothing", x, most, 1);
    }

    /** wise: "(v 1 .. 1000000) .. BAD: -10." */
    private static void wiseRefused() {
        SonsPurse x = house(due);
        for (int p : new int[] {-1, 3, 10, MIN, MAX}) due.refuses("wise", x, -10, () -> x.wise(p, 1, 5));
        for (int v : new int[] {0, -1, 1000001, MIN, MAX}) due.refuses("wise", x, -10, () -> x.wise(1, v, 5));
        for (int day : NO_DAYS) due.refuses("wise", x, -10, () -> x.wise(1, 1, day));
        due.is("wise of 1", x.wise(1, 1, 5), 0);
        due.is("wise of 1000000", x.wise(1, 1000000, 5), NONE);
    }

    /** "how much more must be IN .. at least, so that NET .. is v or more" */
    private static void wiseAtLeast() {
        SonsPurse x = Due.persons(2);
        due.comes(x, new int[][] {{0, HAND, 1, 0, 0}, {0, GIVE, 1, 3, 50}, {0, OWE, 1, 0, 20}, {1, OWE, 1, 0, 40}});
        int[][] due1 = {{1, 0}, {29, 0}, {30, 0}, {31, 1}, {32, 2}, {100, 70}};
        for (int[] d : due1) due.is("wise(1, " + d[0] + ", 0)", x.wise(1, d[0], 0), d[1]);
        due.is("10 are owed beyond what is there", x.wise(1, 1, 1), 11);
        due.is("nothing is changed by it", x.in(1, 4, 1), 50);
    }

    /** "(0 .. 2000)": 2000 may do. */
    private static void wiseTo2000() {
        SonsPurse x = Due.persons(1);
        due.is("wise of 1999", x.wise(0, 1999, 0), 1999);
        due.is("wise of 2000", x.wise(0, 2000, 0), 2000);
        due.comes(x, new int[] {0, GIVE, 0, 0, 1000});
        due.is("wise of 3000", x.wise(0, 3000, 0), 2000);
    }

    /** "NONE: 2000 do not do." */
    private static void wiseBeyond2000() {
        SonsPurse x = Due.persons(1);
        due.is("wise of 2001", x.wise(0, 2001, 0), NONE);
        due.is("wise of 1000000", x.wise(0, 1000000, 0), NONE);
        due.comes(x, new int[] {0, GIVE, 0, 0, 1});
        due.is("wise of 2001", x.wise(0, 2001, 0), 2000);
        due.is("wise of 2002", x.wise(0, 2002, 0), NONE);
        Due.write(x, 0, "0");
        due.is("a law that tells nothing", x.wise(0, 1, 0), NONE);
    }

    /** NET is 1000000 at most, so v may be that. */
    private static void wiseOfAMillion() {
        SonsPurse x = Due.persons(1);
        Due.write(x, 0, "g*500");
        due.is("wise of 1000000", x.wise(0, 1000000, 0), 2000);
        due.is("wise of 999999", x.wise(0, 999999, 0), 2000);
        due.is("wise of 999500", x.wise(0, 999500, 0), 1999);
        Due.write(x, 0, "g*999999");
        due.is("wise of 1000000", x.wise(0, 1000000, 0), 2);
        Due.write(x, 0, "g*499");
        due.is("wise of 1000000", x.wise(0, 1000000, 0), NONE);
        Due.write(x, 0, "999999+2");
        due.is("wise of 1000000", x.wise(0, 1000000, 0), 0);
    }

    /** NET is by THE LAW. */
    private static void wiseByTheLaw() {
        SonsPurse x = Due.persons(1);
        Due.write(x, 1, "g*5");
        due.is("law 1 is not looked at", x.wise(0, 100, 0), 100);
        Due.write(x, 0, "g/7");
        due.is("cut", x.wise(0, 100, 0), 700);
        due.is("one less", x.wise(0, 99, 0), 693);
        Due.write(x, 0, "(g>9)*500");
        due.is("a step", x.wise(0, 500, 0), 10);
        due.is("beyond it", x.wise(0, 501, 0), NONE);
        Due.write(x, 0, "(g=9)*500");
        due.is("one number alone", x.wise(0, 500, 0), 9);
        Due.write(x, 0, "(g=2000)*500");
        due.is("the last of all", x.wise(0, 500, 0), 2000);
    }

    /** "(h 0)" */
    private static void wiseWithoutHidden() {
        SonsPurse x = Due.persons(2);
        due.comes(x, new int[][] {{0, HAND, 1, 0, 0}, {0, DEAL, 1, 0, 9}, {0, GIVE, 1, 0, 50}, {0, HIDE, 1, 0, 30}});
        due.is("wise", x.wise(1, 50, 0), 30);
    }

    /** More in the purse is more in g, and not in s; what is in his sons' purses counts by s. */
    private static void wiseBesideSecond() {
        SonsPurse x = Due.persons(3);
        due.comes(x, new int[][] {{0, HAND, 1, 0, 0}, {0, GIVE, 1, 0, 30}, {0, GIVE, 0, 0, 4}});
        due.is("wise", x.wise(0, 40, 0), 6);
        Due.write(x, 0, "s");
        due.is("s does not grow", x.wise(0, 31, 0), NONE);
        Due.write(x, 0, "g+s*2");
        due.is("30 twice", x.wise(0, 70, 0), 6);
    }

    /** sure: "the least (0), the greatest (1) is THE FRACTION: 1. BAD; NO." */
    private static void sureRefused() {
        SonsPurse x = house(due);
        due.is("ask", x.ask(2, PURSE, 5), 1);
        for (int w = 0; w < 2; w++) {
            int what = w;
            for (int d : NO_DEALS) due.refuses("sure", x, BAD, () -> x.sure(d, 0, what, 5), () -> x.sure(d, 3, what, 4));
            for (int ask : new int[] {-1, 4, MIN, MAX}) due.refuses("sure", x, BAD, () -> x.sure(0, ask, what, 5), () -> x.sure(0, ask, what, 4));
            for (int day : NO_DAYS) due.refuses("sure", x, BAD, () -> x.sure(0, 0, what, day));
            for (int k = 0; k < 4; k++) {
                int ask = k;
                due.refuses("sure", x, NO, () -> x.sure(0, ask, what, 4), () -> x.sure(2, ask, what, 0));
            }
        }
        for (int what : new int[] {-1, 2, MIN, MAX}) due.refuses("sure", x, BAD, () -> x.sure(0, 0, what, 5), () -> x.sure(0, 0, what, 4));
        due.fraction("as it was", x, 10, 1);
        due.is("on its day", x.sure(0, 3, 1, 5), 1);
    }

    /** hangs: "HANGS, as bits. BAD; NO." */
    private static void hangsRefused() {
        SonsPurse x = house(due);
        due.is("ask", x.ask(2, PURSE, 5), 1);
        for (int d : NO_DEALS) due.refuses("hangs", x, BAD, () -> x.hangs(d, 0, 5), () -> x.hangs(d, 3, 4));
        for (int ask : new int[] {-1, 4, MIN, MAX}) due.refuses("hangs", x, BAD, () -> x.hangs(0, ask, 5), () -> x.hangs(0, ask, 4));
        for (int day : NO_DAYS) due.refuses("hangs", x, BAD, () -> x.hangs(0, 0, day));
        for (int k = 0; k < 4; k++) {
            int ask = k;
            due.refuses("hangs", x, NO, () -> x.hangs(0, ask, 4), () -> x.hangs(2, ask, 0));
        }
        due.is("on its day", x.hangs(0, 3, 5), 0);
        due.fraction("as it was", x, 10, 1);
    }

    /** Where nothing is DOUBTED there is one way: the least and the greatest are the ASK, which hangs on nothing. */
    private static void nothingDoubted() {
        SonsPurse x = house(due);
        sure(x, WHOLE, 5, 1000, 1000, 0);
        sure(x, TURNED, 5, 1000, 1000, 0);
        sure(x, PURSE, 5, 1000, 1000, 0);
        sure(x, SHARE, 5, 0, 0, 0);
    }

    /** Each KIND that may be DOUBTED, and an ASK that is another one without it. */
    private static void eachKindOfDoubt() {
        SonsPurse x = Due.persons(3);
        due.comes(x, new int[][] {{0, HAND, 1, 0, 0}, {0, HAND, 2, 0, 0}, {0, GIVE, 1, 0, 90}, {0, TAKE, 1, 0, 8}, {0, HIDE, 1, 0, 7}, {0, KNOW, 1, 0, 0},
            {0, POST, 1, 0, 0}, {0, UNPOST, 1, 0, 0}, {0, OWE, 1, 0, 25}, {0, OWE, 1, 2, 15}, {0, SETTLE, 1, 2, 6}, {0, SETTLE, 1, 0, 5}, {0, DEAL, 1, 0, 60},
            {0, DEAL, 1, 0, 20}, {0, USE, 0, 0, 50}, {0, LOSE, 0, 0, 9}, {0, PAY, 0, 0, 10}, {0, HIDE, 1, 0, 3}});
        // in the purse 72, 3 hidden behind the deal, 20 and 9 are owed: 46 of 50; shared 72 by 50 of 90: 40
        int[][] due1 = {{2, PURSE, 0, 46}, {3, PURSE, 46, 50}, {4, PURSE, 46, 50}, {5, SHARE, 0, 40}, {7, WHOLE, 0, 50}, {8, PURSE, 46, 50},
            {9, PURSE, 46, 50}, {10, PURSE, 40, 46}, {11, PURSE, 41, 46}, {14, TURNED, 0, 41}, {15, TURNED, 41, 50}, {16, WHOLE, 0, 0}, {17, PURSE, 46, 46}};
        for (int[] d : due1) {
            due.is("doubt(" + d[0] + ")", x.doubt(d[0], true), 1);
            sure(x, d[1], 0, d[2], d[3], d[2] == d[3] ? 0 : 1);
            due.is("no doubt", x.doubt(d[0], false), 1);
        }
        x.doubt(6, true);
        sure(x, WHOLE, 0, 0, 0, 0);
        x.doubt(7, true);
        sure(x, WHOLE, 0, 0, 50, 3);
        x.doubt(16, true);
        sure(x, WHOLE, 0, 0, 60, 7);
        sure(x, PURSE, 0, 46, 46, 0);
        due.comes(x, new int[] {1, ORDER, 0, 0, 0});
        x.doubt(18, true);
        sure(x, WHOLE, 1, 0, 60, 15);
    }

    /** 7 that are so, and gifts of 1, 2, 4, 8, 16, of which some may be DOUBTED. */
    private static SonsPurse gifts(int doubted) {
        SonsPurse x = Due.persons(2);
        due.comes(x, new int[][] {{0, HAND, 1, 0, 0}, {0, DEAL, 1, 0, 100}, {0, GIVE, 1, 0, 7}});
        for (int k = 0; k < 5; k++) due.comes(x, new int[] {0, GIVE, 1, k % 4, 1 << k});
        for (int k = 0; k < doubted; k++) due.is("doubt", x.doubt(3 + k, true), 1);
        return x;
    }

    /** "5 of them at most": 32 ways, in each of which another sum of the five is there. */
    private static void fiveDoubted() {
        for (int k = 0; k <= 5; k++) sure(gifts(k), PURSE, 0, 38 - (1 << k) + 1, 38, (1 << k) - 1);
        for (int way = 0; way < 32; way++) {
            SonsPurse x = gifts(5);
            int there = 7 + way;
            // what is there in one of the ways alone is told by the law
            Due.write(x, 0, "(g=" + there + ")*9");
            sure(x, PURSE, 0, 0, 9, 31);
            Due.write(x, 0, "(g<" + there + "|g>" + there + ")*9");
            sure(x, PURSE, 0, 0, 9, 31);
        }
    }

    /** "those not so are as if they were not there": what was hidden is in the purse then, and is not hidden. */
    private static void notThereAtAll() {
        SonsPurse x = Due.persons(2);
        due.comes(x, new int[][] {{0, HAND, 1, 0, 0}, {0, GIVE, 1, 0, 50}, {0, DEAL, 1, 0, 100}, {0, HIDE, 1, 0, 20}});
        x.doubt(3, true);
        sure(x, PURSE, 0, 50, 50, 0);
        Due.write(x, 0, "g");
        sure(x, PURSE, 0, 30, 50, 1);
        Due.write(x, 0, "h");
        sure(x, PURSE, 0, 0, 20, 1);
    }

    /** A DOUBTED NOTE of a later DAY is in none of the ways; its bit is 0, and those of others keep their places. */
    private static void doubtOfLaterDay() {
        SonsPurse x = Due.persons(2);
        due.comes(x, new int[][] {{0, HAND, 1, 0, 0}, {0, DEAL, 1, 0, 100}, {1, GIVE, 1, 0, 10}, {2, GIVE, 1, 0, 20}, {3, GIVE, 1, 0, 30}});
        for (int n = 2; n < 5; n++) x.doubt(n, true);
        sure(x, PURSE, 0, 0, 0, 0);
        sure(x, PURSE, 1, 0, 10, 1);
        sure(x, PURSE, 2, 0, 30, 3);
        sure(x, PURSE, 3, 0, 60, 7);
        x.doubt(2, false);
        sure(x, PURSE, 1, 10, 10, 0);
        sure(x, PURSE, 2, 10, 30, 1);
        sure(x, PURSE, 3, 10, 60, 3);
    }

    /** Who is DOUBTED no more is so. */
    private static void doubtedNoMore() {
        SonsPurse x = Due.persons(2);
        due.comes(x, new int[][] {{0, HAND, 1, 0, 0}, {0, DEAL, 1, 0, 100}, {0, GIVE, 1, 0, 10}});
        sure(x, PURSE, 0, 10, 10, 0);
        x.doubt(2, true);
        sure(x, PURSE, 0, 0, 10, 1);
        x.doubt(2, false);
        sure(x, PURSE, 0, 10, 10, 0);
    }

    /** The least and the greatest of fractions, in lowest terms: 20 by 3, 13 by 2, 7 and 20 by 3 of others. */
    private static void sureOfFractions() {
        SonsPurse x = Due.persons(2);
        due.comes(x, new int[][] {{0, HAND, 1, 0, 0}, {0, KNOW, 1, 0, 0}, {0, GIVE, 1, 0, 20}, {0, DEAL, 1, 0, 10}, {0, DEAL, 1, 0, 20}, {0, OWE, 1, 0, 10}});
        due.is("sure", x.sure(0, SHARE, 0, 0), 1);
        due.fraction("sure", x, 5, 1);
        x.doubt(5, true);
        due.is("sure", x.sure(0, SHARE, 1, 0), 1);
        due.fraction("the greatest", x, 20, 3);
        due.is("sure", x.sure(0, SHARE, 0, 0), 1);
        due.fraction("the least", x, 5, 1);
        due.comes(x, new int[][] {{1, GIVE, 1, 0, 1}, {1, OWE, 1, 0, 3}});
        x.doubt(6, true);
        x.doubt(7, true);
        due.is("sure", x.sure(0, SHARE, 0, 1), 1);
        due.fraction("20 * 10 / 43", x, 200, 43);
        due.is("sure", x.sure(0, SHARE, 1, 1), 1);
        due.fraction("21 * 10 / 30", x, 7, 1);
        due.is("hangs", x.hangs(0, SHARE, 1), 7);
    }

    /** SURE and HANGS alone look at ways: elsewhere a DOUBTED NOTE is so. */
    private static void soElsewhere() {
        SonsPurse x = Due.persons(2);
        due.comes(x, new int[][] {{0, HAND, 1, 0, 0}, {0, DEAL, 1, 0, 100}, {0, GIVE, 1, 0, 10}, {0, OWE, 1, 0, 3}, {0, ORDER, 0, 0, 0}});
        for (int n = 2; n < 5; n++) x.doubt(n, true);
        x.line(0);
        due.is("in", x.in(1, 0, 0), 10);
        due.is("own", x.own(1, 1, 0), 3);
        due.is("SECOND", x.own(0, 0, 0), 7);
        due.is("net", x.net(1, 0, 0), 7);
        due.is("best", x.best(0, 0), WHOLE);
        due.is("served", x.served(0, 0), 7);
        due.is("wise", x.wise(1, 8, 0), 1);
        due.refusesNotes(x, NO, new int[] {0, ORDER, 0, 0, 0});
        due.comes(x, new int[][] {{0, TAKE, 1, 0, 10}, {0, SETTLE, 1, 0, 3}});
        ask(x, 0, PURSE, 0, 0, 1);
    }

    /** Each of the calls that tell of a DEAL, where what is DOUBTED is of it: the first and the last of them are so. */
    private static void payIsSoElsewhere() {
        SonsPurse x = Due.persons(2);
        due.comes(x, new int[][] {{0, HAND, 1, 0, 0}, {0, KNOW, 1, 0, 0}, {0, GIVE, 1, 0, 40}, {0, DEAL, 1, 0, 100}, {0, PAY, 0, 0, 30}, {0, USE, 0, 0, 50},
            {0, OWE, 1, 0, 10}});
        for (int n = 2; n < 7; n++) if (n != 3) x.doubt(n, true);
        x.line(0);
        due.is("owed", x.owed(0, 0), 70);
        due.is("answers", x.answers(0, 0), 0);
        due.is("holder", x.holder(1, 0), 0);
        ask(x, 0, WHOLE, 0, 0, 1);
        ask(x, 0, TURNED, 0, 50, 1);
        ask(x, 0, PURSE, 0, 30, 1);
        ask(x, 0, SHARE, 0, 35, 1);
        due.is("best", x.best(0, 0), TURNED);
        due.is("orders", x.orders(0, 0, 0), 30);
        due.is("rests", x.rests(0, 0), 1);
        due.is("wise", x.wise(1, 31, 0), 1);
        Due.write(x, 1, "30");
        due.is("parted", x.parted(0), NONE);
        Due.write(x, 1, "29");
        due.is("parted", x.parted(0), 0);
        due.is("own", x.own(0, 0, 0), 30);
        SonsPurse y = Due.persons(2);
        due.comes(y, new int[][] {{0, HAND, 1, 0, 0}, {0, DEAL, 1, 0, 100}, {0, PAY, 0, 0, 30}, {0, ORDER, 0, 0, 0}});
        y.doubt(2, true);
        due.is("owed", y.owed(0, 0), 70);
        ask(y, 0, WHOLE, 0, 70, 1);
        y.doubt(3, true);
        due.is("owed", y.owed(0, 0), 70);
        due.is("best", y.best(0, 0), WHOLE);
        y.doubt(2, false);
        due.is("best", y.best(0, 0), WHOLE);
    }

    /** HANGS is told without SURE ahead of it, of one ASK behind another. */
    private static void hangsAlone() {
        SonsPurse x = Due.persons(2);
        due.comes(x, new int[][] {{0, HAND, 1, 0, 0}, {0, DEAL, 1, 0, 100}, {0, GIVE, 1, 0, 10}, {0, ORDER, 0, 0, 0}, {1, USE, 0, 0, 5}});
        for (int n = 2; n < 5; n++) x.doubt(n, true);
        due.is("hangs", x.hangs(0, WHOLE, 0), 2);
        due.is("hangs", x.hangs(0, PURSE, 0), 1);
        due.is("hangs", x.hangs(0, TURNED, 0), 0);
        due.is("hangs", x.hangs(0, TURNED, 1), 4);
        due.is("hangs", x.hangs(0, SHARE, 1), 0);
        due.fraction("THE FRACTION stays", x, 0, 1);
    }

    /** What is in the purses of those in his hand may hang on a NOTE of theirs. */
    private static void doubtInPursesInPurses() {
        SonsPurse x = Due.persons(4);
        due.comes(x, new int[][] {{0, HAND, 1, 0, 0}, {0, HAND, 2, 1, 0}, {0, HAND, 3, 2, 0}, {0, DEAL, 1, 0, 100}, {0, GIVE, 2, 0, 20}, {0, GIVE, 3, 0, 30},
            {0, OWE, 3, 2, 7}, {0, OWE, 2, 1, 25}});
        due.is("hangs", x.hangs(0, PURSE, 0), 0);
        for (int n = 4; n < 8; n++) x.doubt(n, true);
        due.is("hangs", x.hangs(0, PURSE, 0), 15);
        sure(x, PURSE, 0, 0, 50, 15);
        x.doubt(4, false);
        sure(x, PURSE, 0, 0, 50, 7);
        x.doubt(7, false);
        // 20 and 30 less 7, or 30, or none, less 25
        sure(x, PURSE, 0, 0, 25, 3);
    }

    /** "(as bits of these in order)": of NOTES, whichever was DOUBTED first. */
    private static void bitsInOrderOfNotes() {
        SonsPurse x = Due.persons(2);
        due.comes(x, new int[][] {{0, HAND, 1, 0, 0}, {0, DEAL, 1, 0, 100}, {0, GIVE, 1, 0, 10}, {0, POST, 1, 3, 0}, {0, USE, 0, 0, 5}, {0, ORDER, 0, 0, 0},
            {0, PAY, 0, 0, 1}});
        for (int n : new int[] {6, 3, 5, 2, 4}) x.doubt(n, true);
        sure(x, PURSE, 0, 0, 10, 1);
        sure(x, TURNED, 0, 0, 5, 4);
        sure(x, WHOLE, 0, 0, 100, 24);
        sure(x, SHARE, 0, 0, 0, 0);
        x.doubt(3, false);
        sure(x, TURNED, 0, 0, 5, 2);
        sure(x, WHOLE, 0, 0, 100, 12);
        x.doubt(2, false);
        sure(x, PURSE, 0, 10, 10, 0);
        sure(x, TURNED, 0, 0, 5, 1);
    }

    /** "for which there is a way in which the ASK is another one without just that NOTE": a way without another NOTE, too. */
    private static void wayWithoutAnother() {
        SonsPurse x = Due.persons(2);
        due.comes(x, new int[][] {{0, HAND, 1, 0, 0}, {0, DEAL, 1, 0, 50}, {0, GIVE, 1, 0, 50}, {0, GIVE, 1, 1, 50}, {0, GIVE, 1, 2, 100}});
        x.doubt(2, true);
        sure(x, PURSE, 0, 50, 50, 0);
        x.doubt(3, true);
        sure(x, PURSE, 0, 50, 50, 0);
        x.doubt(4, true);
        sure(x, PURSE, 0, 0, 50, 7);
        x.doubt(2, false);
        sure(x, PURSE, 0, 50, 50, 0);
    }

    /** parted: "NONE. BAD: -10." */
    private static void partedRefused() {
        SonsPurse x = house(due);
        for (int day : NO_DAYS) due.refuses("parted", x, -10, () -> x.parted(day));
        due.is("parted(0)", x.parted(0), NONE);
        due.is("parted(999)", x.parted(999), NONE);
    }

    /** NONE: where no DEAL is, where both LAWS tell the same, in other words too. */
    private static void partedOfNone() {
        SonsPurse x = Due.persons(2);
        Due.write(x, 0, "1");
        due.is("no deal", x.parted(0), NONE);
        due.comes(x, new int[][] {{0, HAND, 1, 0, 0}, {0, GIVE, 1, 0, 50}, {0, DEAL, 1, 0, 100}});
        due.is("1, 50", x.parted(0), 0);
        Due.write(x, 1, "2-1");
        due.is("1, 1", x.parted(0), NONE);
        x.erase(1);
        Due.write(x, 0, "g+s-o-w+h");
        due.is("as with a FAULT", x.parted(0), NONE);
    }

    /** "of no later DAY" */
    private static void partedOfNoLaterDay() {
        SonsPurse x = Due.persons(2);
        due.comes(x, new int[][] {{0, HAND, 1, 0, 0}, {0, GIVE, 1, 0, 50}, {5, DEAL, 1, 0, 100}, {5, DEAL, 1, 0, 100}});
        Due.write(x, 1, "1");
        due.is("the day ahead", x.parted(4), NONE);
        due.is("its day", x.parted(5), 0);
        due.is("a day behind", x.parted(6), 0);
    }

    /** "the first DEAL": the least number, not the first that is more. */
    private static void partedFirst() {
        SonsPurse x = Due.persons(3);
        due.comes(x, new int[][] {{0, HAND, 1, 0, 0}, {0, HAND, 2, 0, 0}, {0, GIVE, 1, 0, 50}, {0, DEAL, 0, 0, 9}, {0, DEAL, 2, 0, 9}, {0, DEAL, 1, 0, 50},
            {0, DEAL, 1, 0, 100}, {0, OWE, 2, 0, 3}});
        Due.write(x, 1, "g+(g>0)");
        due.is("the last alone", x.parted(0), 3);
        Due.write(x, 1, "g-(g>0)");
        due.is("the two of his", x.parted(0), 2);
        Due.write(x, 1, "g+o");
        due.is("his brother's", x.parted(0), 1);
        Due.write(x, 1, "g+1");
        due.is("nobody answers for the first", x.parted(0), 1);
    }

    /** The ASK is what is OWED at most: what is beyond it is not seen. */
    private static void partedAtMostOwed() {
        SonsPurse x = Due.persons(2);
        due.comes(x, new int[][] {{0, HAND, 1, 0, 0}, {0, GIVE, 1, 0, 50}, {0, DEAL, 1, 0, 40}, {1, PAY, 0, 0, 39}, {2, PAY, 0, 0, 1}});
        int[][] laws = {{39, 0}, {40, NONE}, {41, NONE}};
        for (int[] l : laws) {
            Due.write(x, 1, "" + l[0]);
            due.is("parted by " + l[0], x.parted(0), l[1]);
        }
        Due.write(x, 1, "1");
        due.is("parted by 1", x.parted(0), 0);
        due.is("parted by 1 of 1", x.parted(1), NONE);
        Due.write(x, 1, "0");
        due.is("parted by 0 of 1", x.parted(1), 0);
        due.is("parted by 0 of 0", x.parted(2), NONE);
    }

    /** The PURSE ASK is with that DEAL's HIDDEN by both LAWS, and SECOND by THE LAW. */
    private static void partedWithHidden() {
        SonsPurse x = Due.persons(3);
        due.comes(x, new int[][] {{0, HAND, 1, 0, 0}, {0, HAND, 2, 1, 0}, {0, GIVE, 1, 0, 50}, {0, GIVE, 2, 0, 8}, {0, HIDE, 1, 0, 5}, {0, DEAL, 1, 0, 500},
            {1, DEAL, 1, 0, 500}, {1, HIDE, 1, 0, 7}, {2, TAKE, 1, 0, 1}});
        Due.write(x, 0, "g+s");
        Due.write(x, 1, "g+s+h");
        due.is("nothing was hidden behind it", x.parted(0), NONE);
        due.is("7 were", x.parted(1), 0);
        Due.write(x, 0, "g+s+7");
        due.is("7 by both", x.parted(1), NONE);
        Due.write(x, 0, "g");
        Due.write(x, 1, "s+30");
        due.is("s is 8: 38 by both", x.parted(1), NONE);
        due.is("37 by THE LAW", x.parted(2), 0);
    }

    /** Where the PURSE can not be asked, the ASK is 0 by both LAWS. */
    private static void partedOfClosed() {
        SonsPurse x = Due.persons(2);
        due.comes(x, new int[][] {{0, HAND, 1, 0, 0}, {0, GIVE, 1, 0, 50}, {0, DEAL, 1, 0, 100}, {1, END, 1, 0, 0}, {400, HAND, 1, 0, 0}, {401, END, 1, 2, 0},
            {402, HAND, 1, NONE, 0}});
        Due.write(x, 1, "1");
        int[][] due1 = {{0, 0}, {1, 0}, {361, 0}, {362, NONE}, {400, 0}, {401, NONE}, {402, NONE}};
        for (int[] d : due1) due.is("parted(" + d[0] + ")", x.parted(d[0]), d[1]);
    }
}
