/** Promises 19 to 23 at their bounds: THE LINE, who is served, all orders, choices and rests. What the document says stands ahead of each test. */
public final class BoundsOfLinesTest extends Kinds {
    private static final Due due = new Due();
    private static final int[] NO_DAYS = {-1, 1000, MIN, MAX};

    public static void main(String[] args) {
        linesRefused();
        sixDeals();
        eachOnce();
        unlines();
        servedRefused();
        ordersRefused();
        restsRefused();
        servedAtMost();
        servedToTheLast();
        servedOfNothing();
        servedWithHidden();
        servedOfOnePerson();
        servedOfClosed();
        servedOfLater();
        byTheLaw();
        ordersOfOne();
        ordersOfSix();
        ordersWithHidden();
        ordersOfOthers();
        noLine();
        restsNotSoMany();
        bitsByPlace();
        shareOnlyIfKnown();
        shareByOneMore();
        shareOfOne();
        shareOfNothing();
        shareOverTheirs();
        shareAtMostOwed();
        partsAreLess();
        partIsLessOnce();
        noRests();
        nobodyAnswers();
        earlierDayBehindALater();
        due.end();
    }

    /** Six DEALS of the son's, of 10 each on day 1, a seventh on day 3; his purse has so much. */
    private static SonsPurse seven(int much) {
        SonsPurse x = Due.persons(2);
        due.comes(x, new int[] {0, HAND, 1, 0, 0});
        for (int d = 0; d < 6; d++) due.comes(x, new int[] {1, DEAL, 1, 0, 10});
        if (much > 0) due.comes(x, new int[] {1, GIVE, 1, 0, much});
        due.comes(x, new int[] {3, DEAL, 1, 0, 10});
        return x;
    }

    private static void lineUp(SonsPurse x, int... deals) {
        for (int k = 0; k < deals.length; k++) due.is("line(" + deals[k] + ")", x.line(deals[k]), k + 1);
    }

    private static void serves(SonsPurse x, int day, int... want) {
        for (int i = 0; i < want.length; i++) due.is("served(" + i + ", " + day + ")", x.served(i, day), want[i]);
    }

    private static void ranges(SonsPurse x, int i, int day, int least, int most) {
        due.is("orders(" + i + ", 0, " + day + ")", x.orders(i, 0, day), least);
        due.is("orders(" + i + ", 1, " + day + ")", x.orders(i, 1, day), most);
    }

    private static void restsAre(SonsPurse x, int day, int... rows) {
        due.is("rests(NONE, " + day + ")", x.rests(NONE, day), rows.length);
        for (int k = 0; k < rows.length; k++) due.is("rests(" + k + ", " + day + ")", x.rests(k, day), rows[k]);
        due.is("rests(" + rows.length + ", " + day + ")", x.rests(rows.length, day), -5);
    }

    /** line: "BAD" */
    private static void linesRefused() {
        SonsPurse x = seven(0);
        for (int d : new int[] {-1, 7, 60, MIN, MAX}) due.refuses("line", x, BAD, () -> x.line(d));
        SonsPurse none = Due.persons(2);
        due.refuses("line of no deal", none, BAD, () -> none.line(0), () -> none.line(-1));
        due.is("line(6)", x.line(6), 1);
    }

    /** "up to 6 DEALS" "FULL: 6." BAD, NO ahead of it. */
    private static void sixDeals() {
        SonsPurse x = seven(0);
        lineUp(x, 5, 4, 3, 2, 1, 0);
        due.is("count(4)", x.count(4), 6);
        due.refuses("a seventh", x, FULL, () -> x.line(6));
        due.refuses("NO ahead of FULL", x, NO, () -> x.line(5), () -> x.line(0));
        due.refuses("BAD ahead of FULL", x, BAD, () -> x.line(7), () -> x.line(-1));
    }

    /** "each once" "NO: it is in it" */
    private static void eachOnce() {
        SonsPurse x = seven(0);
        lineUp(x, 0, 6);
        due.refuses("once more", x, NO, () -> x.line(0), () -> x.line(6));
        due.is("line(3)", x.line(3), 3);
        due.refuses("once more", x, NO, () -> x.line(3));
    }

    /** "THE LINE is empty: how many." */
    private static void unlines() {
        SonsPurse x = seven(0);
        due.is("unline", x.unline(), 0);
        lineUp(x, 0, 1, 2, 3, 4, 5);
        due.is("unline", x.unline(), 6);
        due.is("unline", x.unline(), 0);
        due.is("count(4)", x.count(4), 0);
        due.is("served", x.served(0, 3), BAD);
        lineUp(x, 6, 0);
        due.is("unline", x.unline(), 2);
    }

    /** served: "BAD." */
    private static void servedRefused() {
        SonsPurse x = seven(0);
        due.refuses("served of an empty line", x, BAD, () -> x.served(0, 3));
        lineUp(x, 0, 1);
        for (int i : new int[] {-1, 2, 6, MIN, MAX}) due.refuses("served", x, BAD, () -> x.served(i, 3));
        for (int day : NO_DAYS) due.refuses("served", x, BAD, () -> x.served(0, day));
    }

    /** orders: "the least (0), the most (1) of the i-th. BAD." */
    private static void ordersRefused() {
        SonsPurse x = seven(0);
        due.refuses("orders of an empty line", x, BAD, () -> x.orders(0, 0, 3), () -> x.orders(0, 1, 3));
        lineUp(x, 0, 1);
        for (int i : new int[] {-1, 2, 6, MIN, MAX}) due.refuses("orders", x, BAD, () -> x.orders(i, 0, 3), () -> x.orders(i, 1, 3));
        for (int what : new int[] {-1, 2, MIN, MAX}) due.refuses("orders", x, BAD, () -> x.orders(0, what, 3));
        for (int day : NO_DAYS) due.refuses("orders", x, BAD, () -> x.orders(0, 0, day), () -> x.orders(0, 1, day));
    }

    /** rests: "how many (what = NONE), the one (what = 0 on). .. BAD: -10." */
    private static void restsRefused() {
        SonsPurse x = seven(0);
        lineUp(x, 0, 1);
        for (int what : new int[] {-2, -3, MIN}) due.refuses("rests", x, -10, () -> x.rests(what, 3));
        for (int day : NO_DAYS) due.refuses("rests", x, -10, () -> x.rests(NONE, day), () -> x.rests(0, day), () -> x.rests(99, day));
    }

    /** "of what is OWED, of NET .. at most": one less, as much, one more. */
    private static void servedAtMost() {
        for (int much = 9; much <= 11; much++) {
            SonsPurse x = seven(much);
            lineUp(x, 3);
            serves(x, 3, Math.min(much, 10));
        }
        SonsPurse x = seven(50);
        due.comes(x, new int[][] {{4, PAY, 3, 0, 9}, {5, PAY, 3, 0, 1}});
        lineUp(x, 3, 0);
        serves(x, 3, 10, 10);
        serves(x, 4, 1, 10);
        serves(x, 5, 0, 10);
    }

    /** "less what those ahead in THE LINE got": six of them, to the last that is in the purse. */
    private static void servedToTheLast() {
        int[] much = {0, 1, 10, 11, 49, 50, 51, 59, 60, 61};
        for (int m : much) {
            SonsPurse x = seven(m);
            lineUp(x, 4, 2, 0, 5, 1, 3);
            int[] want = new int[6];
            for (int i = 0; i < 6; i++) want[i] = Math.max(0, Math.min(10, m - 10 * i));
            serves(x, 3, want);
        }
    }

    /** Who is owed nothing takes nothing from those behind. */
    private static void servedOfNothing() {
        SonsPurse x = seven(15);
        due.comes(x, new int[] {4, PAY, 0, 0, 10});
        lineUp(x, 0, 1, 2);
        serves(x, 3, 10, 5, 0);
        serves(x, 4, 0, 10, 5);
    }

    /** Base 20 for all; behind DEAL 0 30 were hidden, behind DEAL 1 20, behind DEAL 2 nothing. */
    private static SonsPurse hidden() {
        SonsPurse x = Due.persons(2);
        due.comes(x, new int[][] {{0, HAND, 1, 0, 0}, {0, GIVE, 1, 0, 50}, {0, DEAL, 1, 0, 25}, {0, HIDE, 1, 0, 10}, {0, DEAL, 1, 0, 40}, {0, HIDE, 1, 0, 20},
            {0, DEAL, 1, 0, 20}});
        return x;
    }

    /** "NET with that DEAL's HIDDEN less what those ahead .. got": 0 at least, where they got more than that. */
    private static void servedWithHidden() {
        SonsPurse x = hidden();
        lineUp(x, 0, 1, 2);
        serves(x, 0, 25, 15, 0);
        x.unline();
        lineUp(x, 0, 2, 1);
        serves(x, 0, 25, 0, 15);
        x.unline();
        lineUp(x, 2, 1, 0);
        serves(x, 0, 20, 20, 10);
        x.unline();
        lineUp(x, 1, 2);
        serves(x, 0, 40, 0);
    }

    /** "of the same person's": another's take nothing from his purse. */
    private static void servedOfOnePerson() {
        SonsPurse x = Due.persons(4);
        due.comes(x, new int[][] {{0, HAND, 1, 0, 0}, {0, HAND, 2, 0, 0}, {0, HAND, 3, 1, 0}, {0, GIVE, 1, 0, 15}, {0, GIVE, 2, 0, 8}, {0, GIVE, 3, 0, 4},
            {0, DEAL, 1, 0, 10}, {0, DEAL, 2, 0, 10}, {0, DEAL, 3, 0, 10}, {0, DEAL, 1, 0, 10}});
        lineUp(x, 2, 1, 0, 3);
        // the purse of 3 is in that of 1, and is asked by itself
        serves(x, 0, 4, 8, 10, 9);
    }

    /** "(0 where the PURSE can not be asked ..": nobody answers, END is 361 days ago, he was freed with his PURSE. */
    private static void servedOfClosed() {
        SonsPurse x = seven(15);
        due.comes(x, new int[][] {{5, END, 1, 0, 0}, {400, HAND, 1, 0, 0}, {500, END, 1, 2, 0}, {600, HAND, 1, 0, 0}, {700, HAND, 1, NONE, 0}});
        lineUp(x, 0, 1, 2);
        int[] open = {4, 5, 365, 400, 499, 600, 699};
        int[] closed = {366, 399, 500, 599, 700, 999};
        for (int day : open) serves(x, day, 10, 5, 0);
        for (int day : closed) serves(x, day, 0, 0, 0);
        ranges(x, 2, 365, 0, 10);
        ranges(x, 2, 366, 0, 0);
    }

    /** ".. or a DEAL is later than that DAY)": it takes nothing; it is served from its DAY on. */
    private static void servedOfLater() {
        SonsPurse x = seven(15);
        lineUp(x, 6, 0, 1);
        serves(x, 0, 0, 0, 0);
        serves(x, 1, 0, 10, 5);
        serves(x, 2, 0, 10, 5);
        serves(x, 3, 10, 5, 0);
        ranges(x, 0, 2, 0, 0);
        ranges(x, 1, 2, 5, 10);
        ranges(x, 1, 3, 0, 10);
    }

    /** NET is by THE LAW, whatever LAW 1 tells. */
    private static void byTheLaw() {
        SonsPurse x = seven(25);
        lineUp(x, 0, 1, 2, 3);
        Due.write(x, 1, "7");
        serves(x, 3, 10, 10, 5, 0);
        ranges(x, 0, 3, 0, 10);
        Due.write(x, 0, "17");
        serves(x, 3, 10, 7, 0, 0);
        x.erase(0);
        Due.write(x, 1, "0");
        due.comes(x, new int[][] {{5, KNOW, 1, 1, 0}, {5, DEAL, 1, 1, 25}});
        x.unline();
        lineUp(x, 7);
        // 25 by PURSE, nothing by SHARE
        restsAre(x, 5, 0);
        Due.write(x, 0, "0");
        restsAre(x, 5, 0, 1);
    }

    /** "In all orders of THE LINE": of one DEAL there is one. */
    private static void ordersOfOne() {
        for (int much : new int[] {0, 1, 9, 10, 11}) {
            SonsPurse x = seven(much);
            lineUp(x, 2);
            ranges(x, 0, 3, Math.min(10, much), Math.min(10, much));
        }
    }

    /** Of six: the least behind all others, the most ahead of them. */
    private static void ordersOfSix() {
        int[] much = {0, 9, 10, 49, 50, 51, 59, 60, 61};
        for (int m : much) {
            SonsPurse x = seven(m);
            lineUp(x, 5, 4, 3, 2, 1, 0);
            for (int i = 0; i < 6; i++) ranges(x, i, 3, Math.max(0, Math.min(10, m - 50)), Math.min(10, m));
        }
    }

    /** The least is of all orders of those ahead: 20, 25 by DEALS 2, 0 leave nothing to DEAL 1, where 25, 0 by 0, 2 leave 15. */
    private static void ordersWithHidden() {
        SonsPurse x = hidden();
        lineUp(x, 0, 1, 2);
        ranges(x, 0, 0, 10, 25);
        ranges(x, 1, 0, 0, 40);
        ranges(x, 2, 0, 0, 20);
        x.unline();
        lineUp(x, 0, 1);
        ranges(x, 0, 0, 10, 25);
        ranges(x, 1, 0, 15, 40);
    }

    /** The place among another's DEALS is all one. */
    private static void ordersOfOthers() {
        SonsPurse x = Due.persons(3);
        due.comes(x, new int[][] {{0, HAND, 1, 0, 0}, {0, HAND, 2, 0, 0}, {0, GIVE, 1, 0, 15}, {0, GIVE, 2, 0, 7}, {0, DEAL, 1, 0, 10}, {0, DEAL, 2, 0, 10},
            {0, DEAL, 1, 0, 8}});
        lineUp(x, 1, 0, 2);
        ranges(x, 0, 0, 7, 7);
        ranges(x, 1, 0, 7, 10);
        ranges(x, 2, 0, 5, 8);
    }

    /** An empty line has one row of CHOICES, 0, in which none gets more. */
    private static void noLine() {
        SonsPurse x = seven(15);
        restsAre(x, 0, 0);
        restsAre(x, 999, 0);
        restsAre(new SonsPurse(), 0, 0);
    }

    /** Six persons, each with one DEAL of 60 in a known TRADE and 60 in that PART: 60 by either choice. */
    private static SonsPurse six() {
        SonsPurse x = Due.persons(7);
        for (int p = 1; p < 7; p++) {
            due.comes(x, new int[][] {{0, HAND, p, 0, 0}, {0, KNOW, p, p % 4, 0}, {0, GIVE, p, p % 4, 60}, {0, DEAL, p, p % 4, 60}});
        }
        lineUp(x, 0, 1, 2, 3, 4, 5);
        return x;
    }

    /** "-5: not so many": 64 rows are the most; they come "in order as numbers". */
    private static void restsNotSoMany() {
        int[] all = new int[64];
        for (int k = 0; k < 64; k++) all[k] = k;
        SonsPurse x = six();
        restsAre(x, 0, all);
        due.refuses("rests", x, -5, () -> x.rests(64, 0), () -> x.rests(65, 0), () -> x.rests(MAX, 0));
    }

    /** "(bits: who chooses SHARE)": bit i is of the i-th in THE LINE. */
    private static void bitsByPlace() {
        for (int p = 0; p < 6; p++) {
            SonsPurse x = six();
            due.comes(x, new int[][] {{1, OWE, p + 1, 0, 1}});
            // by PURSE 59, by SHARE 60 * 60 / 61, for one of them
            due.is("half as many", x.rests(NONE, 1), 32);
            due.is("the first of them", x.rests(0, 1), 1 << p);
            due.is("the last of them", x.rests(31, 1), 63);
            x.unline();
            lineUp(x, 5, 4, 3, 2, 1, 0);
            due.is("in another line", x.rests(0, 1), 1 << (5 - p));
        }
    }

    /** "or SHARE (only where SHARE is known as told)": by NOTES ahead of the DEAL. */
    private static void shareOnlyIfKnown() {
        SonsPurse x = Due.persons(2);
        due.comes(x, new int[][] {{0, HAND, 1, 0, 0}, {0, GIVE, 1, 0, 60}, {0, DEAL, 1, 0, 60}, {0, KNOW, 1, 0, 0}, {0, DEAL, 1, 0, 60}, {0, KNOW, 1, 1, 0},
            {0, DEAL, 1, 2, 60}, {0, OWE, 1, 0, 30}});
        lineUp(x, 0);
        restsAre(x, 0, 0);
        x.unline();
        lineUp(x, 1);
        restsAre(x, 0, 1);
        x.unline();
        lineUp(x, 2);
        restsAre(x, 0, 0);
        x.unline();
        lineUp(x, 0, 2, 1);
        restsAre(x, 0, 4);
    }

    /** "in which none gets more by the other CHOICE": more by a part of one, as much, less by a part of one. */
    private static void shareByOneMore() {
        SonsPurse x = Due.persons(2);
        due.comes(x, new int[][] {{0, HAND, 1, 0, 0}, {0, KNOW, 1, 0, 0}, {0, GIVE, 1, 0, 60}, {0, DEAL, 1, 0, 60}, {1, OWE, 1, 0, 1}, {2, GIVE, 1, 1, 1},
            {3, GIVE, 1, 0, 1}, {4, TAKE, 1, 1, 1}, {5, TAKE, 1, 0, 2}, {6, GIVE, 1, 1, 1}});
        lineUp(x, 0);
        restsAre(x, 0, 0, 1);
        // 59 or 60 * 60 / 61
        restsAre(x, 1, 1);
        // 60 or 60 * 60 / 61
        restsAre(x, 2, 0);
        // 60 or 61 * 60 / 61
        restsAre(x, 3, 0, 1);
        restsAre(x, 4, 0, 1);
        // 58 or 59 * 60 / 61; 59 or 59 * 60 / 61
        restsAre(x, 5, 1);
        restsAre(x, 6, 0);
    }

    /** The least of DEALS, alone: 1 by PURSE, 1 by 1 or 1 by 2 by SHARE. */
    private static void shareOfOne() {
        SonsPurse x = Due.persons(2);
        due.comes(x, new int[][] {{0, HAND, 1, 0, 0}, {0, KNOW, 1, 0, 0}, {0, DEAL, 1, 0, 1}, {1, GIVE, 1, 0, 1}, {2, OWE, 1, 0, 1}, {3, GIVE, 1, 1, 1},
            {4, GIVE, 1, 0, 1}});
        lineUp(x, 0);
        restsAre(x, 0, 0, 1);
        restsAre(x, 1, 0, 1);
        // 0, 1 by 2; 1, 1 by 2; 1, 1
        restsAre(x, 2, 1);
        restsAre(x, 3, 0);
        restsAre(x, 4, 0, 1);
    }

    /** Where nothing is OWED, or nothing is there, each choice gets 0. */
    private static void shareOfNothing() {
        SonsPurse x = Due.persons(2);
        due.comes(x, new int[][] {{0, HAND, 1, 0, 0}, {0, KNOW, 1, 0, 0}, {0, DEAL, 1, 0, 60}, {1, OWE, 1, 0, 5}, {2, GIVE, 1, 0, 9}, {3, PAY, 0, 0, 60},
            {4, SETTLE, 1, 0, 5}});
        lineUp(x, 0);
        restsAre(x, 0, 0, 1);
        restsAre(x, 1, 0, 1);
        // 4, or 9 * 60 / 65
        restsAre(x, 2, 1);
        restsAre(x, 3, 0, 1);
        restsAre(x, 4, 0, 1);
    }

    /** "by what is OWED over all theirs and OWN (0)": theirs in THE LINE who choose SHARE, of one person and TRADE; no other DEAL. */
    private static void shareOverTheirs() {
        SonsPurse x = Due.persons(3);
        due.comes(x, new int[][] {{0, HAND, 1, 0, 0}, {0, HAND, 2, 0, 0}, {0, KNOW, 1, 0, 0}, {0, KNOW, 1, 1, 0}, {0, KNOW, 2, 0, 0}, {0, GIVE, 1, 0, 60},
            {0, GIVE, 1, 1, 60}, {0, GIVE, 2, 0, 60}, {0, DEAL, 1, 0, 60}, {0, DEAL, 1, 0, 60}, {0, DEAL, 1, 1, 60}, {0, DEAL, 2, 0, 60}});
        lineUp(x, 0);
        restsAre(x, 0, 0, 1);
        x.unline();
        lineUp(x, 0, 2, 3);
        restsAre(x, 0, 0, 1, 2, 3, 4, 5, 6, 7);
        x.unline();
        lineUp(x, 0, 1);
        // 60, 60 by PURSE; one by SHARE; 30, 30 by SHARE, where 60 are left for him who goes back
        restsAre(x, 0, 0, 1, 2);
    }

    /** "what is OWED at most" by SHARE, as by PURSE. */
    private static void shareAtMostOwed() {
        SonsPurse x = Due.persons(2);
        due.comes(x, new int[][] {{0, HAND, 1, 0, 0}, {0, KNOW, 1, 0, 0}, {0, DEAL, 1, 0, 10}, {0, DEAL, 1, 0, 20}, {0, GIVE, 1, 0, 29}, {1, GIVE, 1, 0, 1},
            {2, GIVE, 1, 0, 500}});
        lineUp(x, 0, 1);
        // by PURSE 10, 19, where 20 are in SHARE alone; who is by PURSE beside one who shares in all there is gets 0
        restsAre(x, 0, 3);
        restsAre(x, 1, 0, 3);
        restsAre(x, 2, 0, 3);
        SonsPurse y = Due.persons(2);
        due.comes(y, new int[][] {{0, HAND, 1, 0, 0}, {0, KNOW, 1, 0, 0}, {0, DEAL, 1, 0, 10}, {0, GIVE, 1, 0, 10}, {1, GIVE, 1, 0, 990}});
        lineUp(y, 0);
        restsAre(y, 0, 0, 1);
        restsAre(y, 1, 0, 1);
    }

    /** "NET is less by all PARTS (of his TRADES) that somebody SHARES in": by all of a PART, though less of it is got. */
    private static void partsAreLess() {
        SonsPurse x = Due.persons(2);
        due.comes(x, new int[][] {{0, HAND, 1, 0, 0}, {0, KNOW, 1, 0, 0}, {0, KNOW, 1, 1, 0}, {0, GIVE, 1, 0, 60}, {0, DEAL, 1, 0, 10}, {0, DEAL, 1, 1, 60},
            {1, GIVE, 1, 2, 1}});
        lineUp(x, 0, 1);
        // the second gets 50 by PURSE where the first does not share, and 0 by either choice where he does
        restsAre(x, 0, 0, 1, 3);
        // one more in another PART is left to him who does not share
        restsAre(x, 1, 0, 1);
    }

    /** A PART is less once, though two share in it; and not less where nobody does. */
    private static void partIsLessOnce() {
        SonsPurse x = Due.persons(2);
        due.comes(x, new int[][] {{0, HAND, 1, 0, 0}, {0, KNOW, 1, 0, 0}, {0, KNOW, 1, 1, 0}, {0, GIVE, 1, 0, 40}, {0, GIVE, 1, 1, 10}, {0, GIVE, 1, 2, 30},
            {0, DEAL, 1, 0, 20}, {0, DEAL, 1, 0, 20}, {0, DEAL, 1, 1, 40}});
        lineUp(x, 0, 1, 2);
        // the third by PURSE gets 40 of 80 less 40; by SHARE 10
        restsAre(x, 0, 0, 1, 2, 3);
    }

    /** Rows in which one would get more by the other CHOICE: by SHARE in the first, by PURSE in the last. */
    private static void noRests() {
        SonsPurse x = Due.persons(2);
        due.comes(x, new int[][] {{0, HAND, 1, 0, 0}, {0, KNOW, 1, 0, 0}, {0, GIVE, 1, 0, 60}, {0, GIVE, 1, 1, 40}, {0, DEAL, 1, 0, 60}, {0, DEAL, 1, 0, 60}});
        lineUp(x, 0, 1);
        // PURSE, PURSE: 60, 40; SHARE, PURSE: 60, 40; PURSE, SHARE: 40, 60; SHARE, SHARE: 30, 30
        restsAre(x, 0, 1, 2);
    }

    /** An ASK is "0, if nobody answers": by SHARE as by PURSE, so that each CHOICE is a REST, though there is something in the PART. */
    private static void nobodyAnswers() {
        SonsPurse x = Due.persons(3);
        due.comes(x, new int[][] {{0, KNOW, 1, 0, 0}, {0, GIVE, 1, 0, 60}, {0, DEAL, 1, 0, 60}, {0, DEAL, 1, 0, 60}, {0, DEAL, 1, 1, 60}, {1, HAND, 1, 0, 0},
            {2, HAND, 1, NONE, 0}, {3, HAND, 1, 2, 0}, {4, END, 1, 0, 0}, {5, HAND, 1, NONE, 0}});
        lineUp(x, 2, 0, 1);
        restsAre(x, 0, 0, 2, 4, 6);
        // 60 by PURSE to him who is first and may not share; 30, 30 to the others
        restsAre(x, 1, 6);
        restsAre(x, 2, 0, 2, 4, 6);
        restsAre(x, 3, 6);
        restsAre(x, 4, 6);
        restsAre(x, 5, 0, 2, 4, 6);
    }

    /** What was asked of one DAY is nothing to what is asked of an earlier one. */
    private static void earlierDayBehindALater() {
        SonsPurse x = Due.persons(2);
        due.comes(x, new int[][] {{0, HAND, 1, 0, 0}, {0, KNOW, 1, 0, 0}, {0, GIVE, 1, 0, 60}, {0, DEAL, 1, 0, 60}, {3, DEAL, 1, 0, 60}, {4, OWE, 1, 0, 60}});
        lineUp(x, 0, 1);
        int[] days = {0, 4, 0, 3, 2, 4, 3, 0};
        for (int day : days) {
            if (day == 4) restsAre(x, day, 3);
            else if (day == 3) restsAre(x, day, 3);
            else restsAre(x, day, 0, 1);
            serves(x, day, day == 4 ? 0 : 60, 0);
            ranges(x, 0, day, day < 3 ? 60 : 0, day == 4 ? 0 : 60);
        }
    }
}
