/** Promises 19 to 23: THE LINE, its orders and its choices. */
public final class LinesTest {
    private static final Due due = new Due();

    public static void main(String[] args) {
        lines();
        serveds();
        later();
        closed();
        rests();
        fourRests();
        noRest();
        twoTrades();
        threeTrades();
        nobodyAnswers();
        nobodyAnswersForTwo();
        nobodyAnswersForOne();
        sharesOfClosed();
        due.end();
    }

    private static SonsPurse deals(int many) {
        SonsPurse x = Due.persons(2);
        x.note(0, 0, 1, 0, 0);
        for (int k = 0; k < many; k++) x.note(0, 4, 1, 0, 10 * (k + 1));
        return x;
    }

    private static void lines() {
        SonsPurse x = deals(7);
        due.is("unline() of none", x.unline(), 0);
        due.is("line(7)", x.line(7), -2);
        due.is("line(-1)", x.line(-1), -2);
        for (int k = 0; k < 6; k++) due.is("line(" + (6 - k) + ")", x.line(6 - k), k + 1);
        due.is("NO ahead of FULL", x.line(6), -3);
        due.is("BAD ahead of FULL", x.line(7), -2);
        due.is("line(0)", x.line(0), -4);
        due.is("unline()", x.unline(), 6);
        due.is("count(4)", x.count(4), 0);
        due.is("line(0)", x.line(0), 1);
    }

    private static void serveds() {
        SonsPurse x = deals(3);
        Due.notes(x, new int[][] {{1, 1, 1, 0, 25}, {2, 3, 1, 0, 5}, {3, 13, 1, 0, 8}, {4, 4, 0, 0, 40}});
        for (int k : new int[] {2, 0, 1}) x.line(k);
        int[][] got = {{0, 0, 0}, {25, 0, 0}, {25, 0, 0}};
        for (int day = 0; day < 3; day++) {
            for (int i = 0; i < 3; i++) due.is("served(" + i + ", " + day + ")", x.served(i, day), got[day][i]);
        }
        int[][] ranges = {{3, 25}, {0, 10}, {0, 12}};
        for (int i = 0; i < 3; i++) {
            for (int what = 0; what < 2; what++) due.is("orders(" + i + ", " + what + ", 3)", x.orders(i, what, 3), ranges[i][what]);
        }
        x.note(4, 1, 1, 2, 10);
        int[][] more = {{13, 30}, {0, 10}, {0, 12}};
        for (int i = 0; i < 3; i++) {
            for (int what = 0; what < 2; what++) due.is("orders(" + i + ", " + what + ", 4)", x.orders(i, what, 4), more[i][what]);
        }
        int[][] bad = {{3, 0, 4}, {-1, 0, 4}, {0, -1, 4}, {0, 2, 4}, {0, 0, -1}, {0, 0, 1000}};
        for (int[] b : bad) due.is("orders, bad", x.orders(b[0], b[1], b[2]), -2);
        for (int[] b : bad) if (b[1] == 0) due.is("served, bad", x.served(b[0], b[2]), -2);
    }

    /** A deal of a later day than is asked of, and one of another person, stand in nobody's way. */
    private static void later() {
        SonsPurse x = Due.persons(3);
        Due.notes(x, new int[][] {{0, 0, 1, 0, 0}, {0, 0, 2, 0, 0}, {0, 1, 1, 0, 30}, {0, 1, 2, 0, 30}, {0, 8, 1, 0, 0}, {1, 4, 2, 0, 20},
            {1, 4, 1, 0, 25}, {5, 4, 1, 0, 20}});
        for (int k : new int[] {2, 0, 1}) x.line(k);
        due.is("served(0, 4)", x.served(0, 4), 0);
        due.is("served(1, 4)", x.served(1, 4), 20);
        due.is("served(2, 4)", x.served(2, 4), 25);
        due.is("orders(0, 1, 4)", x.orders(0, 1, 4), 0);
        due.is("orders(2, 0, 4)", x.orders(2, 0, 4), 25);
        due.is("rests(NONE, 4)", x.rests(-1, 4), 2);
        due.is("served(2, 5)", x.served(2, 5), 10);
        due.is("orders(2, 0, 5)", x.orders(2, 0, 5), 10);
    }

    private static void closed() {
        SonsPurse x = deals(2);
        Due.notes(x, new int[][] {{1, 1, 1, 0, 25}, {2, 14, 1, 2, 0}, {3, 0, 1, -1, 0}});
        x.line(0);
        x.line(1);
        due.is("the purse may be asked", x.served(0, 1), 10);
        due.is("he took it with him", x.served(0, 2), 0);
        due.is("nobody answers", x.served(1, 3), 0);
        due.is("in no order", x.orders(1, 1, 2), 0);
    }

    private static void restsAre(SonsPurse x, int day, int... rows) {
        due.is("rests(NONE, " + day + ")", x.rests(-1, day), rows.length);
        for (int k = 0; k < rows.length; k++) due.is("rests(" + k + ", " + day + ")", x.rests(k, day), rows[k]);
        due.is("rests(" + rows.length + ", " + day + ")", x.rests(rows.length, day), -5);
        due.is("rests(MAX, " + day + ")", x.rests(Integer.MAX_VALUE, day), -5);
    }

    private static void rests() {
        SonsPurse x = new SonsPurse();
        restsAre(x, 0, 0);
        due.is("rests(-2, 0)", x.rests(-2, 0), -10);
        due.is("rests(0, 1000)", x.rests(0, 1000), -10);
        due.is("rests(0, -1)", x.rests(0, -1), -10);
        SonsPurse y = deals(1);
        Due.notes(y, new int[][] {{0, 1, 1, 0, 30}, {0, 11, 1, 0, 10}, {1, 8, 1, 0, 0}, {1, 4, 1, 0, 20}});
        y.line(0);
        y.line(1);
        // 1 gets 10 behind 0 by PURSE, 30 * 20 / (20 + 10) = 20 by SHARE
        restsAre(y, 1, 2);
    }

    /** Two persons, 60 for each by either choice: none gets more by the other. */
    private static void fourRests() {
        SonsPurse x = Due.persons(3);
        Due.notes(x, new int[][] {{0, 0, 1, 0, 0}, {0, 0, 2, 0, 0}, {0, 8, 1, 0, 0}, {0, 8, 2, 0, 0}, {0, 1, 1, 0, 60}, {0, 1, 2, 0, 60},
            {0, 4, 1, 0, 60}, {0, 4, 2, 0, 60}});
        x.line(0);
        x.line(1);
        restsAre(x, 0, 0, 1, 2, 3);
    }

    /** Two of one trade: who shares empties the purse for the other. */
    private static void noRest() {
        SonsPurse x = Due.persons(2);
        Due.notes(x, new int[][] {{0, 0, 1, 0, 0}, {0, 8, 1, 0, 0}, {0, 1, 1, 0, 60}, {0, 4, 1, 0, 60}, {0, 4, 1, 0, 60}});
        x.line(0);
        x.line(1);
        // both PURSE: 60, 0; then 1 gets 60 alone in SHARE; then 0 gets 0 by PURSE, 30 by SHARE; both SHARE: 30, 30
        restsAre(x, 0, 3);
    }

    /** PURSE is less by the whole of each part that somebody shares in, once. */
    private static void twoTrades() {
        SonsPurse x = Due.persons(2);
        Due.notes(x, new int[][] {{0, 0, 1, 0, 0}, {0, 8, 1, 0, 0}, {0, 1, 1, 0, 60}, {0, 1, 1, 1, 70}, {0, 4, 1, 0, 60}, {0, 4, 1, 0, 60},
            {0, 4, 1, 1, 100}});
        for (int k = 0; k < 3; k++) x.line(k);
        // both by PURSE: 60, 60; one by SHARE: 60, and 130 less 60 leaves 60 for the other; both by SHARE: 30, 30
        restsAre(x, 0, 0, 1, 2);
        x.unline();
        for (int k : new int[] {2, 0, 1}) x.line(k);
        // 100 goes to the other trade's deal first, which may not share: by PURSE 30, 0 are left, and 0, 0 where one shares
        restsAre(x, 0, 6);
    }

    /** A part is taken from the purse once, and those who share in it share with their own trade alone. */
    private static void threeTrades() {
        SonsPurse x = Due.persons(2);
        Due.notes(x, new int[][] {{0, 0, 1, 0, 0}, {0, 8, 1, 0, 0}, {0, 8, 1, 1, 0}, {0, 1, 1, 0, 60}, {0, 1, 1, 1, 30}, {0, 1, 1, 2, 70},
            {0, 4, 1, 0, 60}, {0, 4, 1, 0, 60}, {0, 4, 1, 1, 30}, {0, 4, 1, 2, 160}});
        for (int k : new int[] {3, 0, 1, 2}) x.line(k);
        // the deal without a share takes all that is left: 30, 30 of 60 and 30 of 30 are more than nothing
        restsAre(x, 0, 14);
        x.unline();
        for (int k : new int[] {0, 1, 2, 3}) x.line(k);
        // 160 are there; 60 go by PURSE or SHARE alike, to one or two of trade 0; 30 by either
        restsAre(x, 0, 0, 1, 2, 4, 5, 6);
        x.note(1, 4, 1, 0, 40);
        x.line(4);
        restsAre(x, 0, 0, 1, 2, 4, 5, 6);
        // on day 1 the last gets nothing by PURSE, so he shares; then the second and the third do better so, too
        restsAre(x, 1, 22);
    }

    /** Who may choose SHARE hangs on the trade being known alone; but where nobody answers, he gets 0 by it, as by PURSE. */
    private static void nobodyAnswers() {
        SonsPurse x = Due.persons(2);
        Due.notes(x, new int[][] {{0, 8, 1, 0, 0}, {0, 4, 1, 0, 60}, {0, 4, 1, 1, 20}, {1, 1, 1, 0, 60}, {2, 0, 1, 0, 0}, {3, 0, 1, -1, 0}});
        x.line(0);
        x.line(1);
        due.is("answers(0, 1)", x.answers(0, 1), -1);
        due.is("answers(0, 2)", x.answers(0, 2), 0);
        due.is("answers(0, 3)", x.answers(0, 3), -1);
        // something is in the part from day 1 on; 60 by either choice on day 2; let go by HAND, not by END, on day 3
        for (int day = 0; day < 4; day++) restsAre(x, day, 0, 1);
    }

    /** Two of one trade, and one of a trade not known, who may not choose SHARE. */
    private static void nobodyAnswersForTwo() {
        SonsPurse x = Due.persons(2);
        Due.notes(x, new int[][] {{0, 8, 1, 0, 0}, {0, 1, 1, 0, 60}, {0, 1, 1, 1, 60}, {0, 4, 1, 1, 60}, {0, 4, 1, 0, 60}, {0, 4, 1, 0, 60},
            {2, 0, 1, 0, 0}, {3, 0, 1, -1, 0}});
        for (int k = 0; k < 3; k++) x.line(k);
        restsAre(x, 1, 0, 2, 4, 6);
        // answered for: the first takes 60 of 120 by PURSE, and all that is left where one of the others shares
        restsAre(x, 2, 6);
        restsAre(x, 3, 0, 2, 4, 6);
    }

    /** One for whom nobody answers takes nothing from another person's choices. */
    private static void nobodyAnswersForOne() {
        SonsPurse x = Due.persons(3);
        Due.notes(x, new int[][] {{0, 0, 1, 0, 0}, {0, 8, 1, 0, 0}, {0, 8, 2, 0, 0}, {0, 1, 1, 0, 60}, {0, 1, 2, 0, 60}, {0, 4, 2, 0, 60},
            {0, 4, 1, 0, 60}, {0, 4, 1, 0, 60}});
        for (int k = 0; k < 3; k++) x.line(k);
        // of the answered two each shares, as if they were alone; the first chooses either
        restsAre(x, 0, 6, 7);
    }

    /** He who was holder once answers, but the purse is closed to all who ask it. */
    private static void sharesOfClosed() {
        SonsPurse x = Due.persons(2);
        Due.notes(x, new int[][] {{0, 0, 1, 0, 0}, {0, 8, 1, 0, 0}, {0, 1, 1, 0, 60}, {0, 4, 1, 0, 60}, {1, 14, 1, 2, 0}});
        x.line(0);
        restsAre(x, 0, 0, 1);
        restsAre(x, 1, 1);
    }
}
