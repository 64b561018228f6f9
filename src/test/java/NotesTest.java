/** Promises 1 to 4, 28 to 33: persons, notes, doubts, and what there is. */
public final class NotesTest {
    private static final Due due = new Due();

    public static void main(String[] args) {
        newObject();
        persons();
        wellTold();
        badNotes();
        hands();
        purses();
        deals();
        posts();
        order();
        fullNotes();
        doubts();
        fractionKept();
        images();
        counts();
        digests();
        due.end();
    }

    private static void newObject() {
        SonsPurse x = new SonsPurse();
        for (int k = 0; k < 6; k++) due.is("new: count(" + k + ")", x.count(k), 0);
        due.fraction("new", x, 0, 1);
        due.is("new: fault(0)", x.fault(0), 1);
        due.is("new: from(0)", x.from(0), -3);
        long h = 491;
        for (int v : new int[] {0, 0, 0, 0, 0, 0, 0, 0, 1}) h = 31 * h + v;
        due.is("new: digest()", x.digest(), h);
    }

    private static void persons() {
        SonsPurse x = new SonsPurse();
        for (int k = 0; k < 10; k++) due.is("person()", x.person(), k);
        due.is("an eleventh person()", x.person(), -4);
        due.is("a person is free", x.holder(9, 0), -1);
    }

    /** What is not named in a note's kind is 0, whatever is passed. */
    private static void wellTold() {
        SonsPurse x = Due.persons(3);
        due.is("hand", x.note(3, 0, 1, 0, 77), 0);
        due.is("give", x.note(3, 1, 1, 3, 1000), 1);
        due.is("deal", x.note(4, 4, 1, 3, 1), 2);
        due.is("order", x.note(4, 5, 0, 77, -9), 3);
        due.is("use", x.note(4, 9, 0, 99, 1), 4);
        due.is("end", x.note(4, 14, 1, 2, 5000), 5);
        due.is("hand to nobody", x.note(4, 0, 2, -1, 1), 6);
        int[][] told = {{3, 0, 1, 0, 0, 0}, {3, 1, 1, 3, 1000, 0}, {4, 4, 1, 3, 1, 0}, {4, 5, 0, 0, 0, 0},
            {4, 9, 0, 0, 1, 0}, {4, 14, 1, 2, 0, 0}, {4, 0, 2, -1, 0, 0}};
        for (int n = 0; n < told.length; n++) {
            for (int k = 0; k < 6; k++) due.is("told(" + n + ", " + k + ")", x.told(n, k), told[n][k]);
        }
        due.is("told(7, 0)", x.told(7, 0), -10);
        due.is("told(-1, 0)", x.told(-1, 0), -10);
        due.is("told(0, -1)", x.told(0, -1), -10);
        due.is("told(0, 6)", x.told(0, 6), -10);
    }

    private static void badNotes() {
        SonsPurse x = Due.persons(2);
        x.note(5, 4, 0, 0, 10);
        int[][] bad = {{4, 0, 1, 0, 0}, {-1, 0, 1, 0, 0}, {1000, 0, 1, 0, 0}, {5, -1, 1, 0, 1}, {5, 15, 1, 0, 1}, {5, 0, 2, 0, 0},
            {5, 0, -1, 0, 0}, {5, 0, 0, 2, 0}, {5, 0, 0, -2, 0}, {5, 1, 2, 0, 1}, {5, 1, 0, -1, 1}, {5, 1, 0, 4, 1},
            {5, 1, 0, 0, 0}, {5, 2, 0, 0, 1001}, {5, 3, 0, 4, 1}, {5, 4, 0, 4, 1}, {5, 4, 0, 0, 0}, {5, 5, 1, 0, 0},
            {5, 5, -1, 0, 0}, {5, 6, 0, 4, 0}, {5, 7, 0, -1, 0}, {5, 8, 2, 0, 0}, {5, 9, 1, 0, 1}, {5, 9, 0, 0, 0},
            {5, 10, 0, 0, 1001}, {5, 11, 0, 0, 1}, {5, 11, 0, 2, 1}, {5, 12, 1, 1, 1}, {5, 13, 0, 0, 0}, {5, 14, 0, 3, 0},
            {5, 14, 0, -1, 0}, {Integer.MIN_VALUE, 0, 0, 0, 0}, {5, Integer.MAX_VALUE, 0, 0, 0}, {5, 4, Integer.MIN_VALUE, 0, 1}};
        long before = x.digest();
        for (int[] n : bad) due.is("note" + java.util.Arrays.toString(n), x.note(n[0], n[1], n[2], n[3], n[4]), -2);
        due.is("bad notes change nothing", x.digest(), before);
    }

    private static void hands() {
        SonsPurse x = Due.persons(4);
        due.is("into his own hand", x.note(0, 0, 0, 0, 0), -3);
        x.note(0, 0, 1, 0, 0);
        x.note(0, 0, 2, 1, 0);
        due.is("into one's hand by one step", x.note(0, 0, 0, 1, 0), -3);
        due.is("into one's hand by two steps", x.note(0, 0, 0, 2, 0), -3);
        due.is("once more into the same hand", x.note(0, 0, 2, 1, 0), 2);
        due.is("over to another", x.note(7, 0, 1, 3, 0), 3);
        due.is("now he may", x.note(7, 0, 0, 2, 0), 4);
        due.is("holder(1, 6)", x.holder(1, 6), 0);
        due.is("holder(1, 7)", x.holder(1, 7), 3);
        due.is("end of a free one", x.note(7, 14, 3, 0, 0), -3);
        due.is("end", x.note(8, 14, 1, 0, 0), 5);
        due.is("end once more", x.note(8, 14, 1, 0, 0), -3);
        due.is("holder(1, 8)", x.holder(1, 8), -1);
        due.is("who is in the hand of an ended one stays there", x.holder(2, 8), 1);
        due.is("free to be handed to none", x.note(8, 0, 1, -1, 0), 6);
        due.is("holder of nobody", x.holder(4, 0), -10);
        due.is("holder(-1, 0)", x.holder(-1, 0), -10);
        due.is("holder(0, 1000)", x.holder(0, 1000), -10);
        due.is("holder(0, -1)", x.holder(0, -1), -10);
    }

    private static void purses() {
        SonsPurse x = Due.persons(2);
        due.is("take of nothing", x.note(0, 2, 0, 0, 1), -3);
        x.note(0, 1, 0, 0, 50);
        due.is("take of another trade", x.note(0, 2, 0, 1, 1), -3);
        due.is("take more", x.note(0, 2, 0, 0, 51), -3);
        due.is("hide more", x.note(0, 3, 0, 0, 51), -3);
        due.is("take some", x.note(0, 2, 0, 0, 20), 1);
        due.is("hide all that is left", x.note(0, 3, 0, 0, 30), 2);
        due.is("nothing is left", x.note(0, 3, 0, 0, 1), -3);
        due.is("settle nothing", x.note(0, 12, 0, 1, 1), -3);
        x.note(0, 11, 0, 1, 10);
        due.is("he is not owed", x.note(0, 12, 1, 0, 1), -3);
        due.is("settle more", x.note(0, 12, 0, 1, 11), -3);
        due.is("settle", x.note(0, 12, 0, 1, 10), 4);
    }

    private static void deals() {
        SonsPurse x = Due.persons(2);
        x.note(0, 4, 0, 0, 100);
        x.note(0, 4, 1, 0, 100);
        due.is("pay more", x.note(0, 13, 0, 0, 101), -3);
        due.is("pay", x.note(0, 13, 0, 0, 60), 2);
        due.is("pay more than is owed", x.note(0, 13, 0, 0, 41), -3);
        due.is("pay the rest", x.note(0, 13, 0, 0, 40), 3);
        due.is("order", x.note(0, 5, 0, 0, 0), 4);
        due.is("order once more", x.note(0, 5, 0, 0, 0), -3);
        due.is("order the other", x.note(0, 5, 1, 0, 0), 5);
        due.is("lose nothing", x.note(0, 10, 1, 0, 1), -3);
        due.is("use more than the deal", x.note(0, 9, 1, 0, 101), -3);
        due.is("use", x.note(0, 9, 1, 0, 70), 6);
        due.is("use more than the deal in all", x.note(0, 9, 1, 0, 31), -3);
        due.is("lose more", x.note(0, 10, 1, 0, 71), -3);
        due.is("lose", x.note(0, 10, 1, 0, 30), 7);
        due.is("lose more than is there", x.note(0, 10, 1, 0, 41), -3);
        due.is("what is lost came in all the same", x.note(0, 9, 1, 0, 31), -3);
        due.is("use the rest", x.note(0, 9, 1, 0, 30), 8);
    }

    private static void posts() {
        SonsPurse x = Due.persons(2);
        due.is("unpost", x.note(0, 7, 0, 1, 0), -3);
        due.is("post", x.note(0, 6, 0, 1, 0), 0);
        due.is("post once more", x.note(0, 6, 0, 1, 0), -3);
        due.is("post of another trade", x.note(0, 6, 0, 2, 0), 1);
        due.is("unpost it", x.note(0, 7, 0, 1, 0), 2);
        due.is("post it again", x.note(0, 6, 0, 1, 0), 3);
        due.is("know", x.note(0, 8, 0, 1, 0), 4);
        due.is("know once more", x.note(0, 8, 0, 1, 0), -3);
        due.is("know of another", x.note(0, 8, 1, 1, 0), 5);
    }

    private static void order() {
        SonsPurse x = Due.persons(2);
        due.is("BAD ahead of NO", x.note(0, 2, 0, 0, 1001), -2);
        for (int k = 0; k < 60; k++) x.note(0, 1, 0, 0, 1);
        due.is("NO ahead of FULL", x.note(0, 2, 0, 1, 1), -3);
        due.is("BAD ahead of FULL", x.note(0, 1, 0, 4, 1), -2);
        due.is("FULL", x.note(0, 1, 0, 0, 1), -4);
    }

    private static void fullNotes() {
        SonsPurse x = Due.persons(1);
        for (int k = 0; k < 60; k++) due.is("note", x.note(k, 4, 0, 0, 1), k);
        due.is("a note too many", x.note(60, 4, 0, 0, 1), -4);
        due.is("count(2)", x.count(2), 60);
        due.is("the last deal", x.owed(59, 59), 1);
    }

    private static void doubts() {
        SonsPurse x = Due.persons(3);
        Due.notes(x, new int[][] {{0, 0, 1, 0, 0}, {0, 1, 1, 0, 9}, {0, 2, 1, 0, 1}, {0, 3, 1, 0, 1}, {0, 4, 1, 0, 9}, {0, 5, 0, 0, 0},
            {0, 6, 1, 0, 0}, {0, 7, 1, 0, 0}, {0, 8, 1, 0, 0}, {0, 9, 0, 0, 2}, {0, 10, 0, 0, 1}, {0, 11, 1, 0, 2}, {0, 12, 1, 0, 1},
            {0, 13, 0, 0, 1}, {0, 14, 1, 0, 0}});
        for (int n = 0; n < 15; n++) {
            boolean may = n != 0 && n != 4 && n != 14;
            due.is("doubt of kind " + n, x.doubt(n, true), may ? 1 : -2);
            due.is("told", x.told(n, 5), may ? 1 : 0);
            due.is("doubt once more", x.doubt(n, true), may ? -3 : -2);
            due.is("no doubt of kind " + n, x.doubt(n, false), may ? 1 : -2);
            due.is("no doubt once more", x.doubt(n, false), may ? -3 : -2);
        }
        for (int n = 1; n < 6; n += 1) if (n != 4) x.doubt(n, true);
        due.is("a fifth", x.doubt(6, true), 1);
        due.is("a sixth", x.doubt(7, true), -4);
        due.is("NO ahead of FULL", x.doubt(6, true), -3);
        due.is("BAD ahead of FULL", x.doubt(0, true), -2);
        due.is("count(3)", x.count(3), 5);
        due.is("doubt(15)", x.doubt(15, true), -2);
        due.is("doubt(-1)", x.doubt(-1, false), -2);
    }

    private static void fractionKept() {
        SonsPurse x = Due.persons(2);
        Due.notes(x, new int[][] {{0, 0, 1, 0, 0}, {0, 8, 1, 0, 0}, {0, 1, 1, 0, 4}, {0, 11, 1, 0, 2}, {0, 4, 1, 0, 10}});
        due.is("ask", x.ask(0, 3, 0), 1);
        due.fraction("4 by 10 of 12 in lowest terms", x, 10, 3);
        due.is("part(-1)", x.part(-1), -1);
        due.is("part(2)", x.part(2), -1);
        x.ask(0, 4, 0);
        x.ask(1, 0, 0);
        x.best(0, 0);
        due.fraction("refused asks leave it", x, 10, 3);
        x.image(0);
        x.ask(0, 1, 0);
        due.fraction("nothing is 0 by 1", x, 0, 1);
        x.ask(0, 2, 0);
        x.from(0);
        due.fraction("an image does not keep it", x, 2, 1);
    }

    private static void images() {
        SonsPurse x = Due.persons(2);
        Due.notes(x, new int[][] {{0, 0, 1, 0, 0}, {4, 1, 1, 0, 9}, {4, 4, 1, 0, 9}});
        Due.write(x, 0, "g+1");
        x.line(0);
        x.doubt(1, true);
        long first = x.digest();
        due.is("from(1)", x.from(1), -3);
        due.is("image(0)", x.image(0), 1);
        x.person();
        x.note(9, 4, 2, 0, 9);
        x.line(1);
        x.doubt(1, false);
        Due.write(x, 0, "7");
        Due.write(x, 1, "8");
        Due.type(x, "abc");
        long second = x.digest();
        due.is("image(1)", x.image(1), 1);
        due.is("from(0)", x.from(0), 1);
        due.is("as at first", x.digest(), first);
        due.is("its law is worked again", x.net(1, 0, 4), 10);
        due.is("THE TEXT is not of an image", x.count(5), 3);
        due.is("an earlier day again", x.note(5, 4, 1, 0, 9), 3);
        due.is("from(1)", x.from(1), 1);
        due.is("as then", x.digest(), second);
        due.is("its law", x.net(1, 0, 4), 7);
        due.is("the image is kept on", x.from(0) + x.from(0), 2);
        due.is("as at first again", x.digest(), first);
        due.is("image(0) anew", x.image(0), 1);
        x.note(5, 1, 1, 0, 1);
        x.doubt(3, true);
        x.from(0);
        x.note(5, 1, 1, 0, 1);
        due.is("a new note is not doubted", x.told(3, 5) + 10 * x.count(3), 10);
        int[] bad = {-1, 2, Integer.MIN_VALUE, Integer.MAX_VALUE};
        for (int i : bad) due.is("image(" + i + ")", x.image(i), -2);
        for (int i : bad) due.is("from(" + i + ")", x.from(i), -2);
    }

    private static void counts() {
        SonsPurse x = Due.persons(2);
        Due.notes(x, new int[][] {{0, 1, 1, 0, 9}, {0, 4, 1, 0, 9}, {0, 4, 1, 0, 9}, {0, 4, 1, 0, 9}});
        x.doubt(0, true);
        x.line(2);
        x.line(0);
        x.type(0, 7);
        int[] counts = {2, 4, 3, 1, 2, 7, -2};
        for (int k = 0; k < counts.length; k++) due.is("count(" + k + ")", x.count(k), counts[k]);
        due.is("count(-1)", x.count(-1), -2);
    }

    private static void digests() {
        SonsPurse x = Due.persons(2);
        Due.notes(x, new int[][] {{1, 0, 1, 0, 0}, {2, 1, 1, 3, 40}, {3, 4, 1, 2, 30}});
        x.doubt(1, true);
        x.line(0);
        Due.write(x, 1, "h+7");
        x.ask(0, 2, 3);
        long h = 491;
        int[] row = {2, 3, 1, 1, 1, 1, 0, 1, 0, 0, 0, 2, 1, 1, 3, 40, 1, 3, 4, 1, 2, 30, 0, 0, 3, 'h', '+', '7', 0,
            -1, 0, 40, 7, 0, 40, 40, 7, 30, 1};
        for (int v : row) h = 31 * h + v;
        due.is("digest()", x.digest(), h);
    }
}
