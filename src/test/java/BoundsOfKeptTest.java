/** Promises 28 to 33 at their bounds: the fraction, notes told, images, counts, the digest. What the document says stands ahead of each test. */
public final class BoundsOfKeptTest extends Kinds {
    private static final Due due = new Due();
    private static final String[] LAWS = {padded("g+s*2-o-w+(h>0)*h"), padded("(g<99|s=7)*500+w")};

    public static void main(String[] args) {
        partsRefused();
        fractionAtFirst();
        fractionOfNothing();
        fractionIsKept();
        toldRefused();
        toldDoubted();
        imagesRefused();
        noneWasKept();
        imageOfNothing();
        imagesKeepAll();
        imagesAreKeptOn();
        imagesKeepNoImages();
        imagesKeepNoText();
        imagesKeepNoFraction();
        imagesKeepLaws();
        imagesKeepDays();
        countsRefused();
        countsAtMost();
        digestOfNothing();
        digestOfAll();
        digestOfDay999();
        digestOfTheFraction();
        digestWithoutText();
        due.end();
    }

    private static String padded(String law) {
        return law + " ".repeat(50 - law.length());
    }

    private static void fraction(SonsPurse x, long above, long below) {
        due.fraction("THE FRACTION", x, above, below);
    }

    /** part: "above (0), below (1). BAD: -1." */
    private static void partsRefused() {
        SonsPurse x = house(due);
        x.ask(0, WHOLE, 5);
        for (int what : new int[] {-1, 2, MIN, MAX}) due.refuses("part", x, -1, () -> x.part(what));
        fraction(x, 1000, 1);
    }

    /** "THE FRACTION is 0 by 1 at first" */
    private static void fractionAtFirst() {
        SonsPurse x = new SonsPurse();
        fraction(x, 0, 1);
        SonsPurse y = house(due);
        fraction(y, 0, 1);
    }

    /** "lowest terms, below above 0": 0 is 0 by 1, also where it is told by 0, or by a number of which nothing is had. */
    private static void fractionOfNothing() {
        SonsPurse x = Due.persons(2);
        due.comes(x, new int[][] {{0, HAND, 1, 0, 0}, {0, KNOW, 1, 0, 0}, {0, DEAL, 1, 0, 30}, {0, OWE, 1, 0, 7}, {1, GIVE, 1, 0, 5}, {2, PAY, 0, 0, 30},
            {3, SETTLE, 1, 0, 7}, {4, HAND, 1, NONE, 0}});
        long[][] due1 = {{0, 1}, {150, 37}, {0, 1}, {0, 1}, {0, 1}};
        for (int day = 0; day < 5; day++) {
            due.is("ask", x.ask(0, SHARE, day), 1);
            fraction(x, due1[day][0], due1[day][1]);
            due.is("sure", x.sure(0, SHARE, 1, day), 1);
            fraction(x, due1[day][0], due1[day][1]);
        }
    }

    /** ask and sure alone tell another; each other call leaves it. */
    private static void fractionIsKept() {
        SonsPurse x = house(due);
        x.ask(2, PURSE, 5);
        fraction(x, 10, 1);
        x.best(0, 5);
        x.hangs(0, WHOLE, 5);
        x.parted(5);
        x.line(0);
        x.rests(0, 5);
        x.orders(0, 1, 5);
        x.served(0, 5);
        x.wise(1, 5, 5);
        x.note(6, PAY, 2, 0, 5);
        x.doubt(1, true);
        x.image(0);
        x.unline();
        x.read();
        fraction(x, 10, 1);
        x.sure(2, PURSE, 1, 6);
        fraction(x, 5, 1);
    }

    /** told: "DAY (0), KIND, a, b, v (4), DOUBTED (5: 1, 0). BAD: -10." */
    private static void toldRefused() {
        SonsPurse x = house(due);
        for (int n : new int[] {-1, 12, 59, 60, MIN, MAX}) due.refuses("told", x, -10, () -> x.told(n, 0), () -> x.told(n, 5));
        for (int what : new int[] {-1, 6, MIN, MAX}) due.refuses("told", x, -10, () -> x.told(0, what), () -> x.told(11, what));
        int[] last = {5, KNOW, 2, 0, 0, 0};
        for (int k = 0; k < 6; k++) due.is("told(11, " + k + ")", x.told(11, k), last[k]);
        due.comes(x, new int[] {999, HAND, 2, NONE, 0});
        int[] next = {999, HAND, 2, NONE, 0, 0};
        for (int k = 0; k < 6; k++) due.is("told(12, " + k + ")", x.told(12, k), next[k]);
        SonsPurse none = new SonsPurse();
        due.refuses("told of none", none, -10, () -> none.told(0, 0), () -> none.told(-1, 0));
    }

    /** "DOUBTED (5: 1, 0)" */
    private static void toldDoubted() {
        SonsPurse x = house(due);
        due.is("told", x.told(1, 5), 0);
        x.doubt(1, true);
        due.is("told", x.told(1, 5), 1);
        due.is("of the one ahead", x.told(0, 5), 0);
        due.is("of the one behind", x.told(2, 5), 0);
        x.doubt(1, false);
        due.is("told", x.told(1, 5), 0);
    }

    /** image, from: "BAD" */
    private static void imagesRefused() {
        SonsPurse x = house(due);
        for (int i : new int[] {-1, 2, MIN, MAX}) due.refuses("image", x, BAD, () -> x.image(i), () -> x.from(i));
        due.refuses("from", x, NO, () -> x.from(0), () -> x.from(1));
    }

    /** from: "NO: none was kept." For each of the two. */
    private static void noneWasKept() {
        for (int i = 0; i < 2; i++) {
            SonsPurse x = house(due);
            int one = i;
            int other = 1 - i;
            due.refuses("from", x, NO, () -> x.from(0), () -> x.from(1));
            due.is("image", x.image(one), 1);
            due.refuses("from", x, NO, () -> x.from(other));
            due.is("from", x.from(one), 1);
            due.refuses("from", x, NO, () -> x.from(other));
        }
    }

    /** An IMAGE of an object in which nobody is. */
    private static void imageOfNothing() {
        SonsPurse x = new SonsPurse();
        long nothing = x.digest();
        due.is("image", x.image(1), 1);
        for (int p = 0; p < 10; p++) x.person();
        due.comes(x, new int[][] {{9, HAND, 1, 0, 0}, {9, GIVE, 1, 0, 5}, {9, DEAL, 1, 0, 5}});
        x.doubt(1, true);
        x.line(0);
        Due.write(x, 0, "g");
        due.is("from", x.from(1), 1);
        due.is("digest", x.digest(), nothing);
        for (int k = 0; k < 5; k++) due.is("count(" + k + ")", x.count(k), 0);
        due.is("person", x.person(), 0);
        due.is("fault", x.fault(0), 1);
    }

    /** As much as there can be of all but the laws. */
    private static SonsPurse fullOfNotes() {
        SonsPurse x = Due.persons(10);
        for (int p = 1; p < 10; p++) due.comes(x, new int[] {p, HAND, p, p - 1, 0});
        for (int k = 0; k < 45; k++) due.comes(x, new int[] {20 + k, k % 3 == 0 ? DEAL : GIVE, k % 10, k % 4, 1000 - k});
        for (int k = 0; k < 6; k++) due.comes(x, k % 2 == 0 ? new int[] {999, USE, k, 0, 7} : new int[] {999, END, k, k % 3, 0});
        for (int n : new int[] {10, 11, 13, 14, 16}) x.doubt(n, true);
        for (int d : new int[] {14, 0, 7, 3, 9, 5}) x.line(d);
        return x;
    }

    /** As much as there can be of all. */
    private static SonsPurse full() {
        SonsPurse x = fullOfNotes();
        for (int law = 0; law < 2; law++) Due.write(x, law, LAWS[law]);
        return x;
    }

    /** "IMAGES 0, 1 keep all but them ..; it goes on from one." As much as there can be, and nothing, one over the other. */
    private static void imagesKeepAll() {
        for (int i = 0; i < 2; i++) {
            SonsPurse x = full();
            long before = x.digest();
            due.is("image", x.image(i), 1);
            x.unline();
            x.line(1);
            x.erase(0);
            x.erase(1);
            for (int n : new int[] {10, 11, 13, 14, 16}) x.doubt(n, false);
            x.doubt(17, true);
            due.is("from", x.from(i), 1);
            due.is("digest", x.digest(), before);
            int[] counts = {10, 60, 15, 5, 6};
            for (int k = 0; k < 5; k++) due.is("count(" + k + ")", x.count(k), counts[k]);
            due.refuses("it is full", x, FULL, () -> x.person(), () -> x.note(999, GIVE, 0, 0, 1), () -> x.doubt(17, true), () -> x.write(0, ' '),
                () -> x.write(1, ' '), () -> x.line(1));
            due.refuses("they are in it", x, NO, () -> x.line(14), () -> x.line(5), () -> x.doubt(16, true));
        }
    }

    /** An IMAGE is kept until another one is: from may be called of it again. */
    private static void imagesAreKeptOn() {
        SonsPurse x = house(due);
        x.image(0);
        long first = x.digest();
        due.comes(x, new int[] {6, GIVE, 1, 0, 9});
        x.image(1);
        long second = x.digest();
        for (int k = 0; k < 3; k++) {
            due.comes(x, new int[] {7, GIVE, 1, 0, k + 1});
            due.is("from(0)", x.from(0), 1);
            due.is("as at first", x.digest(), first);
            due.comes(x, new int[] {8, GIVE, 2, 0, k + 1});
            due.is("from(1)", x.from(1), 1);
            due.is("as then", x.digest(), second);
        }
        x.from(0);
        due.is("image(1) anew", x.image(1), 1);
        due.comes(x, new int[] {6, GIVE, 1, 0, 9});
        due.is("from(1)", x.from(1), 1);
        due.is("as at first", x.digest(), first);
    }

    /** "all but them": an IMAGE keeps no IMAGES. */
    private static void imagesKeepNoImages() {
        SonsPurse x = house(due);
        x.image(0);
        due.comes(x, new int[] {6, GIVE, 1, 0, 9});
        x.image(1);
        long second = x.digest();
        due.is("from(0)", x.from(0), 1);
        due.is("image 1, made behind image 0, is there", x.from(1), 1);
        due.is("digest", x.digest(), second);
    }

    /** "all but .. THE TEXT": it stays as it is. */
    private static void imagesKeepNoText() {
        SonsPurse x = house(due);
        x.type(0x35, 1);
        x.image(0);
        Due.type(x, " give 1 0 3;");
        due.is("from", x.from(0), 1);
        due.is("count(5)", x.count(5), 13);
        due.is("read", x.read(), 1);
        x.image(1);
        due.is("from", x.from(0), 1);
        due.is("count(5)", x.count(5), 0);
        due.is("read", x.read(), 0);
        due.is("count(1)", x.count(1), 12);
    }

    /** "all but .. THE FRACTION": it stays as it is. */
    private static void imagesKeepNoFraction() {
        SonsPurse x = house(due);
        x.ask(2, PURSE, 5);
        x.image(0);
        x.ask(0, WHOLE, 5);
        due.is("from", x.from(0), 1);
        fraction(x, 1000, 1);
    }

    /** The laws go on from where they were: their FAULT, what they tell, and where the next character comes. */
    private static void imagesKeepLaws() {
        SonsPurse x = house(due);
        Due.write(x, 0, "g+");
        Due.write(x, 1, "7");
        x.image(0);
        Due.write(x, 0, "1");
        x.erase(1);
        due.is("net", x.net(1, 0, 5), 1);
        x.from(0);
        due.is("fault(0)", x.fault(0), 21);
        due.is("fault(1)", x.fault(1), NONE);
        due.is("net", x.net(1, 1, 5), 7);
        due.is("write(0)", x.write(0, '5'), 3);
        due.is("net", x.net(1, 0, 5), 1905);
        due.is("write(1)", x.write(1, '0'), 2);
        due.is("net", x.net(1, 1, 5), 70);
    }

    /** "no earlier than the one ahead": ahead in what it goes on from. A NOTE that comes then is not DOUBTED. */
    private static void imagesKeepDays() {
        SonsPurse x = house(due);
        x.image(0);
        due.comes(x, new int[][] {{900, GIVE, 1, 0, 1}, {900, GIVE, 1, 0, 2}});
        x.doubt(12, true);
        x.doubt(13, true);
        due.refusesNotes(x, BAD, new int[] {899, GIVE, 1, 0, 1});
        x.from(0);
        due.refusesNotes(x, BAD, new int[] {4, GIVE, 1, 0, 1});
        due.comes(x, new int[][] {{5, GIVE, 1, 0, 1}, {5, GIVE, 1, 0, 2}});
        due.is("told", x.told(12, 5), 0);
        due.is("told", x.told(13, 5), 0);
        due.is("count(3)", x.count(3), 0);
        due.is("doubt", x.doubt(12, true), 1);
    }

    /** count: "BAD." */
    private static void countsRefused() {
        SonsPurse x = house(due);
        for (int what : new int[] {-1, 6, MIN, MAX}) due.refuses("count", x, BAD, () -> x.count(what));
    }

    /** "0 PERSONS, 1 NOTES, 2 DEALS, 3 DOUBTED, 4 in THE LINE, 5 bytes of THE TEXT": the most of each. */
    private static void countsAtMost() {
        SonsPurse x = full();
        for (int k = 0; k < 37; k++) x.type(0, 8);
        x.type(0, 4);
        int[] counts = {10, 60, 15, 5, 6, 300};
        for (int k = 0; k < 6; k++) due.is("count(" + k + ")", x.count(k), counts[k]);
        SonsPurse y = Due.persons(1);
        for (int k = 0; k < 60; k++) due.comes(y, new int[] {k, DEAL, 0, 0, 1});
        due.is("60 deals", y.count(2), 60);
        due.is("line(59)", y.line(59), 1);
        due.is("line(60)", y.line(60), BAD);
        due.is("owed(59)", y.owed(59, 59), 1);
    }

    /** The digest told by the other calls, the notes of one that has the same; the laws and THE LINE by what was written. */
    private static long digest(SonsPurse x, SonsPurse notes, String[] laws, int... line) {
        long h = 491;
        for (int k = 0; k < 5; k++) h = 31 * h + x.count(k);
        int many = x.count(1);
        for (int n = 0; n < many; n++) {
            for (int k = 0; k < 6; k++) h = 31 * h + notes.told(n, k);
        }
        for (String law : laws) {
            h = 31 * h + law.length();
            for (char c : law.toCharArray()) h = 31 * h + c;
        }
        for (int d : line) h = 31 * h + d;
        int persons = x.count(0);
        for (int p = 0; p < persons; p++) {
            h = 31 * h + x.holder(p, 999);
            h = 31 * h + x.in(p, 4, 999);
            h = 31 * h + x.net(p, 0, 999);
            h = 31 * h + x.net(p, 1, 999);
        }
        h = 31 * h + x.part(0);
        return 31 * h + x.part(1);
    }

    private static long digest(SonsPurse x) {
        return digest(x, x, new String[] {"", ""});
    }

    /** "h = 491; then h = 31 h + v": five counts of 0, two empty laws, 0 by 1. */
    private static void digestOfNothing() {
        long h = 491;
        for (int k = 0; k < 8; k++) h = 31 * h;
        due.is("digest", new SonsPurse().digest(), 31 * h + 1);
        SonsPurse x = Due.persons(1);
        due.is("digest of one person", x.digest(), digest(x));
    }

    /** As much as there can be of all: h wraps. */
    private static void digestOfAll() {
        SonsPurse x = full();
        due.is("digest", x.digest(), digest(x, fullOfNotes(), LAWS, 14, 0, 7, 3, 9, 5));
        x.unline();
        due.is("without a line", x.digest(), digest(x, fullOfNotes(), LAWS));
        x.erase(0);
        due.is("without a law", x.digest(), digest(x, fullOfNotes(), new String[] {"", LAWS[1]}));
    }

    /** "on DAY 999": a note of the last day is in it. */
    private static void digestOfDay999() {
        SonsPurse x = house(due);
        due.comes(x, new int[][] {{998, GIVE, 1, 0, 1}, {999, GIVE, 1, 0, 2}, {999, END, 1, 0, 0}});
        due.is("in", x.in(1, 4, 999), 1903);
        due.is("holder", x.holder(1, 999), NONE);
        due.is("digest", x.digest(), digest(x));
    }

    /** "THE FRACTION": above, below. */
    private static void digestOfTheFraction() {
        SonsPurse x = Due.persons(2);
        due.comes(x, new int[][] {{0, HAND, 1, 0, 0}, {0, KNOW, 1, 0, 0}, {0, DEAL, 1, 0, 30}, {0, OWE, 1, 0, 7}, {0, GIVE, 1, 0, 5}});
        x.ask(0, SHARE, 0);
        fraction(x, 150, 37);
        due.is("digest", x.digest(), digest(x));
    }

    /** THE TEXT and IMAGES are not in it. */
    private static void digestWithoutText() {
        SonsPurse x = house(due);
        long before = x.digest();
        x.type(5, 8);
        due.is("digest", x.digest(), before);
        x.image(0);
        due.is("digest", x.digest(), before);
        x.clear();
        x.from(0);
        due.is("digest", x.digest(), before);
    }
}
