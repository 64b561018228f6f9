/** Promises 5 to 7 at their bounds: THE TEXT, its bytes, tokens and items. What the document says stands ahead of each test. */
public final class BoundsOfTextsTest extends Kinds {
    private static final Due due = new Due();
    /** Tokens that stand for each kind: a day, its word, its numbers and the end. The same notes as in COMES. */
    private static final String[] ITEMS = {"5 hand 2 0 ;", "5 give 1 0 5 ;", "5 take 1 0 5 ;", "5 hide 1 0 5 ;", "5 deal 1 0 5 ;", "5 order 1 ;",
        "5 post 1 0 ;", "5 unpost 2 0 ;", "5 know 1 0 ;", "5 use 1 5 ;", "5 lose 0 5 ;", "5 owe 1 2 5 ;", "5 settle 1 2 5 ;", "5 pay 1 5 ;",
        "5 end 1 0 ;"};
    private static final String GIFT = "5give2 2 1;";

    public static void main(String[] args) {
        numbersOfBytes();
        lowestBytes();
        threeHundredBytes();
        clears();
        emptyText();
        firstNote();
        itemOfEachKind();
        nobody();
        wrongTokens();
        tooEarly();
        wordsThatAreNone();
        figures();
        bytesThatBeginNone();
        bytesBehindAWord();
        blanks();
        tokensWithoutBlanks();
        fullText();
        fullTextTooEarly();
        whatWasThereIsGone();
        firstRefused();
        refusedByBadNoFull();
        inOrderOfItems();
        noneOfThemComes();
        faultFirst();
        textIsEmptyThen();
        due.end();
    }

    private static void reads(String text, long want) {
        SonsPurse x = house(due);
        Due.type(x, text);
        if (want < 0) due.refuses("read() of \"" + text + "\"", x, want, () -> x.read(), () -> x.read());
        else due.is("read() of \"" + text + "\"", x.read(), want);
    }

    /** The place of the first byte of what can not stand there. */
    private static void faults(String text, int place) {
        reads(text, -10 - place);
    }

    /** "The lowest n (1 .. 8) bytes of v": too few, too many. */
    private static void numbersOfBytes() {
        SonsPurse x = new SonsPurse();
        due.refuses("type", x, BAD, () -> x.type(0, 0), () -> x.type(0, 9), () -> x.type(0, -1), () -> x.type(0, MIN), () -> x.type(0, MAX));
        due.is("type, 1", x.type(-1, 1), 1);
        due.is("type, 8", x.type(Long.MIN_VALUE, 8), 9);
        due.is("type, 8", x.type(Long.MAX_VALUE, 8), 17);
    }

    /** "The lowest n (1 .. 8) bytes of v, the highest of them first": what is above them is not looked at. */
    private static void lowestBytes() {
        for (int n = 1; n <= 8; n++) {
            SonsPurse x = house(due);
            StringBuilder text = new StringBuilder("12 hand 2 0;");
            while (text.length() % n != 0) text.append(' ');
            for (int at = 0; at < text.length(); at += n) {
                long v = -1;
                for (int k = 0; k < n; k++) v = v << 8 | text.charAt(at + k);
                due.is("type", x.type(v, n), at + n);
            }
            due.is("read() of what was typed by " + n, x.read(), 1);
            due.is("its day", x.told(12, DAY_AT), 12);
        }
        SonsPurse y = house(due);
        y.type(0x80, 1);
        due.is("a byte above 127", y.read(), -10);
        y.clear();
        y.type(' ' + 256, 1);
        due.is("a blank by its lowest byte", y.read(), 0);
    }

    /** "300 bytes at most": FULL, also where only a part of them had place. */
    private static void threeHundredBytes() {
        SonsPurse x = new SonsPurse();
        for (int k = 1; k <= 37; k++) due.is("type, 8", x.type(0x2020202020202020L, 8), 8 * k);
        due.refuses("type of more than 300", x, FULL, () -> x.type(0, 5), () -> x.type(0, 8));
        due.refuses("BAD ahead of FULL", x, BAD, () -> x.type(0, 9));
        due.is("type, 3", x.type(0x202020, 3), 299);
        due.refuses("type of more than 300", x, FULL, () -> x.type(0, 2));
        due.is("type, 1", x.type(' ', 1), 300);
        due.refuses("type of more than 300", x, FULL, () -> x.type(0, 1), () -> x.type(0, 8));
        due.refuses("BAD ahead of FULL", x, BAD, () -> x.type(0, 0), () -> x.type(0, 9));
        due.is("all were blanks", x.read(), 0);
        due.is("type again", x.type(0, 8), 8);
    }

    /** "THE TEXT is empty: how many it had." */
    private static void clears() {
        SonsPurse x = new SonsPurse();
        due.is("clear of none", x.clear(), 0);
        for (int k = 0; k < 300; k++) x.type(' ', 1);
        due.is("clear", x.clear(), 300);
        due.is("count(5)", x.count(5), 0);
        due.is("clear again", x.clear(), 0);
        due.is("read", x.read(), 0);
    }

    /** An empty text, and one of blanks, has no ITEMS. */
    private static void emptyText() {
        reads("", 0);
        reads(" ", 0);
        reads("     ", 0);
    }

    /** An ITEM may be the first NOTE of all, and the last of an empty object's 60. */
    private static void firstNote() {
        SonsPurse x = Due.persons(3);
        Due.type(x, GIFT);
        due.is("read", x.read(), 1);
        due.is("in", x.in(2, 2, 5), 1);
        SonsPurse y = Due.persons(3);
        for (int k = 0; k < 40; k++) due.comes(y, new int[] {5, GIVE, 2, 2, 1});
        for (int k = 0; k < 20; k++) Due.type(y, GIFT);
        due.is("read", y.read(), 20);
        due.is("in", y.in(2, 2, 5), 60);
    }

    /** "DAY VERB and numbers": each kind by its word. */
    private static void itemOfEachKind() {
        for (int kind = 0; kind < KINDS; kind++) {
            SonsPurse x = house(due);
            Due.type(x, ITEMS[kind]);
            due.is("read() of " + ITEMS[kind], x.read(), 1);
            for (int k = 0; k < 5; k++) due.is("told(12, " + k + ")", x.told(12, k), COMES[kind][k]);
        }
    }

    /** "hand a b (b may be - : NONE)" */
    private static void nobody() {
        SonsPurse x = house(due);
        Due.type(x, "5 hand 1 -;5hand 1-;");
        due.is("read", x.read(), 2);
        due.is("told(12, 3)", x.told(12, B_AT), NONE);
        due.is("he is free", x.holder(1, 5), NONE);
        faults("5 hand 1 -1;", 10);
        faults("5 hand 1 --;", 10);
        faults("5 hand - 1;", 7);
    }

    private static boolean stands(String token, String wanted, boolean isNobody) {
        if (wanted.equals(";")) return token.equals(";");
        if (Character.isLetter(wanted.charAt(0))) return token.equals("hand");
        return token.equals("7") || isNobody && token.equals("-");
    }

    /** "the place of the first byte of the first TOKEN that can not stand there": at each place of each kind's item. */
    private static void wrongTokens() {
        String[] wrong = {";", "-", "7", "hand", "hund", "Hand", "12345", "?"};
        for (int kind = 0; kind < KINDS; kind++) {
            String[] tokens = ITEMS[kind].split(" ");
            for (int k = 0; k < tokens.length; k++) {
                for (String w : wrong) {
                    if (stands(w, tokens[k], kind == HAND && k == 3)) continue;
                    StringBuilder text = new StringBuilder("5 order 1; ");
                    for (int j = 0; j < k; j++) text.append(tokens[j]).append(' ');
                    int place = text.length();
                    text.append(w);
                    for (int j = k + 1; j < tokens.length; j++) text.append(' ').append(tokens[j]);
                    faults(text.toString(), place);
                }
            }
        }
    }

    /** "the text's length, if it ends too early": behind each token of each kind's item, with a blank behind it and without. */
    private static void tooEarly() {
        for (int kind = 0; kind < KINDS; kind++) {
            String[] tokens = ITEMS[kind].split(" ");
            StringBuilder text = new StringBuilder("5 order 1;");
            for (int k = 0; k < tokens.length - 1; k++) {
                text.append(' ').append(tokens[k]);
                faults(text.toString(), text.length());
                faults(text + "  ", text.length() + 2);
            }
        }
    }

    /** "a word that is none": one too short, one too long, one of other letters, at the place of its first byte, also where it ends the text. */
    private static void wordsThatAreNone() {
        for (String verb : VERBS) {
            faults("5  " + verb.substring(0, verb.length() - 1) + " 1 1 1;", 3);
            faults("5  " + verb + "s 1 1 1;", 3);
            faults("5  " + verb.substring(1) + " 1 1 1;", 3);
            faults("5  " + verb.substring(0, verb.length() - 1), 3);
            faults("5  z" + verb.substring(1), 3);
            faults("5  a" + verb, 3);
        }
        faults("5 a 1;", 2);
        faults("5 z 1;", 2);
    }

    /** "figures (1 to 4 are one number)"; "a fifth figure's number" is at its first byte. */
    private static void figures() {
        reads("0005 give 0002 0002 0001;", 1);
        reads("0999 give 2 2 1000;", 1);
        reads("9999 give 2 2 1;", -1000);
        reads("5 give 9999 2 1;", -1000);
        reads("5 give 2 9999 1;", -1000);
        reads("5 give 2 2 9999;", -1000);
        faults("00005 give 2 2 1;", 0);
        faults("5 give 00002 2 1;", 7);
        faults("5 give 2 00002 1;", 9);
        faults("5 give 2 2 00001;", 11);
        faults("5 give 2 2 10000;", 11);
        faults("5 give 2 2 99999999999999999999999999;", 11);
        faults("5 give 2 2 12345", 11);
        faults("12345", 0);
        faults("1234", 4);
    }

    /** "a byte that begins none": each byte behind an item; digits begin a number, so that the text ends too early then. */
    private static void bytesThatBeginNone() {
        for (int b = 0; b < 256; b++) {
            if (b == ' ') continue;
            SonsPurse x = house(due);
            Due.type(x, GIFT);
            x.type(b, 1);
            int place = b >= '0' && b <= '9' ? 12 : 11;
            due.refuses("read() with a byte " + b, x, -10 - place, () -> x.read());
            SonsPurse y = house(due);
            Due.type(y, "5 give2 2 1");
            y.type(b, 1);
            due.is("read() with a byte " + b + " behind a number", y.read(), b == ';' ? 1 : b >= '0' && b <= '9' ? -22 : -21);
        }
    }

    /** "words of letters a .. z": a letter behind a word makes another of it, each other byte is looked at by itself. */
    private static void bytesBehindAWord() {
        for (int b = 0; b < 256; b++) {
            SonsPurse x = house(due);
            Due.type(x, "5 give");
            x.type(b, 1);
            Due.type(x, " 2 2 1;");
            boolean isLetter = b >= 'a' && b <= 'z';
            boolean isFigure = b >= '0' && b <= '9';
            due.is("read() with a byte " + b + " behind a word", x.read(), b == ' ' ? 1 : isLetter ? -12 : isFigure ? -22 : -16);
        }
    }

    /** "blanks (32) between": any number of them, at the start and the end too. */
    private static void blanks() {
        reads("   5   give   2   2   1   ;   ", 1);
        reads(" 5 end 1 0 ; 5 hand 1 0 ; ", 2);
        faults("5 gi ve 2 2 1;", 2);
        faults("5 give 2 2 1 0;", 13);
        faults("5 0 give 2 2 1;", 2);
        for (char c : new char[] {9, 10, 13, 0, 31, 33, 160}) faults("5" + c + "give 2 2 1;", 1);
    }

    /** Blanks stand between, but need not where a token ends without them. */
    private static void tokensWithoutBlanks() {
        reads("5give2 2 1;6give2 2 1;", 2);
        reads("5hand2-;", 1);
        faults("5give2 21;", 9);
    }

    /** "300 bytes at most": an item that ends with the last of them, and one that would end behind it. */
    private static void fullText() {
        StringBuilder text = new StringBuilder();
        for (int k = 0; k < 27; k++) text.append(GIFT);
        SonsPurse x = house(due);
        Due.type(x, text + "   ");
        due.is("read() of 27 items in 300 bytes", x.read(), 27);
        due.is("in(2, 2, 5)", x.in(2, 2, 5), 27);
        String last = "5 unpost 2 ";
        StringBuilder padded = new StringBuilder(GIFT);
        while (padded.length() + last.length() < 298) padded.append(' ');
        SonsPurse y = house(due);
        Due.type(y, padded + last + "3;");
        due.is("count(5)", y.count(5), 300);
        due.is("read() of an item that ends with byte 300", y.read(), 2);
        SonsPurse z = house(due);
        Due.type(z, padded + " " + last + "3");
        due.is("count(5)", z.count(5), 300);
        due.refuses("a text of 300 ends too early", z, -310, () -> z.read());
    }

    /** 300 bytes that end too early, behind each token of each kind's item. */
    private static void fullTextTooEarly() {
        for (int kind = 0; kind < KINDS; kind++) {
            String[] tokens = ITEMS[kind].split(" ");
            StringBuilder text = new StringBuilder();
            for (int k = 0; k < tokens.length - 1; k++) {
                text.append(' ').append(tokens[k]);
                faults(" ".repeat(300 - text.length()) + text, 300);
            }
        }
        for (String last : new String[] {"12345", "hund", "?", ";"}) faults(" ".repeat(300 - last.length()) + last, 300 - last.length());
        faults(" ".repeat(295) + "5 giv", 297);
    }

    /** "THE TEXT is empty", by clear and by read: nothing of what it had is seen behind a shorter one. */
    private static void whatWasThereIsGone() {
        for (int kind = 0; kind < KINDS; kind++) {
            String item = ITEMS[kind];
            for (int cut = 0; cut < item.length(); cut++) {
                String ahead = item.substring(0, cut);
                SonsPurse fresh = house(due);
                Due.type(fresh, ahead);
                long want = fresh.read();
                SonsPurse cleared = house(due);
                Due.type(cleared, item);
                cleared.clear();
                Due.type(cleared, ahead);
                due.is("read() of \"" + ahead + "\" behind clear()", cleared.read(), want);
                SonsPurse read = house(due);
                Due.type(read, item);
                due.is("read", read.read(), 1);
                Due.type(read, ahead);
                due.is("read() of \"" + ahead + "\" behind read()", read.read(), want);
            }
        }
    }

    /** "-1000 less the number of the first ITEM that is refused" */
    private static void firstRefused() {
        for (int k = 0; k < 35; k++) {
            StringBuilder text = new StringBuilder();
            for (int j = 0; j < k; j++) text.append(j % 2 == 0 ? "5end1 0;" : "5hand1 0;");
            String refused = k % 2 == 0 ? "5end2 0;" : "5end1 0;";
            reads(text + refused, -1000 - k);
        }
        reads("5end2 0;5end2 0;", -1000);
        reads("5end1 0;5end1 0;5end1 0;", -1001);
    }

    /** An ITEM is refused by BAD, NO or FULL, as a NOTE is. */
    private static void refusedByBadNoFull() {
        String[] bad = {"4 give 2 2 1;", "1000 give 2 2 1;", "5 give 3 2 1;", "5 give 2 4 1;", "5 give 2 2 0;", "5 give 2 2 1001;", "5 order 3;",
            "5 owe 1 1 1;", "5 end 1 3;", "5 hand 1 3;"};
        for (String item : bad) reads(GIFT + item + GIFT, -1001);
        String[] no = {"5 hand 0 1;", "5 take 1 3 901;", "5 hide 1 3 901;", "5 order 0;", "5 post 2 0;", "5 unpost 1 0;", "5 know 2 0;", "5 use 0 1;",
            "5 lose 1 1;", "5 settle 2 1 1;", "5 pay 2 11;", "5 end 2 0;"};
        for (String item : no) reads(GIFT + item + GIFT, -1001);
        SonsPurse x = house(due);
        for (int n = 12; n < 58; n++) x.note(5, GIVE, 2, 2, 1);
        Due.type(x, GIFT + GIFT + GIFT);
        due.refuses("the third is a note too many", x, -1002, () -> x.read());
        x.clear();
        Due.type(x, GIFT + GIFT);
        due.is("two are 60", x.read(), 2);
        Due.type(x, GIFT);
        due.refuses("one more", x, -1000, () -> x.read());
    }

    /** "What is refused in order of ITEMS": each is looked at behind those ahead of it. */
    private static void inOrderOfItems() {
        reads("5 post 1 1; 5 unpost 1 1; 5 post 1 1;", 3);
        reads("5 post 1 1; 5 post 1 1; 5 unpost 1 1;", -1001);
        reads("6 give 2 2 1; 5 give 2 2 1;", -1001);
        reads("5 deal 1 0 9; 5 order 3; 5 pay 3 9;", 3);
        reads("5 order 3; 5 deal 1 0 9;", -1000);
        reads("5 take 1 3 900; 5 give 1 3 1; 5 take 1 3 2;", -1002);
    }

    /** "none of them comes"; "nothing changes": notes, deals and THE TEXT stay. */
    private static void noneOfThemComes() {
        SonsPurse x = house(due);
        x.person();
        Due.type(x, "6 deal 1 0 9; 7 end 1 0; 7 give 2 2 1; 7 end 1 0;");
        due.refuses("the fourth", x, -1003, () -> x.read(), () -> x.read());
        due.is("count(1)", x.count(1), 12);
        due.is("count(2)", x.count(2), 3);
        due.is("line(3)", x.line(3), BAD);
        due.is("an earlier day comes", x.note(5, GIVE, 2, 2, 1), 12);
        due.is("he is in the hand still", x.holder(1, 999), 0);
        due.is("clear", x.clear(), 49);
    }

    /** "-10 less FAULT; -1000 less ..": a FAULT of a later ITEM is ahead of what is refused. */
    private static void faultFirst() {
        faults("5 end 2 0; 5 ende 1 0;", 13);
        faults("5 end 2 0; 5", 12);
        faults("9999 end 9 9;;", 13);
    }

    /** "it is empty then: how many." */
    private static void textIsEmptyThen() {
        SonsPurse x = house(due);
        Due.type(x, GIFT + GIFT);
        due.is("read", x.read(), 2);
        due.is("count(5)", x.count(5), 0);
        due.is("read again", x.read(), 0);
        due.is("count(1)", x.count(1), 14);
        x.type(' ', 1);
        due.is("read of a blank", x.read(), 0);
        due.is("count(5)", x.count(5), 0);
    }
}
