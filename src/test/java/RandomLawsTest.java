import java.util.Random;

/** Random laws, whole and broken, against the oracle's reading of them. */
public final class RandomLawsTest {
    private static final String SIGNS = "gsowh0123456789+-*/<>=&|()!-  x";
    private static final Random RANDOM = new Random(491);

    private static int pick(int bound) {
        return RANDOM.nextInt(bound);
    }

    private static String value(int depth) {
        int what = pick(depth <= 0 ? 3 : 12);
        String blank = pick(8) == 0 ? " " : "";
        if (what < 2) return blank + "gsowh".charAt(pick(5));
        if (what == 2) return blank + (pick(9) == 0 ? "" + pick(3000000) : "" + pick(30));
        if (what == 3) return blank + "!" + value(depth - 1);
        if (what == 4) return "-" + blank + value(depth - 1);
        if (what == 5) return "(" + value(depth - 1) + blank + ")";
        return value(depth - 1) + blank + "+-*/<>=&|*/-".charAt(pick(12)) + value(depth - 1);
    }

    private static String text() {
        if (pick(12) == 0) return "(".repeat(pick(11)) + "g" + ")".repeat(pick(11));
        StringBuilder s = new StringBuilder(value(1 + pick(4)));
        for (int k = pick(4) == 0 ? 1 + pick(2) : 0; k > 0 && s.length() > 0; k--) {
            int at = pick(s.length());
            if (pick(2) == 0) s.deleteCharAt(at);
            else s.insert(at, SIGNS.charAt(pick(SIGNS.length())));
        }
        return s.length() > 50 ? s.substring(0, 50) : s.toString();
    }

    private static String differs(String text) {
        SonsPurse made = new SonsPurse();
        Oracle due = new Oracle();
        int[][] notes = {{0, 0, 1, 0, 0}, {0, 0, 2, 0, 0}, {0, 0, 3, 1, 0}, {1, 1, 1, 0, 1 + pick(1000)}, {1, 1, 3, 2, 1 + pick(99)},
            {2, 11, 1, 0, 1 + pick(40)}, {2, 11, 1, 2, 1 + pick(30)}, {3, 4, 1, 0, 1000}, {4, 3, 1, 0, 1}};
        for (int k = 0; k < 4; k++) {
            made.person();
            due.person();
        }
        for (int[] n : notes) {
            made.note(n[0], n[1], n[2], n[3], n[4]);
            due.note(n[0], n[1], n[2], n[3], n[4]);
        }
        int law = pick(2);
        for (char c : text.toCharArray()) {
            made.write(law, c);
            due.write(law, c);
        }
        if (made.fault(law) != due.fault(law)) return "fault " + made.fault(law) + ", due is " + due.fault(law);
        for (int p = 0; p < 4; p++) {
            if (made.net(p, law, 9) != due.net(p, law, 9)) return "net of " + p + " " + made.net(p, law, 9) + ", due is " + due.net(p, law, 9);
        }
        made.ask(0, 2, 9);
        due.ask(0, 2, 9);
        if (made.part(0) != due.part(0)) return "ask " + made.part(0) + ", due is " + due.part(0);
        return made.parted(9) == due.parted(9) ? null : "parted";
    }

    public static void main(String[] args) {
        int wrong = 0;
        for (int k = 0; k < 20000 && wrong < 5; k++) {
            String text = text();
            String told = differs(text);
            if (told != null) {
                wrong++;
                System.out.println("law \"" + text + "\": " + told);
            }
        }
        if (wrong != 0) System.exit(1);
        System.out.println("20000 random laws as due");
    }
}
