import java.math.BigInteger;
import java.util.ArrayList;
import java.util.Arrays;
import java.util.List;
import java.util.function.Supplier;

/**
 * Each sentence of ../shared/DOC.md that names a boundary case, in the document's order: the last value that is told
 * and the first that is none, on each side; and behind each refused call, that nothing has changed.
 */
public final class BoundariesTest {
    private static final int BAD = -1, NO = -2, FULL = -3, NONE = -4;
    private static final int MOST_CALLS = 512;
    private static final String SMALLEST = "p1,0,0;m0,1,0;";

    /** All walk a mile an HOUR to an inn of one bed, and leave it one by one, the last behind 223 HOURS. */
    private static final String ONE_BED = "p26,0,8;p30,0,1;p30,0,8;q8;b1;"
        + "m0,1,1;m0,1,1;m0,1,1;m0,1,1;m0,1,1;m0,1,1;m0,1,1;m0,1,1;";

    private static int sentences = 0;
    private static int checked = 0;
    private static int checkedBefore = 0;
    private static int wrong = 0;
    private static String words = "";

    public static void main(String[] args) {
        theText();
        items();
        laid();
        theRoad();
        anHour();
        aNight();
        voices();
        readings();
        ahead();
        orders();
        fallingBack();
        partiesAndJoining();
        diaries();
        years();
        keeping();
        counting();
        refusals();
        sentence("the end");
        System.out.println("BoundariesTest: " + (sentences - 1) + " sentences, " + checked + " answers looked at, "
            + wrong + " wrong");
        if (wrong != 0) {
            System.exit(1);
        }
    }

    // ---- what the tests share

    private static void sentence(String next) {
        if (!words.isEmpty() && checked == checkedBefore) {
            wrong++;
            System.out.println("nothing was looked at for: " + words);
        }
        words = next;
        checkedBefore = checked;
        sentences++;
    }

    private static void due(String what, long got, long want) {
        checked++;
        if (got != want) {
            wrong++;
            System.out.println("'" + words + "': " + what + " answered " + got + ", due is " + want);
        }
    }

    /** The class, with its calls counted: behind the 512th nothing is promised. */
    private static final class Law {
        private final WalkingLaw law = new WalkingLaw();
        private int calls = 0;

        private WalkingLaw asked() {
            calls++;
            if (calls > MOST_CALLS) {
                due("calls of one object", calls, MOST_CALLS);
            }
            return law;
        }

        int write(int n, long v) {
            return asked().write(n, v);
        }

        int wipe() {
            return asked().wipe();
        }

        int fault() {
            return asked().fault();
        }

        int lay() {
            return asked().lay();
        }

        int parish(int p, int what) {
            return asked().parish(p, what);
        }

        int member(int i, int what) {
            return asked().member(i, what);
        }

        int hours(int n) {
            return asked().hours(n);
        }

        int voices(int p, int b, int what) {
            return asked().voices(p, b, what);
        }

        int read(int b) {
            return asked().read(b);
        }

        int bill(int b, int what) {
            return asked().bill(b, what);
        }

        int mile(int n, int i) {
            return asked().mile(n, i);
        }

        int who(int n, int p) {
            return asked().who(n, p);
        }

        int arrives() {
            return asked().arrives();
        }

        int would(int b) {
            return asked().would(b);
        }

        int order(int i) {
            return asked().order(i);
        }

        int back(int i) {
            return asked().back(i);
        }

        int parties(int p, int i) {
            return asked().parties(p, i);
        }

        int join(int p, int b) {
            return asked().join(p, b);
        }

        int diary(int i, int p, int h) {
            return asked().diary(i, p, h);
        }

        int noDiary() {
            return asked().noDiary();
        }

        int wrong() {
            return asked().wrong();
        }

        int late() {
            return asked().late();
        }

        int year(int z) {
            return asked().year(z);
        }

        int ten(int z, int b) {
            return asked().ten(z, b);
        }

        int keep() {
            return asked().keep();
        }

        int again() {
            return asked().again();
        }

        int count(int what) {
            return asked().count(what);
        }
    }

    private interface Call {
        int on(Law x);
    }

    private static Law put(Law x, String text) {
        for (int at = 0; at < text.length(); at += 8) {
            int n = Math.min(8, text.length() - at);
            long v = 0;
            for (int k = 0; k < n; k++) {
                v = v << 8 | text.charAt(at + k);
            }
            x.write(n, v);
        }
        return x;
    }

    private static Law told(String text) {
        return put(new Law(), text);
    }

    private static Law layNew(String text) {
        Law x = told(text);
        if (x.lay() < 1) {
            wrong++;
            System.out.println("'" + words + "': could not be LAID: " + text);
        }
        return x;
    }

    private static Law behind(int hours, String text) {
        Law x = layNew(text);
        for (int rest = hours; rest > 0; rest -= 99) {
            x.hours(Math.min(rest, 99));
        }
        return x;
    }

    private static String times(int n, String item) {
        return item.repeat(n);
    }

    /** The first that is none below and above, and what lies farthest. */
    private static int[] beside(int first, int last) {
        return new int[] {first - 1, last + 1, first - 100000, last + 100000, Integer.MIN_VALUE, Integer.MAX_VALUE};
    }

    private static int bit(int set, int k) {
        return set >> k & 1;
    }

    // ---- the text

    private static void theText() {
        threeHundredBytes();
        lowestBytes();
        letters();
        figures();
        partings();
    }

    private static void threeHundredBytes() {
        sentence("A TEXT is bytes (300 at most)");
        Law x = new Law();
        for (int k = 1; k <= 300; k++) {
            due("byte by byte", x.write(1, 'q'), k);
        }
        due("the 301st", x.write(1, 'q'), FULL);
        due("its length", x.count(7), 300);
        for (int n = 1; n <= 8; n++) {
            due(n + " bytes up to 300", told(times(300 - n, "q")).write(n, 0), 300);
            Law full = told(times(301 - n, "q"));
            due(n + " bytes up to 301", full.write(n, 0), FULL);
            due("nothing of them was written", full.count(7), 301 - n);
            due("what fits is still taken", n == 1 ? 300 : full.write(n - 1, 0), 300);
        }
        String most = "p9,0,9;m0,3,15;" + times(95, "q2;");
        due("300 bytes without FAULT", told(most).fault(), NONE);
        Law laid = told(most);
        due("300 bytes can be LAID", laid.lay(), 1);
        due("the last ITEM counts", laid.count(8), 2);
        due("THE TEXT stays", laid.wipe(), 300);
        due("it is empty", laid.count(7), 0);
        put(laid, most);
        due("300 anew", laid.count(7), 300);
        due("the last byte is looked at", told(times(99, "q1;") + "q1,").fault(), 297);
        due("the last place", told(times(97, "q1;") + "q01;q01;q").fault(), 299);
        sentence("THE TEXT is empty: how long it was");
        due("nothing", new Law().wipe(), 0);
        due("one byte", told("q").wipe(), 1);
        Law wiped = told("q");
        wiped.wipe();
        due("wiped already", wiped.wipe(), 0);
        due("no ITEM, no FAULT", wiped.fault(), NONE);
    }

    private static void lowestBytes() {
        sentence("The lowest n bytes (1 to 8) of v, the highest of these first");
        Law x = new Law();
        due("one, the rest of v is not meant", x.write(1, 0xffffffffffffff71L), 1);
        due("two", x.write(2, 0x787878787878313bL), 3);
        due("q1;", x.fault(), NONE);
        due("eight", x.write(8, 0x71323b71333b7134L), 11);
        due("q2;q3;q4 lacks the ;", x.fault(), 9);
        due("one more", x.write(1, 0x3b), 12);
        due("all are so", x.fault(), NONE);
        due("0 bytes", x.write(0, 0x71), BAD);
        due("9 bytes", x.write(9, 0x71), BAD);
        for (int n = 1; n <= 8; n++) {
            due(n + " bytes", new Law().write(n, -1), n);
            due(n + " bytes, each 255", told(times(n, "\u00ff")).fault(), 0);
        }
        Law y = new Law();
        y.write(7, 0xff70312c302c303bL);
        due("seven: p1,0,0;", y.fault(), NONE);
    }

    private static void letters() {
        sentence("ITEMS one behind the other, each a letter");
        for (char c = 0; c < 256; c++) {
            due("letter " + (int) c + " and a number", told(c + "1;").fault(), c == 'q' || c == 'b' ? NONE : 0);
            due("letter " + (int) c + " and three", told("q1;" + c + "1,1,1;").fault(), c == 'p' || c == 'm' ? NONE : 3);
        }
    }

    private static void figures() {
        sentence("numbers (one or two figures)");
        for (char c = 0; c < 256; c++) {
            boolean oneToEight = c >= '1' && c <= '8';
            due("one figure " + (int) c, told("q" + c + ";").fault(), oneToEight ? NONE : 0);
            due("the second of two " + (int) c, told("q0" + c + ";").fault(), oneToEight ? NONE : 0);
            due("the first of two " + (int) c, told("q" + c + "1;").fault(), c == '0' ? NONE : 0);
        }
        number("p#,0,9;", 1, 30);
        number("p9,#,9;", 0, 1);
        number("p9,0,#;", 0, 40);
        number("m#,3,9;", 0, 5);
        number("m0,#,9;", 1, 9);
        number("m0,3,#;", 0, 15);
        number("q#;", 1, 8);
        number("b#;", 1, 4);
    }

    /** Every number of one, two or three figures in the place of #, alone and behind other ITEMS. */
    private static void number(String item, int first, int last) {
        for (int n = 0; n < 100; n++) {
            int want = n >= first && n <= last ? NONE : 0;
            due(item + " with " + n, told(item.replace("#", "" + n)).fault(), want);
            String two = item.replace("#", "" + n / 10 + n % 10);
            due(two, told(two).fault(), want);
            due(two + " behind b4;q1;", told("b4;q1;" + two).fault(), want == NONE ? NONE : 6);
            String three = item.replace("#", "0" + n / 10 + n % 10);
            due(three, told(three).fault(), 0);
        }
        String[] none = {"", "-1", "+1", " 1", "1 ", "1.", "a", "100", "001", "1-", "0x1"};
        for (String sign : none) {
            due(item + " with '" + sign + "'", told("q1;" + item.replace("#", sign)).fault(), 3);
        }
    }

    private static void partings() {
        sentence("parted by , and ; (behind the last one, too)");
        for (char c = 0; c < 256; c++) {
            due("sign " + (int) c + " behind the first", told("p1" + c + "0,1;").fault(), c == ',' ? NONE : 0);
            due("sign " + (int) c + " behind the second", told("m1,1" + c + "1;").fault(), c == ',' ? NONE : 0);
            due("sign " + (int) c + " behind the last", told("p1,0,1" + c).fault(), c == ';' ? NONE : 0);
            due("sign " + (int) c + " behind the only one", told("b1;b1" + c).fault(), c == ';' ? NONE : 3);
        }
        String[] tooFewOrMany = {"p;", "p9;", "p9,0;", "p9,0,9,0;", "m;", "m0;", "m0,3;", "m0,3,9,0;", "q;", "q1,1;", "b;",
            "b1,1;", ";", ",", "p,0,9;", "p9,,9;", "p9,0,;", "p9,0,9,;", "q1,;", "pp9,0,9;", "p9,0,9;;"};
        for (String item : tooFewOrMany) {
            int ahead = item.equals("p9,0,9;;") ? 7 : 0;
            due(item, told(item).fault(), ahead);
            due(item + " behind b4;", told("b4;" + item).fault(), 3 + ahead);
        }
        String whole = "p10,0,10;m0,1,10;q01;b04;";
        int[] starts = {0, 9, 17, 21, 25};
        for (int k = 0; k <= whole.length(); k++) {
            int start = 0;
            while (starts[start + 1] <= k && start < 3) {
                start++;
            }
            boolean cutBetween = k == 0 || k == 9 || k == 17 || k == 21 || k == 25;
            due("cut at " + k, told(whole.substring(0, k)).fault(), cutBetween ? NONE : starts[start]);
        }
    }

    // ---- items

    private static void items() {
        parishItem();
        memberItem();
        quorumItem();
        billsItem();
        faultPlace();
    }

    private static void parishItem() {
        sentence("pM,U,B a PARISH M miles long (1 to 30), MUDDY or not (U 1, 0), with B BEDS (0 to 40)");
        int[][] good = {{1, 0, 0}, {30, 1, 40}, {1, 1, 40}, {30, 0, 0}, {2, 1, 1}, {29, 0, 39}};
        for (int[] p : good) {
            Law x = layNew("p" + p[0] + "," + p[1] + "," + p[2] + ";m0,1,0;");
            for (int what = 0; what < 3; what++) {
                due("parish(0, " + what + ")", x.parish(0, what), p[what]);
            }
            due("miles in all", x.count(4), p[0]);
        }
        sentence("6 at most, 0, 1, ..");
        for (int n = 1; n <= 6; n++) {
            Law x = told(times(n, "p3,0,9;") + "m0,1,0;");
            due(n + " PARISHES", x.fault(), NONE);
            x.lay();
            due(n + " PARISHES", x.count(0), n);
            due("the last one", x.parish(n - 1, 0), 3);
            due("none behind it", x.parish(n, 0), BAD);
            due("none ahead of 0", x.parish(-1, 0), BAD);
        }
        due("the seventh", told(times(7, "p3,0,9;")).fault(), 42);
        due("the seventh behind MEMBERS", told(times(6, "p3,0,9;") + "m0,1,0;q2;p3,0,9;").fault(), 52);
        due("the seventh ahead of another FAULT", told(times(7, "p3,0,9;") + "q0;").fault(), 42);
        due("a seventh cannot be LAID", told(times(7, "p3,0,9;") + "m0,1,0;").lay(), NO);
        Law y = layNew("p1,0,0;p2,1,1;p3,0,2;p4,1,3;p5,0,4;p6,1,5;m0,1,0;");
        for (int p = 0; p < 6; p++) {
            due("miles in their order", y.parish(p, 0), p + 1);
            due("mud in its order", y.parish(p, 1), p % 2);
            due("BEDS in their order", y.parish(p, 2), p);
        }
    }

    private static void memberItem() {
        sentence("mK,P,Y a MEMBER of KIND K (0 to 5), whose PACE is P (1 to 9), who is for the BILLS Y (bits; 0 to 15)");
        for (int kind = 0; kind <= 5; kind++) {
            for (int pace = 1; pace <= 9; pace++) {
                int mind = (kind * 9 + pace) % 16;
                Law x = layNew("p1,0,0;m" + kind + "," + pace + "," + mind + ";");
                due("KIND", x.member(0, 0), kind);
                due("PACE", x.member(0, 1), pace);
                due("BILLS", x.member(0, 2), mind);
                for (int b = 0; b < 4 && kind < 3; b++) {
                    due("bit " + b, x.voices(0, b, 0), bit(mind, b));
                }
            }
        }
        sentence("8 at most, 0, 1, .. (MEMBERS)");
        for (int n = 1; n <= 8; n++) {
            Law x = told(times(n, "m0,1,0;") + "p3,0,9;");
            due(n + " MEMBERS", x.fault(), NONE);
            due(n + " MEMBERS", x.lay(), n);
            due(n + " MEMBERS", x.count(1), n);
            due("the last one", x.member(n - 1, 1), 1);
            due("none behind him", x.member(n, 1), BAD);
            due("none ahead of 0", x.member(-1, 1), BAD);
        }
        due("the ninth", told(times(9, "m0,1,0;")).fault(), 56);
        due("the ninth behind others", told(times(8, "m0,1,0;") + "p3,0,9;b2;m0,1,0;").fault(), 66);
        due("the ninth ahead of another FAULT", told(times(9, "m0,1,0;") + "x").fault(), 56);
        due("a ninth cannot be LAID", told(times(9, "m0,1,0;") + "p3,0,9;").lay(), NO);
        Law y = layNew("p1,0,0;m0,1,8;m1,2,9;m2,3,10;m3,4,11;m4,5,12;m5,6,13;m4,7,14;m5,8,15;");
        for (int i = 0; i < 8; i++) {
            due("KINDS in their order", y.member(i, 0), i < 6 ? i : i - 2);
            due("PACES in their order", y.member(i, 1), i + 1);
            due("minds in their order", y.member(i, 2), i + 8);
        }
    }

    private static void quorumItem() {
        sentence("qQ a QUORUM of Q (1 to 8; 1 without; of several such the last one counts)");
        for (int q = 1; q <= 8; q++) {
            due("q" + q, layNew(SMALLEST + "q" + q + ";").count(8), q);
            due("the last one", layNew("q" + (9 - q) + ";" + SMALLEST + "q" + q + ";").count(8), q);
        }
        due("1 without", layNew(SMALLEST).count(8), 1);
        due("the last of three", layNew("q8;q1;" + SMALLEST + "q5;").count(8), 5);
        due("one that does not count must be so, too", told("q9;q1;").fault(), 0);
        due("one that does not count must be so, too", told("q1;q0;q1;").fault(), 3);
        Law x = layNew(SMALLEST + "q8;");
        x.wipe();
        put(x, SMALLEST);
        x.lay();
        due("1 without, though it was 8", x.count(8), 1);
    }

    private static void billsItem() {
        sentence("bN there are N BILLS (1 to 4; 4 without; of several such the last one counts)");
        for (int n = 1; n <= 4; n++) {
            Law x = layNew(SMALLEST + "b" + n + ";");
            due("b" + n, x.count(2), n);
            due("the last BILL", x.bill(n - 1, 0), 0);
            due("none behind it", x.bill(n, 0), BAD);
            due("the last one", layNew("b" + (5 - n) + ";" + SMALLEST + "b" + n + ";").count(2), n);
        }
        due("4 without", layNew(SMALLEST).count(2), 4);
        due("the last of three", layNew("b1;b4;" + SMALLEST + "b2;").count(2), 2);
        due("one that does not count must be so, too", told("b5;b1;").fault(), 0);
        due("one that does not count must be so, too", told("b1;b0;b1;").fault(), 3);
        Law x = layNew(SMALLEST + "b1;");
        x.wipe();
        put(x, SMALLEST);
        x.lay();
        due("4 without, though it was 1", x.count(2), 4);
    }

    private static void faultPlace() {
        sentence("FAULT: the place (from 0 on) of the first byte of the first ITEM that is not so");
        due("none", told("").fault(), NONE);
        due("none", told(SMALLEST).fault(), NONE);
        due("place 0", told("x").fault(), 0);
        String ahead = "";
        String[] good = {"p1,0,0;", "m0,1,0;", "q1;", "b1;", "p30,1,40;", "m5,9,15;", "q08;", "b04;", "m00,01,00;"};
        for (String item : good) {
            ahead += item;
            due("behind " + ahead, told(ahead + "x").fault(), ahead.length());
            due("two FAULTS behind " + ahead, told(ahead + "q0;" + "b0;").fault(), ahead.length());
            due("its last byte behind " + ahead, told(ahead + "m0,1,15:" + "q1;").fault(), ahead.length());
            due("none in " + ahead, told(ahead).fault(), NONE);
        }
        sentence("FAULT. NONE. (nothing else changes)");
        Law x = behind(3, "p9,0,9;p5,0,5;m0,2,3;b2;");
        put(x, "p1,0,0;p1,0,0;p1,0,0;m0,9,0;q8;b0;");
        due("in what came behind", x.fault(), 55);
        due("PARISHES", x.count(0), 2);
        due("QUORUM", x.count(8), 1);
        due("PACE", x.member(0, 1), 2);
        due("mile", x.member(0, 3), 6);
    }

    // ---- laid, the road

    private static Law filled(String text) {
        Law x = behind(9, "p30,1,9;p5,0,8;m0,3,15;m2,4,3;q2;b3;");
        x.read(0);
        x.diary(1, 1, 7);
        x.keep();
        x.hours(2);
        x.wipe();
        return put(x, text);
    }

    private static void laid() {
        sentence("LAID is a TEXT without FAULT, of a PARISH and a MEMBER at least (NO else)");
        String[] refused = {"", "p9,0,9;", "m0,3,15;", "q1;", "b4;", "q1;b2;", times(6, "p9,0,9;") + "q8;",
            times(8, "m0,3,15;") + "b1;", "p9,0,9;m0,3,15", "p9,0,9;m0,3,15;x", "x" + SMALLEST, SMALLEST + "q0;",
            "p0,0,9;p9,0,9;m0,3,15;", times(7, "p1,0,0;") + "m0,1,0;", times(9, "m0,1,0;") + "p1,0,0;"};
        for (String text : refused) {
            same("lay of " + text, filled(text), x -> x.lay(), NO, filled(text));
        }
        due("a PARISH and a MEMBER", told(SMALLEST).lay(), 1);
        due("the MEMBER first", told("m0,1,0;p1,0,0;").lay(), 1);
        due("six and eight", told(times(6, "p1,0,0;") + times(8, "m0,1,0;")).lay(), 8);
        sentence("at first p9,0,9;m0,3,15;");
        Law fresh = new Law();
        Law laid = layNew("p9,0,9;m0,3,15;");
        due("THE TEXT is empty, though", fresh.count(7), 0);
        due("so it can't be LAID", fresh.lay(), NO);
        laid.wipe();
        due("all answers are alike", Arrays.equals(allAnswers(fresh), allAnswers(laid)) ? 1 : 0, 1);
        sentence("LAID: all at mile 0, HOUR 0, nothing PASSED, no DIARY, nothing KEPT; THE TEXT stays");
        String text = "p9,0,9;p9,0,9;m0,9,15;m0,1,0;m0,1,3;b2;";
        Law y = layNew(text);
        y.hours(9);
        y.read(0);
        y.keep();
        y.keep();
        for (int line = 0; line < 10; line++) {
            y.diary(0, 1, 0);
        }
        due("LAID anew", y.lay(), 3);
        due("THE TEXT", y.count(7), text.length());
        due("all answers are those of one just LAID",
            Arrays.equals(allAnswers(y), allAnswers(layNew(text))) ? 1 : 0, 1);
        laidOneBehindTheOther();
    }

    /** Nothing of what was LAID ahead of it is left. */
    private static void laidOneBehindTheOther() {
        String[] texts = {SMALLEST, "p9,0,9;m0,3,15;", "p9,1,0;p3,0,1;b2;q3;m3,5,1;m4,2,2;m5,9,3;m1,1,0;",
            times(6, "p30,1,40;") + times(8, "m5,9,15;") + "q8;b1;", times(6, "p1,0,1;") + times(8, "m4,1,9;"),
            "m0,1,5;m2,9,10;p1,1,1;p9,0,0;p5,1,2;"};
        for (String first : texts) {
            for (String second : texts) {
                Law x = layNew(first);
                x.hours(3);
                x.read(0);
                x.diary(0, 0, 8);
                x.keep();
                x.wipe();
                int members = second.split("m").length - 1;
                due("LAID behind another", put(x, second).lay(), members);
                due("and once more", x.lay(), members);
                due("all answers are those of one just LAID",
                    Arrays.equals(allAnswers(x), allAnswers(layNew(second))) ? 1 : 0, 1);
            }
        }
    }

    private static void theRoad() {
        sentence("THE ROAD is all PARISHES, one behind the other, from mile 0 on; the END is the mile behind the last");
        int[] lengths = {1, 30, 1, 30, 1, 30};
        StringBuilder text = new StringBuilder("m0,1,0;");
        for (int length : lengths) {
            text.append("p").append(length).append(",0,9;");
        }
        Law x = layNew(text.toString());
        due("miles in all", x.count(4), 93);
        int[] firsts = {0, 1, 31, 32, 62, 63};
        int p = 0;
        for (int mile = 0; mile <= 93; mile++) {
            p = p < 5 && firsts[p + 1] == mile ? p + 1 : p;
            due("the mile", x.member(0, 3), mile);
            due("the PARISH of mile " + mile, x.member(0, 4), p);
            due("he is in it", x.parish(p, 3), 1);
            due("at the END", x.hours(1), mile >= 92 ? 1 : 0);
        }
        sentence("at the END in the last one");
        due("the END of the shortest road", layNew(SMALLEST).hours(1), 1);
        Law longest = layNew(times(6, "p30,0,9;") + "m0,1,0;");
        due("the longest road", longest.count(4), 180);
        due("the last mile", longest.mile(179, 0), 179);
        due("the END", longest.mile(180, 0), 180);
        due("no farther", longest.mile(181, 0), 180);
        due("the last mile of PARISH 4", longest.who(149, 4), 1);
        due("the first mile of PARISH 5", longest.who(150, 5), 1);
        due("not in two", longest.who(150, 4), 0);
        due("the last mile of PARISH 5", longest.who(179, 5), 1);
        due("at the END in the last one", longest.who(180, 5), 1);
        Law one = behind(1, SMALLEST);
        due("at the END in the only one", one.parish(0, 3), 1);
        due("at the END in the only one", one.member(0, 4), 0);
        due("at the END", one.member(0, 3), 1);
    }

    // ---- hours and nights

    private static void anHour() {
        sentence("each MEMBER goes on, to the END at most");
        for (int length = 1; length <= 30; length++) {
            Law x = layNew("p" + length + ",0,9;m0,9,0;m0,1,0;m1,1,0;m2,7,0;");
            int[] paces = {9, 1, 4, 7};
            for (int i = 0; i < 4; i++) {
                for (int h = 0; h <= 4; h++) {
                    due("mile of " + i + " behind " + h, x.mile(h, i), Math.min(length, h * paces[i]));
                }
            }
        }
        sentence("a CARTED one by 4 miles; a LAME one by his PACE by 2, cut; all others by their PACE");
        for (int pace = 1; pace <= 9; pace++) {
            for (int kind = 0; kind <= 5; kind++) {
                String item = ",9;m" + kind + "," + pace + ",0;";
                int dry = kind == 1 ? 4 : pace;
                due("dry", layNew("p30,0" + item).mile(1, 0), dry);
                due("MUDDY", layNew("p30,1" + item).mile(1, 0), kind == 2 ? pace / 2 : dry);
                due("two HOURS of mud", layNew("p30,1" + item).mile(2, 0), 2 * (kind == 2 ? pace / 2 : dry));
            }
        }
        due("a LAME one of PACE 1 stays in the mud", behind(99, "p30,1,9;m2,1,0;").member(0, 3), 0);
        sentence("if his PARISH (where he is as the HOUR begins) is MUDDY");
        int[] miles = {0, 2, 4, 5, 6, 8, 9, 9};
        Law lame = layNew("p3,0,9;p3,1,9;p3,0,9;m2,2,0;");
        for (int h = 0; h < miles.length; h++) {
            due("dry, MUDDY, dry behind " + h, lame.mile(h, 0), miles[h]);
        }
        int[] other = {0, 1, 2, 3, 5, 6, 7, 8};
        lame = layNew("p3,1,9;p2,0,9;p9,1,9;m2,2,0;");
        for (int h = 0; h < other.length; h++) {
            due("MUDDY, dry, MUDDY behind " + h, lame.mile(h, 0), other[h]);
        }
        sentence("n HOURS (1 to 99) go by: how many are at the END");
        Law x = layNew("p30,0,9;p30,0,9;m0,1,0;m0,9,0;m0,8,0;");
        due("1", x.hours(1), 0);
        due("the HOUR", x.count(3), 1);
        due("6 HOURS, a mile short", x.hours(5), 0);
        due("7 HOURS", x.hours(1), 1);
        due("8 HOURS", x.hours(1), 2);
        due("59 HOURS", x.hours(51), 2);
        due("60 HOURS", x.hours(1), 3);
        due("99", x.hours(99), 3);
        due("the HOUR", x.count(3), 159);
        lastHour();
    }

    private static void lastHour() {
        sentence("NO: above 9999 in all");
        for (int n = 1; n <= 99; n += 14) {
            Law x = behind(9999 - n, "p9,0,9;m0,1,0;");
            due("up to 9999 by " + n, x.hours(n), 1);
            due("the HOUR", x.count(3), 9999);
            due("one more", x.hours(1), NO);
            due("the HOUR stays", x.count(3), 9999);
            Law y = behind(10000 - n, "p9,0,9;m0,1,0;");
            due("up to 10000 by " + n, y.hours(n), NO);
            due("the HOUR stays", y.count(3), 10000 - n);
            due("those fewer", n == 1 ? 1 : y.hours(n - 1), 1);
            due("99 at 9999", x.hours(99), NO);
            due("0 goes ahead of NO", x.hours(0), BAD);
            due("100 goes ahead of NO", x.hours(100), BAD);
        }
    }

    private static int backersOf(Law x, int b) {
        int set = 0;
        int members = x.count(1);
        for (int i = 0; i < members; i++) {
            set |= bit(x.member(i, 2), b) << i;
        }
        return set;
    }

    private static void aNight() {
        sentence("Behind each 8th HOUR (the HOUR is 8, 16, .. then) comes A NIGHT");
        String text = "p30,0,0;m0,1,1;m0,1,1;m0,1,1;m0,1,1;m0,1,1;m0,1,0;m0,1,0;m0,1,0;";
        int[] after = {31, 63, 127, 255, 255};
        Law x = layNew(text);
        for (int h = 0; h <= 33; h++) {
            due("minds behind " + h, backersOf(x, 0), after[h / 8]);
            x.hours(1);
        }
        for (int n = 1; n <= 33; n++) {
            Law y = layNew(text);
            y.hours(n);
            due("minds behind " + n + " at once", backersOf(y, 0), after[n / 8]);
        }
        Law kept = behind(7, text);
        kept.keep();
        kept.hours(1);
        kept.again();
        due("7 again", backersOf(kept, 0), 31);
        kept.hours(1);
        due("and 8 again", backersOf(kept, 0), 63);
        kept.hours(7);
        due("15", backersOf(kept, 0), 63);
        kept.hours(1);
        due("16", backersOf(kept, 0), 127);
        inns();
        minds();
    }

    private static void inns() {
        sentence("For each PARISH but 0: if more MEMBERS are in it than BEDS, as many of the highest numbers go back");
        for (int n = 1; n <= 8; n++) {
            for (int beds = 0; beds <= 9; beds++) {
                Law x = behind(7, "p8,0,0;p2,0," + beds + ";" + times(n, "m0,1,0;"));
                x.hours(1);
                for (int i = 0; i < n; i++) {
                    due(n + " in " + beds + " BEDS: mile of " + i, x.member(i, 3), i < beds ? 8 : 7);
                }
                Law y = behind(8, "p8,0," + beds + ";p30,0,8;" + times(n, "m0,1,0;"));
                due(n + " sleep where there are BEDS for 8", y.parish(1, 3), (1 << n) - 1);
                Law z = behind(8, "p30,0," + beds + ";p30,0,0;" + times(n, "m0,1,0;"));
                due(n + " in PARISH 0 with " + beds + " BEDS", z.mile(0, n - 1), 8);
            }
        }
        due("40 BEDS", behind(8, "p8,0,0;p9,0,40;" + times(8, "m0,1,0;")).parish(1, 3), 255);
        Law odd = behind(8, "p8,0,0;p9,0,2;m0,1,0;m5,2,0;m0,1,0;m5,2,0;m0,1,0;");
        due("those who are in it", odd.parish(1, 3), 3);
        due("the highest of these", odd.parish(0, 3), 28);
        Law others = behind(8, "p9,0,0;p30,0,2;m0,1,0;m5,2,0;m0,1,0;m5,2,0;m0,1,0;m5,2,0;");
        due("the highest of those who are in it", others.parish(1, 3), 10);
        due("he alone goes back", others.member(5, 3), 8);
        sentence("the last one first (PARISHES at night)");
        int[] cascade = {5, 2, 2};
        Law x = behind(8, "p3,0,0;p3,0,1;p3,0,0;m0,1,0;m0,1,0;m0,1,0;");
        for (int i = 0; i < 3; i++) {
            due("sent back twice", x.member(i, 3), cascade[i]);
        }
        due("through all", behind(8, times(6, "p1,0,0;") + "m0,9,0;").member(0, 3), 0);
        due("to the only BED", behind(8, "p1,0,0;p1,0,0;p1,0,1;p1,0,0;p1,0,0;m0,9,0;").member(0, 3), 2);
        sentence("go back to the mile ahead of its first");
        for (int length = 1; length <= 8; length++) {
            Law y = behind(8, "p" + length + ",0,0;p20,0,0;m0,1,0;");
            due("from mile 8 of a PARISH from " + length + " on", y.member(0, 3), length - 1);
            due("in the PARISH ahead", y.member(0, 4), 0);
            due("from the END", behind(8, "p" + length + ",0,0;p20,0,0;m0,9,0;").member(0, 3), length - 1);
        }
        due("still in PARISH 0", behind(8, "p9,0,0;p20,0,0;m0,1,0;").member(0, 3), 8);
    }

    private static int swayed(int set, int all) {
        int fors = Integer.bitCount(set);
        int others = Integer.bitCount(all - set);
        int changing = fors > others ? all - set : fors < others ? set : 0;
        return set ^ Integer.lowestOneBit(changing);
    }

    private static void minds() {
        sentence("if more of those in it are for it than are not, the lowest who is not is for it; if fewer, the other way");
        for (int n = 1; n <= 8; n++) {
            for (int set = 0; set < 1 << n; set++) {
                int all = (1 << n) - 1;
                int[] backing = {set, all - set, all, 0};
                StringBuilder text = new StringBuilder("p30,0,0;");
                for (int i = 0; i < n; i++) {
                    int mind = bit(set, i) + 2 * bit(all - set, i) + 4;
                    text.append("m").append((i + set) % 6).append(",1,").append(mind).append(";");
                }
                Law x = behind(8, text.toString());
                for (int b = 0; b < 4; b++) {
                    due("for BILL " + b + " of " + text, backersOf(x, b), swayed(backing[b], all));
                }
            }
        }
        sentence("For each PARISH and each BILL (minds at night)");
        for (int bills = 1; bills <= 4; bills++) {
            Law x = behind(8, "b" + bills + ";p10,0,0;p30,0,9;m0,1,15;m0,1,15;m0,1,0;m0,2,0;m0,2,0;m0,2,15;");
            for (int b = 0; b < 4; b++) {
                due("BILL " + b + " of " + bills, backersOf(x, b), b < bills ? 7 : 35);
            }
        }
        Law six = layNew("p1,0,9;p1,0,9;p1,0,9;p1,0,9;p2,0,9;p30,0,9;b1;m2,1,1;m2,1,1;m2,1,0;");
        six.hours(8);
        due("in the last PARISH", six.parish(5, 3), 7);
        due("in the last PARISH", backersOf(six, 0), 7);
        Law sent = behind(8, "p8,0,0;p9,0,2;m0,1,1;m0,1,0;m0,1,0;m0,1,0;");
        due("behind the inns: one against one, and two alike", backersOf(sent, 0), 1);
    }

    // ---- voices, readings

    private static void voicesDue(Law x, int p, int yes, int no, int passes) {
        due("yes", x.voices(p, 0, 0), yes);
        due("no", x.voices(p, 0, 1), no);
        due("PASSES", x.voices(p, 0, 2), passes);
    }

    private static String plain(int n, int fors) {
        return times(fors, "m0,1,1;") + times(n - fors, "m0,1,0;");
    }

    private static void voices() {
        sentence("SILENT ones have none");
        for (int n = 1; n <= 8; n++) {
            voicesDue(layNew("p9,0,9;" + times(n, "m5,1,1;")), 0, 0, 0, 0);
            voicesDue(layNew("p9,0,9;m0,1,1;" + times(n - 1, "m5,1,0;")), 0, 1, 0, 1);
        }
        sentence("a TWO-SIDED one says yes in PARISH 0, 2, 4, no in others");
        for (int p = 0; p < 6; p++) {
            for (int mind = 0; mind < 2; mind++) {
                Law x = behind(p, times(6, "p1,0,9;") + "m3,1," + mind + ";");
                voicesDue(x, p, 1 - p % 2, p % 2, 1 - p % 2);
            }
        }
        sentence("a HIRED one says yes, if the lowest there who is not HIRED is for it, no, if not, nothing without such a one");
        for (int n = 1; n <= 8; n++) {
            voicesDue(layNew("p9,0,9;" + times(n, "m4,1,1;")), 0, 0, 0, 0);
        }
        for (int n = 1; n <= 7; n++) {
            voicesDue(layNew("p9,0,9;" + times(n, "m4,1,0;") + "m0,1,1;"), 0, n + 1, 0, 1);
            voicesDue(layNew("p9,0,9;" + times(n, "m4,1,1;") + "m0,1,0;"), 0, 0, n + 1, 0);
        }
        voicesDue(layNew("p9,0,9;m4,1,0;m0,1,1;m0,1,0;m0,1,0;"), 0, 2, 2, 0);
        voicesDue(layNew("p9,0,9;m0,1,1;m0,1,0;m4,1,0;"), 0, 2, 1, 1);
        voicesDue(layNew("p9,0,9;m5,1,1;m4,1,0;"), 0, 1, 0, 1);
        voicesDue(layNew("p9,0,9;m3,1,0;m4,1,1;"), 0, 1, 1, 0);
        voicesDue(behind(1, "p1,0,9;p9,0,9;m2,1,0;m4,1,0;m1,1,1;"), 1, 1, 2, 0);
        voicesDue(behind(1, "p2,0,9;p9,0,9;m0,1,0;m4,2,0;m1,1,1;"), 1, 2, 0, 1);
        voicesDue(behind(1, "p2,0,9;p9,0,9;m0,1,1;m4,2,1;"), 1, 0, 0, 0);
        sentence("It PASSES, if more say yes than no");
        for (int n = 1; n <= 8; n++) {
            for (int fors = 0; fors <= n; fors++) {
                voicesDue(layNew("p9,0,9;" + plain(n, fors)), 0, fors, n - fors, 2 * fors > n ? 1 : 0);
            }
        }
        voicesDue(layNew("p9,0,9;p9,0,9;m0,1,1;"), 1, 0, 0, 0);
        sentence("and as many MEMBERS as QUORUM are there");
        for (int q = 1; q <= 8; q++) {
            for (int n = 1; n <= 8; n++) {
                voicesDue(layNew("p9,0,9;q" + q + ";" + times(n, "m0,1,1;")), 0, n, 0, n >= q ? 1 : 0);
                due("read with " + n + " of " + q, layNew("p9,0,9;q" + q + ";" + times(n, "m1,1,1;")).read(0), n >= q ? 1 : 0);
                voicesDue(layNew("p9,0,9;q" + q + ";m0,1,1;" + times(n - 1, "m5,1,0;")), 0, 1, 0, n >= q ? 1 : 0);
            }
        }
        voicesDue(behind(1, "p2,0,9;p9,0,9;q2;m0,1,1;m0,2,1;"), 1, 1, 0, 0);
    }

    private static void readings() {
        sentence("A BILL is READ in the PARISH of MEMBER 0; if it PASSES there, it has PASSED there");
        Law x = layNew("p2,0,9;p2,0,9;m0,1,1;m0,9,2;b3;");
        int[] where = {1, 1, 2, 2, 2, 2};
        for (int h = 0; h < where.length; h++) {
            Law y = behind(h, "p2,0,9;p2,0,9;m0,1,1;m0,9,1;b2;");
            due("for it everywhere behind " + h, y.read(0), 1);
            due("the PARISH behind " + h, y.bill(0, 0), where[h]);
            due("against it behind " + h, y.read(1), 0);
            due("nothing behind " + h, y.bill(1, 0), 0);
        }
        due("the first BILL: one to one", x.read(0), 0);
        x.hours(1);
        due("he is alone there", x.read(0), 1);
        due("the last BILL", x.read(2), 0);
        due("none behind it", x.read(3), BAD);
        due("none ahead of it", x.read(-1), BAD);
        sentence("It HOLDS, if it PASSED in all PARISHES. MADE: the PARISH in which it PASSED first; none");
        for (int n = 1; n <= 6; n++) {
            Law y = layNew(times(n, "p1,0,9;") + "m0,1,15;");
            due("not MADE", y.bill(0, 2), NONE);
            for (int p = 0; p < n; p++) {
                due("not yet", y.bill(0, 1), 0);
                due("nor what is READ from the second on", y.bill(1, 1), 0);
                y.read(0);
                due("PASSED", y.bill(0, 0), (1 << p + 1) - 1);
                due("HOLDS in " + (p + 1) + " of " + n, y.bill(0, 1), p + 1 == n ? 1 : 0);
                due("MADE in the first", y.bill(0, 2), 0);
                if (p > 0) {
                    y.read(1);
                    due("MADE in the second", y.bill(1, 2), 1);
                    due("all but the first", y.bill(1, 0), (1 << p + 1) - 2);
                }
                due("not MADE", y.bill(2, 2), NONE);
                y.hours(1);
            }
            due("all but one are not all", y.bill(1, 1), 0);
            y.read(3);
            due("MADE in the last", y.bill(3, 2), n - 1);
        }
    }

    // ---- ahead

    private static final String INNS = "p28,1,8;p13,0,0;p30,1,1;p12,0,0;p27,1,1;";

    private static void ahead() {
        sentence("BEHIND n HOURS (0 to 400) from now on");
        String far = INNS + "p28,0,8;" + times(8, "m2,2,1;");
        Law x = layNew(far);
        int end = x.count(4);
        due("0", x.mile(0, 7), 0);
        due("1", x.mile(1, 7), 1);
        due("399", x.mile(399, 7), end - 2);
        due("400", x.mile(400, 7), end);
        due("401", x.mile(401, 7), BAD);
        due("-1", x.mile(-1, 7), BAD);
        due("0", x.who(0, 0), 255);
        due("400", x.who(400, 5), 255);
        due("401", x.who(401, 5), BAD);
        due("-1", x.who(-1, 5), BAD);
        Law inn = behind(7, "p7,0,9;p9,0,0;m0,1,0;");
        due("0 is now", inn.mile(0, 0), 7);
        due("0 is now", inn.who(0, 1), 1);
        due("1: behind the night", inn.mile(1, 0), 6);
        due("1: behind the night", inn.who(1, 0), 1);
        due("400: the HOUR is 407", inn.mile(400, 0), 13);
        due("393: the HOUR is 400", inn.mile(393, 0), 6);
        due("now is as it was", inn.count(3), 7);
        Law last = behind(9999, INN);
        due("from HOUR 9999 on", last.mile(0, 0), 13);
        due("the night of HOUR 10000", last.mile(1, 0), 6);
        due("HOUR 10399", last.mile(400, 0), 13);
        due("HOUR 10399", last.who(400, 1), 1);
        due("the END is farther than any night lets him go", last.arrives(), NONE);
        due("READ behind HOUR 9999, too", behind(9999, "p7,0,9;p9,0,0;m0,1,1;").would(0), 3);
        for (int n = 0; n <= 400; n += 16) {
            due("seven HOURS behind a night, " + n, inn.mile(n, 0), n == 0 ? 7 : 13);
        }
        sentence("ARRIVES: the fewest of these by which all are at the END; none");
        due("0", behind(1, SMALLEST).arrives(), 0);
        due("1", layNew(SMALLEST).arrives(), 1);
        due("400", x.arrives(), 400);
        due("399", behind(1, far).arrives(), 399);
        due("401", layNew(INNS + "p29,0,8;" + times(8, "m2,2,1;")).arrives(), NONE);
        due("400 of 401", behind(1, INNS + "p29,0,8;" + times(8, "m2,2,1;")).arrives(), 400);
        due("never", layNew("p1,1,0;m2,1,0;").arrives(), NONE);
        due("all but one", layNew("p1,1,0;" + times(7, "m0,9,0;") + "m2,1,0;").arrives(), NONE);
        due("driven back each night", behind(8, "p7,0,9;p3,0,0;m0,1,0;").arrives(), 4);
        sentence("WOULD PASS: has PASSED or would have, if it were READ now and behind each of the next 200 HOURS");
        due("now", layNew("p1,0,9;p1,0,9;m0,1,1;").would(0), 3);
        due("now is behind", behind(1, "p1,0,9;p1,0,9;m0,1,1;").would(0), 2);
        Law passed = layNew("p1,0,9;p1,0,9;m0,1,1;");
        passed.read(0);
        passed.hours(1);
        due("has PASSED", passed.would(0), 3);
        due("READ by nobody", passed.bill(0, 0), 1);
        due("the last BILL", passed.would(3), 0);
        due("behind the last BILL", passed.would(4), BAD);
        due("201", behind(22, ONE_BED).would(0), 3);
        due("200", behind(23, ONE_BED).would(0), 7);
        due("199", behind(24, ONE_BED).would(0), 7);
        slowReading();
    }

    /** MEMBER 0 is in each PARISH for so many HOURS, so that the last HOURS are those in the last PARISH. */
    private static void slowReading() {
        String slow = "p30,0,9;p30,0,9;p30,0,9;p30,0,9;p30,0,9;p30,0,9;m0,1,1;b1;";
        due("PARISH 5 lies 150 HOURS ahead", layNew(slow).would(0), 63);
        due("PARISH 0 has one HOUR still", behind(29, slow).would(0), 63);
        due("PARISH 0 has none", behind(30, slow).would(0), 62);
        due("the END", behind(180, slow).would(0), 32);
    }

    private static void orderDue(Law x, int most, int... row) {
        due("how many HOLD", x.order(-1), most);
        for (int i = 0; i < row.length; i++) {
            due("BILL " + i + " of the row", x.order(i), row[i]);
        }
        due("behind the last", x.order(row.length), BAD);
        due("ahead of how many", x.order(-2), BAD);
    }

    private static void orders() {
        sentence("ORDER: one BILL is READ now and one behind each of the next 200 HOURS");
        orderDue(behind(22, ONE_BED), 0, 0);
        orderDue(behind(23, ONE_BED), 1, 0);
        orderDue(layNew("p1,0,9;p1,0,9;m0,1,1;b1;"), 1, 0);
        orderDue(behind(1, "p1,0,9;p1,0,9;m0,1,1;b1;"), 0, 0);
        sentence("by a row of all BILLS gone through again and again");
        orderDue(layNew("p3,0,9;p1,0,9;p9,0,9;m0,1,4;b3;"), 1, 2, 0, 1);
        orderDue(layNew("p3,0,9;p1,0,9;p9,0,9;m0,1,7;b3;"), 1, 0, 1, 2);
        orderDue(layNew("p4,0,9;p1,0,9;p9,0,9;m0,1,8;b4;"), 1, 3, 0, 1, 2);
        orderDue(layNew("p5,0,9;p1,0,9;p9,0,9;m0,1,8;b4;"), 1, 0, 3, 1, 2);
        orderDue(layNew("p2,0,9;p1,0,9;p9,0,9;m0,1,2;b2;"), 1, 1, 0);
        orderDue(layNew("p3,0,9;p1,0,9;p9,0,9;m0,1,2;b2;"), 1, 0, 1);
        sentence("that by which most BILLS HOLD in the end, of several the first (by the first BILL, then the second, ..)");
        for (int bills = 1; bills <= 4; bills++) {
            int[] first = Arrays.copyOf(new int[] {0, 1, 2, 3}, bills);
            for (int mind = 0; mind < 16; mind++) {
                Law x = layNew("p9,0,9;m0,1," + mind + ";b" + bills + ";");
                orderDue(x, Integer.bitCount(mind & (1 << bills) - 1), first);
            }
        }
        for (int number = 0; number < 256; number++) {
            int[] row = {number >> 6, number >> 4 & 3, number >> 2 & 3, number & 3};
            if (Arrays.stream(row).distinct().count() == 4) {
                orderDue(onlyBy(row), 4, row);
            }
        }
        Law two = layNew("p1,0,9;p1,0,9;p1,0,9;m0,1,3;b2;");
        orderDue(two, 0, 0, 1);
        two.read(0);
        orderDue(two, 1, 1, 0);
        two.read(1);
        orderDue(two, 1, 0, 1);
    }

    /** BILL row[k] still lacks PARISH k alone, in which MEMBER 0 is behind k HOURS; all lack the last one. */
    private static Law onlyBy(int[] row) {
        Law x = layNew("p5,0,9;p1,0,0;p1,0,0;p2,0,0;p30,0,9;m0,1,15;b4;");
        for (int h = 0; h < 8; h++) {
            int p = Math.max(0, h - 4);
            for (int k = 0; k < 4; k++) {
                if (k != p) {
                    due("PASSES in " + p, x.read(row[k]), 1);
                }
            }
            x.hours(1);
        }
        due("driven back through three inns", x.member(0, 3), 4);
        return x;
    }

    private static void fallingBack() {
        sentence("FALLS BACK: how many more of the BILLS that a MEMBER is for now HOLD in the end, .. and 100");
        for (int bills = 1; bills <= 4; bills++) {
            for (int mind = 0; mind < 16; mind++) {
                int his = Integer.bitCount(mind & (1 << bills) - 1);
                Law x = layNew("p1,0,9;p9,0,9;m0,1," + mind + ";b" + bills + ";");
                due("more by him: " + his, x.back(0), 100 + his);
                x.read(0);
                due("one of them is READ already", x.back(0), 100 + his - (mind & 1));
                Law y = layNew("p1,0,9;p1,0,9;p1,0,9;q2;m0,1,15;m5,1," + mind + ";b" + bills + ";");
                for (int b = 0; b < bills; b++) {
                    y.read(b);
                }
                due("fewer by the SILENT one", y.back(1), 100 - his);
                due("fewer by the other", y.back(0), 100 - bills);
                due("behind the last MEMBER", y.back(2), BAD);
                due("ahead of the first", y.back(-1), BAD);
            }
        }
        sentence("All BILLS are READ behind each of the next 200 HOURS");
        due("none is READ now", layNew("p1,0,9;p1,0,9;m0,1,1;b1;").back(0), 101);
        due("behind the first, even so", layNew("p1,0,9;p1,0,9;m0,1,1;b1;").back(0), 101);
        due("behind the second it is too late", behind(1, "p1,0,9;p1,0,9;m0,1,1;b1;").back(0), 100);
        due("200", behind(23, ONE_BED).back(0), 99);
        due("201", behind(22, ONE_BED).back(0), 100);
        due("199 and one late", behind(24, ONE_BED).back(7), 100);
        sentence("the BILLS that a MEMBER is for now");
        Law x = behind(7, "p9,0,9;p1,0,9;p1,0,9;q3;b1;m0,1,1;m5,1,0;m5,1,1;");
        x.read(0);
        due("not for it yet", x.back(1), 100);
        x.hours(1);
        due("the night has brought him to it", x.member(1, 2), 1);
        due("for it now", x.back(1), 99);
    }

    // ---- parties, joining

    private static void partiesDue(Law x, int p, int... want) {
        for (int i = -1; i + 1 < want.length; i++) {
            due("parties(" + p + ", " + i + ")", x.parties(p, i), want[i + 1]);
        }
        due("behind the last MEMBER", x.parties(p, want.length - 1), BAD);
        due("ahead of how many", x.parties(p, -2), BAD);
    }

    private static int choose(int n, int k) {
        return k < 0 || k > n ? 0 : k == 0 ? 1 : choose(n - 1, k - 1) * n / k;
    }

    private static void partiesAndJoining() {
        sentence("sets of MEMBERS there whose PACES together are more than half, and of whom nobody can be missed");
        for (int pace = 1; pace <= 9; pace++) {
            for (int n = 1; n <= 8; n++) {
                int size = n / 2 + 1;
                int[] want = new int[n + 1];
                Arrays.fill(want, choose(n - 1, size - 1));
                want[0] = choose(n, size);
                partiesDue(layNew("p9,0,9;" + times(n, "m" + n % 6 + "," + pace + ",0;")), 0, want);
            }
            for (int other = 1; other <= 9; other++) {
                partiesDue(layNew("p9,0,9;m0," + pace + ",0;m0," + other + ",0;"), 0, 1, pace >= other ? 1 : 0,
                    other >= pace ? 1 : 0);
            }
        }
        partiesDue(layNew("p9,0,9;m0,3,0;m0,2,0;m0,1,0;"), 0, 2, 2, 1, 1);
        partiesDue(layNew("p9,0,9;m0,2,0;m0,1,0;m0,1,0;"), 0, 2, 2, 1, 1);
        partiesDue(layNew("p9,0,9;m0,3,0;m0,1,0;m0,1,0;"), 0, 1, 1, 0, 0);
        partiesDue(layNew("p9,0,9;m0,2,0;m0,2,0;m0,1,0;"), 0, 3, 2, 2, 2);
        sentence("in how many a MEMBER is (PARTIES)");
        Law x = behind(1, "p5,0,9;p5,0,9;p5,0,9;m0,6,0;m0,1,0;m0,6,0;");
        partiesDue(x, 0, 1, 0, 1, 0);
        partiesDue(x, 1, 1, 1, 0, 1);
        partiesDue(x, 2, 0, 0, 0, 0);
        due("behind the last PARISH", x.parties(3, -1), BAD);
        due("ahead of the first", x.parties(-1, -1), BAD);
        joining();
    }

    private static void joining() {
        sentence("JOIN: the fewest MEMBERS more (of higher numbers, PLAIN, for it; 0 to 20)");
        for (int q = 1; q <= 8; q++) {
            for (int n = 1; n <= 8; n++) {
                for (int fors = 0; fors <= n; fors++) {
                    Law x = layNew("p9,0,9;p9,0,9;q" + q + ";" + plain(n, fors));
                    int want = Math.max(0, Math.max(n - 2 * fors + 1, q - n));
                    due(fors + " of " + n + " for it, QUORUM " + q, x.join(0, 0), want);
                    due("where nobody is, QUORUM " + q, x.join(1, 0), q);
                    due("nobody has joined", x.count(1), n);
                }
            }
        }
        for (int n = 1; n <= 8; n++) {
            due("the HIRED follow him", layNew("p9,0,9;" + times(n, "m4,1,0;")).join(0, 3), 1);
            due("the SILENT say nothing", layNew("p9,0,9;" + times(n, "m5,1,0;")).join(0, 3), 1);
            due("TWO-SIDED in 0", layNew("p9,0,9;" + times(n, "m3,1,0;")).join(0, 3), 0);
            due("TWO-SIDED in 1", behind(1, "p1,0,9;p9,0,9;" + times(n, "m3,1,15;")).join(1, 3), n + 1);
        }
        due("the HIRED follow a lower one", layNew("p9,0,9;" + times(7, "m4,1,0;") + "m0,1,0;").join(0, 0), 9);
        due("and a SILENT one", layNew("p9,0,9;" + times(7, "m4,1,0;") + "m5,1,0;").join(0, 0), 8);
        Law x = layNew("p9,0,9;p9,0,9;m0,1,15;b2;");
        due("the last PARISH and BILL", x.join(1, 1), 1);
        due("no such PARISH", x.join(2, 1), BAD);
        due("no such BILL", x.join(1, 2), BAD);
        due("no such PARISH", x.join(-1, 0), BAD);
        due("no such BILL", x.join(0, -1), BAD);
    }

    // ---- diaries

    /** In PARISH 1 behind 25 HOURS alone. */
    private static final String ONCE = "p25,0,9;p1,0,9;p30,0,9;m0,1,0;";
    /** In PARISH 0 up to HOUR 6 and at each HOUR that 8 divides, in PARISH 1 at all others. */
    private static final String INN = "p7,0,9;p9,0,0;m0,1,0;";

    private static void diaries() {
        sentence("DIARY (10 lines at most)");
        Law x = layNew("p9,0,9;p9,0,9;m0,1,0;m0,1,0;b1;");
        for (int line = 1; line <= 10; line++) {
            due("line " + line, x.diary(line % 2, 1, 400), line);
            due("lines", x.count(5), line);
        }
        due("line 11", x.diary(0, 0, 0), FULL);
        due("ten still", x.count(5), 10);
        due("all are so", x.wrong(), 0);
        due("how many there were", x.noDiary(), 10);
        due("none now", x.noDiary(), 0);
        due("the first again", x.diary(0, 1, 0), 1);
        due("it is false", x.wrong(), 1);
        sentence("MEMBER i was in PARISH p behind h (0 to 400) HOURS, as it was LAID. FALSE: lines (bits) that are not so");
        falseLines();
        sentence("LATE: of d from -20 to 20 that by which, added to h (0 at least), most lines are so");
        lateLines();
        sentence("of several the nearest to 0, then the lower: d and 20");
        nearestLines();
    }

    private static void falseLines() {
        int[][] lines = {{0, 0}, {6, 0}, {7, 1}, {8, 0}, {9, 1}, {391, 1}, {392, 0}, {393, 1}, {399, 1}, {400, 0}};
        for (int odd = -1; odd < 10; odd++) {
            Law x = layNew(INN);
            for (int k = 0; k < 10; k++) {
                due("a line", x.diary(0, k == odd ? 1 - lines[k][1] : lines[k][1], lines[k][0]), k + 1);
            }
            int want = odd < 0 ? 0 : 1 << odd;
            due("all but " + odd, x.wrong(), want);
            x.hours(11);
            x.keep();
            x.hours(99);
            due("as it was LAID", x.wrong(), want);
            x.again();
            due("as it was LAID", x.wrong(), want);
        }
        Law x = layNew("p9,0,9;p9,0,9;m0,1,0;m0,9,0;");
        due("-1 HOURS", x.diary(0, 0, -1), BAD);
        due("401 HOURS", x.diary(0, 0, 401), BAD);
        due("the last MEMBER and PARISH", x.diary(1, 1, 0), 1);
        due("no such MEMBER", x.diary(2, 1, 0), BAD);
        due("no such PARISH", x.diary(1, 2, 0), BAD);
        due("no such MEMBER", x.diary(-1, 1, 0), BAD);
        due("no such PARISH", x.diary(1, -1, 0), BAD);
        due("one line", x.count(5), 1);
        due("it is false", x.wrong(), 1);
        Law three = layNew("p9,0,9;p9,0,9;m0,1,0;m0,9,0;m0,3,0;");
        for (int h = 0; h <= 3; h++) {
            int[] where = {0, h < 1 ? 0 : 1, h < 3 ? 0 : 1};
            three.noDiary();
            for (int i = 0; i < 3; i++) {
                three.diary(i, 0, h);
                three.diary(i, 1, h);
            }
            due("each MEMBER behind " + h, three.wrong(), 2 - where[0] + 4 * (2 - where[1]) + 16 * (2 - where[2]));
        }
        Law all = layNew(INN);
        for (int k = 0; k < 10; k++) {
            all.diary(0, 1, 8 * k);
        }
        due("all ten", all.wrong(), 1023);
    }

    private static int lateBy(Law x, int[]... lines) {
        x.noDiary();
        for (int[] line : lines) {
            x.diary(0, line[0], line[1]);
        }
        return x.late() - 20;
    }

    private static void lateLines() {
        Law x = layNew(ONCE);
        due("no line", x.late(), 20);
        for (int d = -20; d <= 20; d++) {
            due("late by " + d, lateBy(x, new int[] {1, 25 - d}), d);
        }
        due("late by 21", lateBy(x, new int[] {1, 4}), 0);
        due("early by 21", lateBy(x, new int[] {1, 46}), 0);
        x.hours(30);
        due("as it was LAID", lateBy(x, new int[] {1, 24}), 1);
        // In PARISH 0 behind 0 HOURS alone.
        Law y = layNew("p1,0,9;p30,0,9;m0,1,0;");
        for (int h = 0; h <= 20; h++) {
            due("by " + h + " to 0", lateBy(y, new int[] {0, h}), -h);
            due("0 at least, by " + h, lateBy(y, new int[] {0, 0}, new int[] {0, h}), -h);
            due("0 at least for all that are farther", lateBy(y, new int[] {0, h}, new int[] {0, 20}), -20);
        }
        due("21 is too far", lateBy(y, new int[] {0, 21}), 0);
        due("21 is too far for that alone", lateBy(y, new int[] {0, 21}, new int[] {0, 3}), -3);
        Law inn = layNew(INN);
        due("behind 400", lateBy(inn, new int[] {0, 397}), 3);
        due("behind 401", lateBy(inn, new int[] {1, 400}, new int[] {1, 6}), 1);
        due("behind 408", lateBy(inn, new int[] {0, 400}, new int[] {1, 1}), 8);
        due("behind 416", lateBy(inn, new int[] {0, 400}, new int[] {0, 392}, new int[] {0, 0}, new int[] {0, 16}), 0);
        Law slow = layNew("p20,0,9;p9,0,9;p9,0,9;m0,1,0;");
        due("behind 420", lateBy(slow, new int[] {2, 400}, new int[] {1, 0}), 20);
    }

    private static void nearestLines() {
        for (int a = -20; a <= 20; a++) {
            Law x = layNew(ONCE);
            for (int b = a; b <= 20; b++) {
                int nearest = Math.abs(b) < Math.abs(a) ? b : a;
                due("by " + a + " or by " + b, lateBy(x, new int[] {1, 25 - b}, new int[] {1, 25 - a}), nearest);
            }
            due("most lines by " + a, lateBy(layNew(ONCE), new int[] {1, 25}, new int[] {1, 25 - a}, new int[] {1, 25 - a}), a);
        }
    }

    // ---- years

    private static int drawn(int z, int i) {
        BigInteger x = BigInteger.valueOf(7919L * z + 6151L * i + 1);
        return x.multiply(x).mod(BigInteger.valueOf(65521)).mod(BigInteger.valueOf(16)).intValue();
    }

    private static void years() {
        sentence("A YEAR by z (0 to 9999): MEMBER i is for the BILLS ((x times x) modulo 65521) modulo 16");
        Law one = new Law();
        int[] zs = {0, 1, 2, 33, 34, 35, 36, 5851, 5852, 9998, 9999};
        for (int z : zs) {
            due("one PLAIN MEMBER by " + z, one.year(z), drawn(z, 0));
            for (int n = 1; n <= 8; n++) {
                Law x = layNew("p9,0,9;" + times(n - 1, "m5,1,9;") + "m0,1,6;");
                due("the last of " + n + " alone has a voice, by " + z, x.year(z), drawn(z, n - 1) | mostOf(z, n));
            }
        }
        due("-1", one.year(-1), BAD);
        due("10000", one.year(10000), BAD);
        for (int bills = 1; bills <= 4; bills++) {
            due("BILLS such as there are", layNew("p9,0,9;m0,1,0;b" + bills + ";").year(9999), 7 & (1 << bills) - 1);
        }
        sentence("all BILLS are READ at first and behind each HOUR, to 200");
        due("at first", layNew("p1,0,9;p9,0,9;m0,1,0;").year(9999), 7);
        String seven = times(7, "m0,1,0;") + "b1;q8;";
        due("to 200", layNew("p16,1,8;p30,0,1;p30,0,8;" + seven + "m2,2,0;").year(0), 1);
        due("not to 201", layNew("p16,0,8;p24,0,1;p30,0,8;" + seven + "m0,1,0;").year(0), 0);
        sentence("as LAID (a YEAR)");
        Law x = layNew("p1,0,9;p9,0,9;m0,1,0;");
        x.read(0);
        x.hours(12);
        due("from mile 0 on", x.year(9999), 7);
        due("he is where he was", x.member(0, 3), 10);
        due("his mind is as it was", x.member(0, 2), 0);
        due("nothing PASSED", x.bill(0, 0), 0);
        due("the HOUR", x.count(3), 12);
        Law passed = new Law();
        passed.read(3);
        due("what has PASSED is not meant", passed.year(9999), 7);
        tens();
    }

    /** Nights bring all to what more than half are for. */
    private static int mostOf(int z, int n) {
        int most = 0;
        for (int b = 0; b < 4; b++) {
            int fors = 0;
            for (int i = 0; i < n; i++) {
                fors += bit(drawn(z, i), b);
            }
            most |= 2 * fors > n ? 1 << b : 0;
        }
        return most;
    }

    private static void tens() {
        sentence("TEN: of ten (z, z and 1, .. modulo 10000) in how many a BILL HOLDS");
        Law one = new Law();
        int[] zs = {0, 1, 4999, 9985, 9989, 9990, 9991, 9992, 9993, 9994, 9995, 9996, 9997, 9998, 9999};
        for (int z : zs) {
            for (int b = 0; b < 4; b++) {
                int found = 0;
                for (int k = 0; k < 10; k++) {
                    found += bit(drawn((z + k) % 10000, 0), b);
                }
                due("ten(" + z + ", " + b + ")", one.ten(z, b), found);
            }
        }
        due("-1", one.ten(-1, 0), BAD);
        due("10000", one.ten(10000, 0), BAD);
        due("no such BILL", one.ten(0, 4), BAD);
        due("no such BILL", one.ten(0, -1), BAD);
    }

    // ---- kept

    private static void keeping() {
        sentence("KEPT: 2 at most");
        Law x = new Law();
        due("none", x.again(), NO);
        due("1", x.keep(), 1);
        due("2", x.keep(), 2);
        due("3", x.keep(), FULL);
        due("2 still", x.count(6), 2);
        due("1 left", x.again(), 1);
        due("2 again", x.keep(), 2);
        due("3", x.keep(), FULL);
        sentence("As KEPT last (it is KEPT no more then): how many are left");
        due("1 left", x.again(), 1);
        due("0 left", x.again(), 0);
        due("none", x.again(), NO);
        due("none still", x.count(6), 0);
        sentence("KEPT are where MEMBERS are, minds, what PASSED, MADE, the HOUR");
        String text = "p9,1,2;p5,0,1;p30,0,8;m0,3,15;m2,4,3;m1,1,9;m0,1,4;b3;";
        for (int first = 0; first <= 16; first += 4) {
            for (int second = 1; second <= 17; second += 4) {
                Law y = behind(first, text);
                readAll(y);
                y.keep();
                y.hours(second);
                readAll(y);
                y.keep();
                y.hours(9);
                readAll(y);
                y.again();
                Law twin = behind(first, text);
                readAll(twin);
                twin.keep();
                twin.hours(second);
                readAll(twin);
                due("as KEPT last", Arrays.equals(allAnswers(y), allAnswers(twin)) ? 1 : 0, 1);
            }
        }
        Law y = behind(3, text);
        y.keep();
        y.diary(0, 0, 0);
        put(y, "q1;");
        y.again();
        due("the DIARY stays", y.count(5), 1);
        due("THE TEXT stays", y.count(7), text.length() + 3);
    }

    private static void readAll(Law x) {
        for (int b = 0; b < 3; b++) {
            x.read(b);
        }
    }

    // ---- how many

    private static void counting() {
        sentence("How many: 0 PARISHES, .. 8 QUORUM");
        int[] least = {1, 1, 1, 0, 1, 0, 0, 17, 1};
        Law small = layNew(SMALLEST + "b1;");
        int[] most = {6, 8, 4, 9999, 180, 10, 2, 300, 8};
        Law large = full();
        for (int what = 0; what < 9; what++) {
            due("least count(" + what + ")", small.count(what), least[what]);
            due("most count(" + what + ")", large.count(what), most[what]);
        }
        small.wipe();
        due("no TEXT", small.count(7), 0);
        due("count(9)", small.count(9), BAD);
        due("count(-1)", small.count(-1), BAD);
        sentence("Of a PARISH: miles (0), MUDDY (1), BEDS (2), MEMBERS in it now, as bits (3)");
        due("the highest what", large.parish(5, 3), 255);
        due("what 4", large.parish(5, 4), BAD);
        due("what -1", large.parish(5, -1), BAD);
        sentence("Of a MEMBER: KIND (0), PACE (1), BILLS (2), mile (3), PARISH (4)");
        due("the highest what", large.member(7, 4), 5);
        due("what 5", large.member(7, 5), BAD);
        due("what -1", large.member(7, -1), BAD);
        sentence("VOICES: yes (0), no (1), 1 if it PASSES (2)");
        due("the highest what", large.voices(5, 3, 2), 1);
        due("what 3", large.voices(5, 3, 3), BAD);
        due("what -1", large.voices(5, 3, -1), BAD);
        sentence("Of a BILL: PARISHES (0), 1 if it HOLDS (1), MADE (2; NONE)");
        due("the highest what", large.bill(3, 2), NONE);
        due("what 3", large.bill(3, 3), BAD);
        due("what -1", large.bill(3, -1), BAD);
    }

    /** As much of all as there may be. */
    private static Law full() {
        String text = times(6, "p30,0,40;") + times(8, "m0,9,15;") + "q8;b4;";
        int rest = 300 - text.length();
        text += times(rest / 3 - rest % 3, "q8;") + times(rest % 3, "q08;");
        Law x = layNew(text);
        x.hours(10);
        x.keep();
        x.hours(89);
        x.keep();
        for (int k = 0; k < 100; k++) {
            x.hours(99);
        }
        for (int line = 0; line < 10; line++) {
            x.diary(7, line % 6, 40 * line + 40);
        }
        return x;
    }

    // ---- refused calls

    /** All that can be asked; what was kept, and the rest of the diary and text, in the end. */
    private static int[] allAnswers(Law x) {
        List<Integer> all = new ArrayList<>();
        int parishes = x.count(0);
        int members = x.count(1);
        int bills = x.count(2);
        askHowThingsAre(x, parishes, members, bills, all);
        askAhead(x, parishes, members, bills, all);
        all.add(x.diary(0, 0, 3));
        all.add(x.wrong());
        all.add(x.noDiary());
        for (int k = 0; k < 3; k++) {
            all.add(x.again());
            all.add(x.count(3));
            for (int i = 0; i < members; i++) {
                all.add(x.member(i, 2));
                all.add(x.member(i, 3));
            }
            for (int b = 0; b < bills; b++) {
                all.add(x.bill(b, 0));
                all.add(x.bill(b, 2));
            }
        }
        all.add(x.fault());
        all.add(x.lay());
        all.add(x.count(8));
        all.add(x.wipe());
        return all.stream().mapToInt(n -> n).toArray();
    }

    private static void askHowThingsAre(Law x, int parishes, int members, int bills, List<Integer> all) {
        for (int what = 0; what < 9; what++) {
            all.add(x.count(what));
        }
        for (int p = 0; p < parishes; p++) {
            for (int what = 0; what < 4; what++) {
                all.add(x.parish(p, what));
            }
            for (int b = 0; b < bills; b++) {
                all.add(x.voices(p, b, 0));
                all.add(x.join(p, b));
            }
            all.add(x.parties(p, -1));
        }
        for (int i = 0; i < members; i++) {
            for (int what = 0; what < 5; what++) {
                all.add(x.member(i, what));
            }
        }
        for (int b = 0; b < bills; b++) {
            for (int what = 0; what < 3; what++) {
                all.add(x.bill(b, what));
            }
        }
    }

    private static void askAhead(Law x, int parishes, int members, int bills, List<Integer> all) {
        for (int i = 0; i < members; i++) {
            all.add(x.mile(9, i));
            all.add(x.back(i));
        }
        for (int p = 0; p < parishes; p++) {
            all.add(x.who(1, p));
        }
        for (int b = 0; b < bills; b++) {
            all.add(x.would(b));
            all.add(x.order(b));
        }
        all.add(x.order(-1));
        all.add(x.arrives());
        all.add(x.wrong());
        all.add(x.late());
        all.add(x.year(9999));
    }

    /** The call is asked of x alone, and answered so; then all answers are the twin's. */
    private static void same(String what, Law x, Call call, int want, Law twin) {
        same(what, x, call, want, allAnswers(twin));
    }

    private static void same(String what, Law x, Call call, int want, int[] twinAnswers) {
        due(what, call.on(x), want);
        due("changed behind " + what, Arrays.equals(allAnswers(x), twinAnswers) ? 0 : 1, 0);
    }

    private static Law onTheWay() {
        Law x = layNew("p9,1,3;p5,0,2;p30,1,4;p1,0,40;p2,1,5;p7,0,8;q2;b3;"
            + "m0,2,7;m1,9,1;m2,4,2;m3,2,4;m4,2,15;m5,2,8;m0,3,3;m0,1,13;");
        x.read(0);
        x.hours(2);
        x.read(0);
        x.diary(0, 0, 1);
        x.diary(7, 1, 13);
        x.keep();
        x.hours(9);
        x.read(1);
        x.diary(4, 2, 99);
        return put(x, "q5;b2;p3");
    }

    private static void refusals() {
        sentence("BAD: a number is none that is told; nothing changes then (a new object)");
        refusedIn(Law::new);
        sentence("BAD: a number is none that is told (PARISHES, MEMBERS, BILLS: such as there are); nothing changes then");
        refusedIn(BoundariesTest::onTheWay);
        sentence("BAD goes ahead of NO and FULL: of several the first; nothing changes then");
        refusedIn(BoundariesTest::full);
        sentence("NO: not as things stand; nothing changes then");
        int[] twin = allAnswers(full());
        for (int n = 1; n <= 99; n += 7) {
            int hours = n;
            same("hours(" + n + ")", full(), x -> x.hours(hours), NO, twin);
        }
        same("again() of a new object", new Law(), x -> x.again(), NO, new Law());
        same("lay() of a new object", new Law(), x -> x.lay(), NO, new Law());
        same("lay() of a FAULT", onTheWay(), x -> x.lay(), NO, onTheWay());
        sentence("FULL; nothing changes then");
        for (int n = 1; n <= 8; n++) {
            int bytes = n;
            same("write(" + n + ", ..)", full(), x -> x.write(bytes, 0x71313b71313b71L), FULL, twin);
            Law near = put(onTheWay(), "");
            String rest = times(301 - n - near.count(7), "q");
            same("write(" + n + ", ..) up to 301", put(near, rest), x -> x.write(bytes, 0x3b), FULL, put(onTheWay(), rest));
        }
        same("diary(0, 0, 0)", full(), x -> x.diary(0, 0, 0), FULL, twin);
        same("keep()", full(), x -> x.keep(), FULL, twin);
        sentence("NONE: there is none; nothing changes then");
        same("fault()", full(), x -> x.fault(), NONE, twin);
        same("bill(0, 2)", full(), x -> x.bill(0, 2), NONE, twin);
        same("arrives()", layNew("p1,1,0;m2,1,0;"), x -> x.arrives(), NONE, layNew("p1,1,0;m2,1,0;"));
    }

    private static void refusedIn(Supplier<Law> made) {
        Law twin = made.get();
        int parishes = twin.count(0);
        int members = twin.count(1);
        int bills = twin.count(2);
        int[] answers = allAnswers(made.get());
        badRoads(made, answers, parishes, members);
        badOnTheWay(made, answers, parishes, bills);
        badAhead(made, answers, parishes, members, bills);
        badParties(made, answers, parishes, members, bills);
        badYears(made, answers, bills);
    }

    private static void badRoads(Supplier<Law> made, int[] answers, int parishes, int members) {
        for (int n : beside(1, 8)) {
            same("write(" + n + ", ..)", made.get(), x -> x.write(n, 0x71313b), BAD, answers);
        }
        for (int p : beside(0, parishes - 1)) {
            same("parish(" + p + ", 0)", made.get(), x -> x.parish(p, 0), BAD, answers);
        }
        for (int what : beside(0, 3)) {
            same("parish(0, " + what + ")", made.get(), x -> x.parish(0, what), BAD, answers);
        }
        for (int i : beside(0, members - 1)) {
            same("member(" + i + ", 0)", made.get(), x -> x.member(i, 0), BAD, answers);
        }
        for (int what : beside(0, 4)) {
            same("member(0, " + what + ")", made.get(), x -> x.member(0, what), BAD, answers);
        }
        for (int what : beside(0, 8)) {
            same("count(" + what + ")", made.get(), x -> x.count(what), BAD, answers);
        }
    }

    private static void badOnTheWay(Supplier<Law> made, int[] answers, int parishes, int bills) {
        for (int n : beside(1, 99)) {
            same("hours(" + n + ")", made.get(), x -> x.hours(n), BAD, answers);
        }
        for (int p : beside(0, parishes - 1)) {
            same("voices(" + p + ", 0, 0)", made.get(), x -> x.voices(p, 0, 0), BAD, answers);
        }
        for (int b : beside(0, bills - 1)) {
            same("voices(0, " + b + ", 0)", made.get(), x -> x.voices(0, b, 0), BAD, answers);
            same("read(" + b + ")", made.get(), x -> x.read(b), BAD, answers);
            same("bill(" + b + ", 0)", made.get(), x -> x.bill(b, 0), BAD, answers);
        }
        for (int what : beside(0, 2)) {
            same("voices(0, 0, " + what + ")", made.get(), x -> x.voices(0, 0, what), BAD, answers);
            same("bill(0, " + what + ")", made.get(), x -> x.bill(0, what), BAD, answers);
        }
    }

    private static void badAhead(Supplier<Law> made, int[] answers, int parishes, int members, int bills) {
        for (int n : beside(0, 400)) {
            same("mile(" + n + ", 0)", made.get(), x -> x.mile(n, 0), BAD, answers);
            same("who(" + n + ", 0)", made.get(), x -> x.who(n, 0), BAD, answers);
        }
        for (int i : beside(0, members - 1)) {
            same("mile(0, " + i + ")", made.get(), x -> x.mile(0, i), BAD, answers);
            same("back(" + i + ")", made.get(), x -> x.back(i), BAD, answers);
        }
        for (int p : beside(0, parishes - 1)) {
            same("who(0, " + p + ")", made.get(), x -> x.who(0, p), BAD, answers);
        }
        for (int b : beside(0, bills - 1)) {
            same("would(" + b + ")", made.get(), x -> x.would(b), BAD, answers);
        }
        for (int i : beside(-1, bills - 1)) {
            same("order(" + i + ")", made.get(), x -> x.order(i), BAD, answers);
        }
    }

    private static void badParties(Supplier<Law> made, int[] answers, int parishes, int members, int bills) {
        for (int p : beside(0, parishes - 1)) {
            same("parties(" + p + ", -1)", made.get(), x -> x.parties(p, -1), BAD, answers);
            same("join(" + p + ", 0)", made.get(), x -> x.join(p, 0), BAD, answers);
            same("diary(0, " + p + ", 0)", made.get(), x -> x.diary(0, p, 0), BAD, answers);
        }
        for (int i : beside(-1, members - 1)) {
            same("parties(0, " + i + ")", made.get(), x -> x.parties(0, i), BAD, answers);
        }
        for (int b : beside(0, bills - 1)) {
            same("join(0, " + b + ")", made.get(), x -> x.join(0, b), BAD, answers);
        }
        for (int i : beside(0, members - 1)) {
            same("diary(" + i + ", 0, 0)", made.get(), x -> x.diary(i, 0, 0), BAD, answers);
        }
        for (int h : beside(0, 400)) {
            same("diary(0, 0, " + h + ")", made.get(), x -> x.diary(0, 0, h), BAD, answers);
        }
    }

    private static void badYears(Supplier<Law> made, int[] answers, int bills) {
        for (int z : beside(0, 9999)) {
            same("year(" + z + ")", made.get(), x -> x.year(z), BAD, answers);
            same("ten(" + z + ", 0)", made.get(), x -> x.ten(z, 0), BAD, answers);
        }
        for (int b : beside(0, bills - 1)) {
            same("ten(0, " + b + ")", made.get(), x -> x.ten(0, b), BAD, answers);
        }
    }
}
