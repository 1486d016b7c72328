/** For each promise of ../shared/DOC.md: ordinary inputs, the edges that it names, and wrong inputs. */
public final class PromisesTest {
    private static final int BAD = -1, NO = -2, FULL = -3, NONE = -4;
    private static final int[] WILD = {
        Integer.MIN_VALUE, -1000, -4, -3, -2, 1000, 10001, 65536, Integer.MAX_VALUE - 1, Integer.MAX_VALUE};

    /** All walk a mile an HOUR to an inn of one bed, and leave it one by one, the last behind 223 HOURS. */
    private static final String ONE_BED = "p26,0,8;p30,0,1;p30,0,8;q8;b1;"
        + "m0,1,1;m0,1,1;m0,1,1;m0,1,1;m0,1,1;m0,1,1;m0,1,1;m0,1,1;";

    private static int checked = 0;
    private static int wrong = 0;
    private static int promise = 0;

    public static void main(String[] args) {
        aNewObject();
        write();
        wipe();
        fault();
        lay();
        parish();
        member();
        hours();
        nights();
        voices();
        read();
        bill();
        mile();
        who();
        arrives();
        would();
        order();
        back();
        parties();
        join();
        diary();
        noDiary();
        wrongLines();
        late();
        year();
        ten();
        keep();
        again();
        count();
        System.out.println("PromisesTest: " + checked + " answers looked at, " + wrong + " wrong");
        if (wrong != 0) {
            System.exit(1);
        }
    }

    private static void due(String what, long got, long want) {
        checked++;
        if (got != want) {
            wrong++;
            System.out.println("promise " + promise + ": " + what + " answered " + got + ", due is " + want);
        }
    }

    private static void put(WalkingLaw x, String text) {
        int at = 0;
        while (at < text.length()) {
            int n = Math.min(8, text.length() - at);
            long v = 0;
            for (int k = 0; k < n; k++) {
                v = v << 8 | text.charAt(at + k) & 255;
            }
            x.write(n, v);
            at += n;
        }
    }

    private static WalkingLaw told(String text) {
        WalkingLaw x = new WalkingLaw();
        put(x, text);
        return x;
    }

    private static WalkingLaw laid(String text) {
        WalkingLaw x = told(text);
        if (x.lay() < 1) {
            wrong++;
            System.out.println("promise " + promise + ": could not be LAID: " + text);
        }
        return x;
    }

    private static WalkingLaw after(int hours, String text) {
        WalkingLaw x = laid(text);
        if (hours > 0) {
            x.hours(hours);
        }
        return x;
    }

    private static void aNewObject() {
        promise = 1;
        WalkingLaw x = new WalkingLaw();
        int[] counts = {1, 1, 4, 0, 9, 0, 0, 0, 1};
        for (int what = 0; what < counts.length; what++) {
            due("count(" + what + ")", x.count(what), counts[what]);
        }
        due("miles", x.parish(0, 0), 9);
        due("mud", x.parish(0, 1), 0);
        due("beds", x.parish(0, 2), 9);
        due("those there", x.parish(0, 3), 1);
        due("kind", x.member(0, 0), 0);
        due("pace", x.member(0, 1), 3);
        due("mind", x.member(0, 2), 15);
        due("mile", x.member(0, 3), 0);
        due("passed", x.bill(3, 0), 0);
        due("made", x.bill(3, 2), NONE);
        due("no fault", x.fault(), NONE);
        due("the empty text can't be laid", x.lay(), NO);
        due("nothing kept", x.again(), NO);
        due("constants", WalkingLaw.BAD, BAD);
        due("constants", WalkingLaw.NO, NO);
        due("constants", WalkingLaw.FULL, FULL);
        due("constants", WalkingLaw.NONE, NONE);
    }

    private static void write() {
        promise = 2;
        WalkingLaw x = new WalkingLaw();
        due("write(0)", x.write(0, 1), BAD);
        due("write(9)", x.write(9, 1), BAD);
        for (int n : WILD) {
            due("write(" + n + ")", x.write(n, 1), BAD);
        }
        due("nothing was written", x.count(7), 0);
        due("only the lowest byte", x.write(1, 0x7878787878787870L), 1);
        due("the highest first", x.write(7, 0x7f392c302c393bL + (0x7fL << 56)), 8);
        due("an odd byte is a fault", x.fault(), 0);
        x.wipe();
        x.write(4, 0xffffffff70392c30L);
        due("seven in all", x.write(3, 0x2c393bL), 7);
        due("p9,0,9;", x.fault(), NONE);
        due("eight more", x.write(8, 0x6d302c332c31353bL), 15);
        due("m0,3,15;", x.lay(), 1);
        due("mind", x.member(0, 2), 15);
        x.wipe();
        for (int k = 1; k <= 37; k++) {
            due("by eights", x.write(8, 0x71313b71313b7131L), 8 * k);
        }
        due("above 300", x.write(5, 0), FULL);
        due("nothing was written", x.count(7), 296);
        due("three more", x.write(3, 0), 299);
        due("two are too many", x.write(2, 0), FULL);
        due("BAD goes ahead of FULL", x.write(9, 0), BAD);
        due("the last one", x.write(1, 0), 300);
        due("full", x.write(1, 0), FULL);
        due("BAD goes ahead of FULL", x.write(0, 0), BAD);
    }

    private static void wipe() {
        promise = 3;
        WalkingLaw x = told("p9,0,9;m0,");
        due("how long it was", x.wipe(), 10);
        due("empty", x.count(7), 0);
        due("empty", x.wipe(), 0);
        due("no fault", x.fault(), NONE);
        put(x, "q1;");
        due("anew from the beginning", x.fault(), NONE);
        due("anew from the beginning", x.count(7), 3);
        WalkingLaw y = after(2, "p9,0,9;m0,3,15;q1;");
        y.wipe();
        due("what is laid stays", y.member(0, 3), 6);
    }

    private static void faultOf(String text, int want) {
        due("fault of " + text, told(text).fault(), want);
    }

    private static void fault() {
        promise = 4;
        String[] good = {
            "", "p1,0,0;", "p30,1,40;", "p09,00,09;", "m0,1,0;", "m5,9,15;", "m00,01,00;", "q1;", "q8;", "q08;",
            "b1;", "b4;", "b1;b2;q3;q4;", "m0,3,15;p9,0,9;", "q1;m0,3,15;b2;p9,0,9;",
            "p1,0,0;p1,0,0;p1,0,0;p1,0,0;p1,0,0;p1,0,0;",
            "m0,1,0;m1,1,0;m2,1,0;m3,1,0;m4,1,0;m5,1,0;m0,1,0;m0,1,0;"};
        for (String text : good) {
            faultOf(text, NONE);
        }
        String[] bad = {
            "p0,0,0;", "p31,0,0;", "p9,2,0;", "p9,0,41;", "p9,0;", "p9,0,9,1;", "p,0,9;", "p9,,9;", "p9,0,;", "p9,0,9",
            "p009,0,9;", "p9,000,9;", "p9,0,009;", "p9,0,9:", "p9;0,9;", "p 9,0,9;", "p9,0,9 ;", "p-9,0,9;", "p",
            "m6,3,15;", "m0,0,1;", "m0,10,1;", "m0,1,16;", "m0,1;", "m0,1,1,1;", "m0,1,1", "m",
            "q0;", "q9;", "q1", "q1,1;", "q;", "q", "q10;", "b0;", "b5;", "b", "b1", "b1,;", "b99;",
            "x1;", "P9,0,9;", "M0,1,1;", "Q1;", "B1;", ";", ",", "1;", " q1;", "\0", "\u00f1" + "1;", "q\u00b1;"};
        for (String text : bad) {
            faultOf(text, 0);
            faultOf("q1;" + text, 3);
            faultOf("p9,0,9;m0,3,15;" + text, 15);
            faultOf(text + "q1;", 0);
        }
        faultOf("b1;b5;b0;", 3);
        faultOf("q1;;q1;", 3);
        faultOf("q1;q1;q", 6);
        faultOf("p1,0,0;p1,0,0;p1,0,0;p1,0,0;p1,0,0;p1,0,0;p1,0,0;", 42);
        faultOf("m0,1,0;m1,1,0;m2,1,0;m3,1,0;m4,1,0;m5,1,0;m0,1,0;m0,1,0;m0,1,0;", 56);
        WalkingLaw x = after(1, "p9,0,9;p1,0,9;m0,3,15;");
        put(x, "p0,0,0;");
        due("behind what was laid", x.fault(), 22);
        due("what is laid stays", x.count(0), 2);
        due("what is laid stays", x.member(0, 3), 3);
    }

    private static void lay() {
        promise = 5;
        String text = "p9,1,9;p5,0,8;m0,3,15;m1,2,3;m2,4,7;q2;q3;b2;b3;";
        WalkingLaw x = told(text);
        due("how many members", x.lay(), 3);
        due("the last quorum", x.count(8), 3);
        due("the last number of bills", x.count(2), 3);
        due("the text stays", x.count(7), text.length());
        x.hours(9);
        x.read(0);
        x.diary(0, 0, 0);
        x.keep();
        due("laid anew", x.lay(), 3);
        due("hour 0", x.count(3), 0);
        due("mile 0", x.member(0, 3), 0);
        due("mile 0", x.member(1, 3), 0);
        due("minds as told", x.member(1, 2), 3);
        due("nothing passed", x.bill(0, 0), 0);
        due("nothing made", x.bill(0, 2), NONE);
        due("no diary", x.count(5), 0);
        due("nothing kept", x.count(6), 0);
        due("nothing kept", x.again(), NO);
        String[] refused = {"", "p9,0,9;", "m0,3,15;", "q1;b2;", "p9,0,9;m0,3,15;q0;", "p9,0,9;m0,3,15"};
        for (String no : refused) {
            WalkingLaw y = after(9, "p30,0,9;p5,0,8;m0,3,15;m5,3,3;q2;b3;");
            y.read(0);
            y.diary(0, 0, 0);
            y.keep();
            y.wipe();
            put(y, no);
            due("lay of " + no, y.lay(), NO);
            int[] counts = {2, 2, 3, 9, 35, 1, 1, no.length(), 2};
            for (int what = 0; what < counts.length; what++) {
                due("unchanged: count(" + what + ")", y.count(what), counts[what]);
            }
            due("unchanged: mile", y.member(0, 3), 27);
            due("unchanged: passed", y.bill(0, 0), 1);
            due("unchanged: kept", y.again(), 0);
        }
        WalkingLaw z = laid("p9,0,9;m0,3,15;q3;b2;");
        z.wipe();
        put(z, "p8,0,9;m0,3,15;");
        z.lay();
        due("one without", z.count(8), 1);
        WalkingLaw carted = laid("p9,0,9;m1,9,15;m5,9,15;m4,9,15;m3,9,0;");
        carted.wipe();
        put(carted, "p9,0,9;m0,9,15;m0,9,15;m0,9,15;m0,9,15;");
        carted.lay();
        carted.lay();
        due("the kinds are new", carted.voices(0, 0, 0), 4);
        due("four without", z.count(2), 4);
        due("the road is new", z.count(4), 8);
    }

    private static void parish() {
        promise = 6;
        WalkingLaw x = after(2, "p9,1,0;p5,0,40;p30,1,7;m0,3,15;m0,5,15;m0,9,15;m0,7,15;");
        int[][] told = {{9, 1, 0, 1}, {5, 0, 40, 2}, {30, 1, 7, 12}};
        for (int p = 0; p < 3; p++) {
            for (int what = 0; what < 4; what++) {
                due("parish(" + p + ", " + what + ")", x.parish(p, what), told[p][what]);
            }
            due("what", x.parish(p, 4), BAD);
            due("what", x.parish(p, -1), BAD);
        }
        due("above", x.parish(3, 0), BAD);
        due("below", x.parish(-1, 0), BAD);
        for (int n : WILD) {
            due("wild", x.parish(n, 0), BAD);
            due("wild", x.parish(0, n), BAD);
        }
        x.hours(10);
        due("at the END in the last one", x.parish(2, 3), 15);
    }

    private static void member() {
        promise = 7;
        WalkingLaw x = after(2, "p9,1,0;p5,0,40;p4,1,7;b2;m0,3,15;m1,9,8;m2,5,4;m3,5,3;m4,9,0;m5,7,9;");
        int[][] told = {{0, 3, 15, 6, 0}, {1, 9, 8, 8, 0}, {2, 5, 4, 4, 0}, {3, 5, 3, 10, 1}, {4, 9, 0, 18, 2},
            {5, 7, 9, 14, 2}};
        for (int i = 0; i < 6; i++) {
            for (int what = 0; what < 5; what++) {
                due("member(" + i + ", " + what + ")", x.member(i, what), told[i][what]);
            }
            due("what", x.member(i, 5), BAD);
            due("what", x.member(i, -1), BAD);
        }
        due("above", x.member(6, 0), BAD);
        due("below", x.member(-1, 0), BAD);
        for (int n : WILD) {
            due("wild", x.member(n, 0), BAD);
            due("wild", x.member(0, n), BAD);
        }
    }

    private static void milesBy(String text, int[][] miles) {
        WalkingLaw x = laid(text);
        for (int h = 0; h < miles.length; h++) {
            x.hours(1);
            for (int i = 0; i < miles[h].length; i++) {
                due("mile of " + i + " behind " + (h + 1) + " of " + text, x.member(i, 3), miles[h][i]);
            }
        }
    }

    private static void hours() {
        promise = 8;
        milesBy("p9,1,9;p9,0,9;m0,5,0;m1,9,0;m1,1,0;m2,5,0;m3,1,0;m4,2,0;m5,3,0;",
            new int[][] {{5, 4, 4, 2, 1, 2, 3}, {10, 8, 8, 4, 2, 4, 6}, {15, 12, 12, 6, 3, 6, 9},
                {18, 16, 16, 8, 4, 8, 12}, {18, 18, 18, 10, 5, 10, 15}, {18, 18, 18, 15, 6, 12, 18},
                {18, 18, 18, 18, 7, 14, 18}});
        milesBy("p1,0,9;p5,1,9;p9,0,9;m2,9,0;m2,3,0;m2,2,0;",
            new int[][] {{9, 3, 2}, {15, 4, 3}, {15, 5, 4}, {15, 6, 5}, {15, 9, 6}});
        String many = "m0,9,0;m0,8,0;m0,7,0;m0,6,0;m1,5,0;m2,4,0;m3,3,0;m4,3,0;";
        WalkingLaw eight = laid("p1,0,8;p2,1,8;p3,0,8;p4,1,8;p5,0,8;p6,1,8;b4;q8;" + many);
        int[] ends = {0, 0, 3, 4, 4, 5, 8, 8};
        for (int h = 0; h < ends.length; h++) {
            due("eight at the END", eight.hours(1), ends[h]);
        }
        WalkingLaw x = laid("p9,0,9;p9,0,9;m0,9,0;m0,6,0;m0,1,0;");
        due("none at the END", x.hours(1), 0);
        due("one at the END", x.hours(1), 1);
        due("two at the END", x.hours(1), 2);
        due("two at the END", x.hours(14), 2);
        due("three at the END", x.hours(1), 3);
        due("0 hours", x.hours(0), BAD);
        due("100 hours", x.hours(100), BAD);
        for (int n : WILD) {
            due("wild", x.hours(n), BAD);
        }
        due("nothing changes", x.count(3), 18);
        due("99 hours", x.hours(99), 3);
        for (int k = 0; k < 99; k++) {
            x.hours(99);
        }
        due("near the last hour", x.count(3), 9918);
        due("above 9999", x.hours(82), NO);
        due("BAD goes ahead of NO", x.hours(100), BAD);
        due("nothing changes", x.count(3), 9918);
        due("up to 9999", x.hours(81), 3);
        due("above 9999", x.hours(1), NO);
        due("ahead of it still", x.mile(400, 0), 18);
        due("the last hour", x.count(3), 9999);
    }

    private static void night(String text, int[] miles, int[] minds) {
        WalkingLaw x = after(7, text);
        x.hours(1);
        for (int i = 0; i < miles.length; i++) {
            due("mile of " + i + " behind the night of " + text, x.member(i, 3), miles[i]);
            due("mind of " + i + " behind the night of " + text, x.member(i, 2), minds[i]);
        }
    }

    private static void nights() {
        promise = 8;
        night("p8,0,0;p2,0,1;m0,1,1;m0,1,0;m0,1,1;", new int[] {8, 7, 7}, new int[] {1, 0, 1});
        night("p30,0,0;m0,1,0;m0,2,0;", new int[] {8, 16}, new int[] {0, 0});
        night("p3,0,0;p3,0,1;p3,0,0;m0,1,0;m0,1,0;m0,1,0;", new int[] {5, 2, 2}, new int[] {0, 0, 0});
        night("p1,0,0;p1,0,0;p1,0,0;m0,9,0;", new int[] {0}, new int[] {0});
        night("p8,0,0;p2,0,2;m0,1,0;m0,1,0;", new int[] {8, 8}, new int[] {0, 0});
        night("p8,0,0;p9,0,2;m0,1,0;m0,2,0;m0,1,0;m0,9,0;", new int[] {8, 16, 7, 7}, new int[] {0, 0, 0, 0});
        night("p30,0,0;m0,1,1;m0,1,1;m0,1,0;m0,1,0;m0,1,1;", new int[] {8, 8, 8, 8, 8}, new int[] {1, 1, 1, 0, 1});
        night("p30,0,0;m0,1,6;m0,1,6;m0,1,7;m0,1,8;m0,1,1;", new int[] {8, 8, 8, 8, 8}, new int[] {6, 6, 6, 6, 1});
        night("p30,0,0;b3;m0,1,8;m0,1,8;m0,1,0;", new int[] {8, 8, 8}, new int[] {8, 8, 0});
        night("p30,0,0;b3;m0,1,4;m0,1,4;m0,1,8;", new int[] {8, 8, 8}, new int[] {4, 4, 12});
        night("p30,0,0;m4,1,1;m5,1,1;m3,1,0;", new int[] {8, 8, 8}, new int[] {1, 1, 1});
        night("p10,0,0;p30,0,9;m0,1,1;m0,2,0;m0,2,0;m0,2,1;m0,1,0;", new int[] {8, 16, 16, 16, 8},
            new int[] {1, 0, 0, 0, 0});
        night("p8,0,0;p9,0,2;m0,1,1;m0,1,0;m0,1,0;m0,1,0;", new int[] {8, 8, 7, 7}, new int[] {1, 0, 0, 0});
        WalkingLaw x = after(15, "p30,0,0;m0,1,1;m0,1,1;m0,1,1;m0,1,0;m0,1,0;m0,1,0;m0,1,1;");
        due("no night between 8 and 16", x.member(4, 2), 0);
        due("the first night", x.member(3, 2), 1);
        x.hours(1);
        due("the second night", x.member(4, 2), 1);
        due("the second night", x.member(5, 2), 0);
        x.hours(99);
        due("later nights", x.member(5, 2), 1);
    }

    private static void voicesDue(WalkingLaw x, int p, int b, int yes, int no, int passes) {
        due("yes", x.voices(p, b, 0), yes);
        due("no", x.voices(p, b, 1), no);
        due("passes", x.voices(p, b, 2), passes);
    }

    private static void voices() {
        promise = 9;
        WalkingLaw x = laid("p9,0,9;p9,0,9;m4,3,0;m0,3,1;m1,3,0;m2,3,1;m3,3,0;m5,3,1;");
        voicesDue(x, 0, 0, 4, 1, 1);
        voicesDue(x, 0, 1, 1, 4, 0);
        voicesDue(x, 1, 0, 0, 0, 0);
        WalkingLaw y = after(3, "p9,0,9;p9,0,9;m4,3,0;m0,3,1;m1,3,0;m2,3,1;m3,3,0;m5,3,1;");
        voicesDue(y, 1, 0, 3, 2, 1);
        voicesDue(y, 1, 1, 0, 5, 0);
        voicesDue(after(0, "p9,0,9;m4,3,15;m4,3,15;"), 0, 0, 0, 0, 0);
        voicesDue(after(0, "p9,0,9;m4,3,0;m5,3,1;"), 0, 0, 1, 0, 1);
        voicesDue(after(0, "p9,0,9;m4,3,1;m5,3,0;"), 0, 0, 0, 1, 0);
        voicesDue(after(0, "p9,0,9;m4,3,1;m3,3,0;m0,3,1;"), 0, 0, 2, 1, 1);
        voicesDue(after(0, "p9,0,9;m0,3,1;m4,3,0;m0,3,0;"), 0, 0, 2, 1, 1);
        voicesDue(after(0, "p9,0,9;m0,3,0;m4,3,1;m0,3,1;"), 0, 0, 1, 2, 0);
        voicesDue(after(0, "p9,0,9;m0,3,1;m0,3,0;"), 0, 0, 1, 1, 0);
        voicesDue(after(0, "p9,0,9;m5,3,1;"), 0, 0, 0, 0, 0);
        voicesDue(after(0, "p9,0,9;m0,3,1;q2;"), 0, 0, 1, 0, 0);
        voicesDue(after(0, "p9,0,9;m0,3,1;m5,3,0;q2;"), 0, 0, 1, 0, 1);
        voicesDue(after(0, "p9,0,9;m0,3,1;m5,3,0;q3;"), 0, 0, 1, 0, 0);
        for (int p = 0; p < 6; p++) {
            WalkingLaw z = after(p, "p1,0,9;p1,0,9;p1,0,9;p1,0,9;p1,0,9;p1,0,9;m3,1,6;");
            voicesDue(z, p, 0, p % 2 == 0 ? 1 : 0, p % 2, p % 2 == 0 ? 1 : 0);
        }
        WalkingLaw two = laid("p9,0,9;p9,0,9;m0,3,15;b2;");
        for (int n : WILD) {
            due("wild", two.voices(n, 0, 0), BAD);
            due("wild", two.voices(0, n, 0), BAD);
            due("wild", two.voices(0, 0, n), BAD);
        }
        due("p", two.voices(2, 0, 0), BAD);
        due("p", two.voices(-1, 0, 0), BAD);
        due("b", two.voices(0, 2, 0), BAD);
        due("b", two.voices(0, -1, 0), BAD);
        due("what", two.voices(0, 0, 3), BAD);
        due("what", two.voices(0, 0, -1), BAD);
    }

    private static void read() {
        promise = 10;
        WalkingLaw x = laid("p4,0,9;p4,0,9;m0,4,1;m0,1,2;m0,1,2;b2;");
        due("bill 0 has one of three", x.read(0), 0);
        due("nothing passed", x.bill(0, 0), 0);
        due("bill 1 has two of three", x.read(1), 1);
        due("passed in parish 0", x.bill(1, 0), 1);
        due("read anew", x.read(1), 1);
        x.hours(1);
        due("member 0 went on alone", x.read(0), 1);
        due("passed in parish 1", x.bill(0, 0), 2);
        due("he is against it", x.read(1), 0);
        due("still passed in parish 0", x.bill(1, 0), 1);
        due("b", x.read(2), BAD);
        due("b", x.read(-1), BAD);
        for (int n : WILD) {
            due("wild", x.read(n), BAD);
        }
        due("nothing went by", x.count(3), 1);
    }

    private static void bill() {
        promise = 11;
        WalkingLaw x = laid("p4,0,9;p4,0,9;p4,0,9;m0,4,7;m5,1,0;q2;b3;");
        due("nothing passed", x.bill(2, 0), 0);
        due("holds not", x.bill(2, 1), 0);
        due("not made", x.bill(2, 2), NONE);
        x.hours(1);
        due("too few", x.read(2), 0);
        due("not made", x.bill(2, 2), NONE);
        x = laid("p4,0,9;p4,0,9;p4,0,9;m0,4,7;b3;");
        x.read(0);
        x.hours(1);
        x.read(0);
        x.read(1);
        due("made first", x.bill(0, 2), 0);
        due("made in parish 1", x.bill(1, 2), 1);
        due("two of three", x.bill(0, 0), 3);
        due("holds not yet", x.bill(0, 1), 0);
        x.hours(1);
        x.read(0);
        x.read(1);
        x.read(2);
        due("all", x.bill(0, 0), 7);
        due("holds", x.bill(0, 1), 1);
        due("two of three", x.bill(1, 0), 6);
        due("holds not", x.bill(1, 1), 0);
        due("still made in parish 1", x.bill(1, 2), 1);
        due("made in parish 2", x.bill(2, 2), 2);
        due("b", x.bill(3, 0), BAD);
        due("b", x.bill(-1, 0), BAD);
        due("what", x.bill(0, 3), BAD);
        due("what", x.bill(0, -1), BAD);
        for (int n : WILD) {
            due("wild", x.bill(n, 0), BAD);
            due("wild", x.bill(0, n), BAD);
        }
        // He is driven back behind the inn, so that what he reads second lies ahead of what he read first.
        WalkingLaw y = after(7, "p7,0,9;p9,0,0;m0,1,1;");
        y.read(0);
        due("made in parish 1", y.bill(0, 2), 1);
        y.hours(1);
        y.read(0);
        due("holds", y.bill(0, 1), 1);
        due("made where it passed first", y.bill(0, 2), 1);
    }

    private static void mile() {
        promise = 12;
        String text = "p7,0,9;p9,0,1;m0,1,1;m1,9,2;m0,2,0;";
        WalkingLaw x = laid(text);
        x.hours(3);
        x.read(0);
        WalkingLaw y = laid(text);
        y.hours(3);
        for (int n = 0; n <= 40; n++) {
            for (int i = 0; i < 3; i++) {
                due("mile(" + n + ", " + i + ")", x.mile(n, i), y.member(i, 3));
            }
            y.hours(1);
        }
        due("back at the inn", x.mile(5, 2), 6);
        due("400 hours", x.mile(400, 0), 16);
        due("401 hours", x.mile(401, 0), BAD);
        due("-1 hours", x.mile(-1, 0), BAD);
        due("i", x.mile(0, 3), BAD);
        due("i", x.mile(0, -1), BAD);
        for (int n : WILD) {
            due("wild", x.mile(n, 0), BAD);
            due("wild", x.mile(0, n), BAD);
        }
        due("nothing went by", x.count(3), 3);
        due("nobody went", x.member(0, 3), 3);
    }

    private static void who() {
        promise = 13;
        WalkingLaw x = laid("p4,0,9;p4,0,9;p4,0,1;m0,1,0;m0,3,0;m1,1,0;");
        int[][] sets = {{7, 0, 0}, {3, 4, 0}, {1, 2, 4}, {1, 0, 6}, {0, 1, 6}, {0, 1, 6}, {0, 1, 6}, {0, 1, 6},
            {0, 6, 1}, {0, 0, 7}};
        for (int n = 0; n < sets.length; n++) {
            for (int p = 0; p < 3; p++) {
                due("who(" + n + ", " + p + ")", x.who(n, p), sets[n][p]);
            }
        }
        due("400 hours", x.who(400, 2), 1);
        due("401 hours", x.who(401, 0), BAD);
        due("-1 hours", x.who(-1, 0), BAD);
        due("p", x.who(0, 3), BAD);
        due("p", x.who(0, -1), BAD);
        for (int n : WILD) {
            due("wild", x.who(n, 0), BAD);
            due("wild", x.who(0, n), BAD);
        }
        x.hours(2);
        due("from now on", x.who(1, 2), 6);
        due("nothing went by", x.count(3), 2);
    }

    private static void arrives() {
        promise = 14;
        WalkingLaw x = laid("p9,0,9;m0,3,0;m0,2,0;");
        due("the slowest counts", x.arrives(), 5);
        x.hours(2);
        due("from now on", x.arrives(), 3);
        x.hours(3);
        due("all are there", x.arrives(), 0);
        due("lame in the mud", after(0, "p9,1,9;m2,1,0;m0,9,0;").arrives(), NONE);
        due("no beds", after(0, "p9,0,9;p9,0,0;m0,1,0;").arrives(), NONE);
        due("between two nights", after(0, "p9,0,9;p9,0,0;m0,3,0;").arrives(), 6);
        due("there, but sent back", after(8, "p9,0,9;p9,0,0;m0,3,0;").arrives(), 4);
        String slow = "p30,0,9;p30,0,9;p30,0,9;p30,0,9;p30,0,9;p30,0,9;m0,1,0;";
        due("180 hours", after(0, slow).arrives(), 180);
        due("81 hours", after(99, slow).arrives(), 81);
        due("one by one", after(0, ONE_BED).arrives(), 253);
        String lame = "m2,2,1;m2,2,1;m2,2,1;m2,2,1;m2,2,1;m2,2,1;m2,2,1;m2,2,1;";
        String inns = "p28,1,8;p13,0,0;p30,1,1;p12,0,0;p27,1,1;";
        due("399 hours", after(0, inns + "p26,0,8;" + lame).arrives(), 399);
        due("400 hours", after(0, inns + "p28,0,8;" + lame).arrives(), 400);
        due("401 hours", after(0, inns + "p29,0,8;" + lame).arrives(), NONE);
    }

    private static void would() {
        promise = 15;
        WalkingLaw x = laid("p1,0,9;p1,0,9;p1,0,9;m0,1,1;m5,1,2;b2;");
        due("everywhere", x.would(0), 7);
        due("nowhere", x.would(1), 0);
        due("nothing is read", x.bill(0, 0), 0);
        x.hours(1);
        due("parish 0 lies behind", x.would(0), 6);
        due("nothing went by", x.count(3), 1);
        WalkingLaw y = laid("p1,0,9;p1,0,9;p1,0,9;m0,1,1;m5,1,2;b2;");
        y.read(0);
        y.hours(2);
        due("what has passed, too", y.would(0), 5);
        due("b", y.would(2), BAD);
        due("b", y.would(-1), BAD);
        for (int n : WILD) {
            due("wild", y.would(n), BAD);
        }
        // The two silent ones bring him round behind the first night.
        due("minds ahead", after(0, "p8,0,9;p9,0,9;m0,1,0;m5,1,1;m5,1,1;").would(0), 2);
        due("the 200th hour counts", after(23, ONE_BED).would(0), 7);
        due("the 201st does not", after(22, ONE_BED).would(0), 3);
    }

    private static void order() {
        promise = 16;
        WalkingLaw x = laid("p1,0,9;p1,0,9;m0,1,3;b2;");
        due("one holds", x.order(-1), 1);
        due("the first row", x.order(0), 0);
        due("the first row", x.order(1), 1);
        x.read(0);
        due("both hold", x.order(-1), 2);
        due("the other row", x.order(0), 1);
        due("the other row", x.order(1), 0);
        due("nothing went by", x.count(3), 0);
        due("nothing is read", x.bill(1, 0), 0);
        due("i", x.order(2), BAD);
        due("i", x.order(-2), BAD);
        for (int n : WILD) {
            due("wild", x.order(n), BAD);
        }
        // In parish 0 behind 0 HOURS, in 1 behind 1, in 2 behind 2 and then on: only what is READ at all three holds.
        WalkingLaw y = laid("p1,0,9;p1,0,9;p1,0,9;m0,1,15;b4;");
        due("none holds", y.order(-1), 0);
        for (int i = 0; i < 4; i++) {
            due("the first row", y.order(i), i);
        }
        y.read(2);
        y.read(3);
        int[] row = {0, 2, 1, 3};
        due("one of the two can", y.order(-1), 1);
        for (int i = 0; i < 4; i++) {
            due("the first row that has one of the two second", y.order(i), row[i]);
        }
        y = laid("p1,0,9;p1,0,9;p4,0,9;m0,1,15;b3;");
        y.read(2);
        y.read(1);
        y.hours(1);
        y.read(0);
        due("the second in parish 1, too", y.order(-1), 1);
        due("i", y.order(0), 1);
        due("i", y.order(1), 0);
        due("i", y.order(2), 2);
        y = laid("p1,0,9;p1,0,9;m0,1,15;b4;");
        y.read(0);
        y.read(1);
        y.read(2);
        int[] lastFirst = {3, 0, 1, 2};
        due("the last must go first", y.order(-1), 4);
        for (int i = 0; i < 4; i++) {
            due("the last must go first", y.order(i), lastFirst[i]);
        }
        due("none is for it", after(0, "p9,0,9;m5,1,15;b2;").order(-1), 0);
        y = laid("p9,0,9;m0,1,2;b2;");
        due("each once", y.order(-1), 1);
        due("each once", y.order(0), 0);
        due("the 200th hour counts", after(23, ONE_BED).order(-1), 1);
        due("the 201st does not", after(22, ONE_BED).order(-1), 0);
        y = laid("p9,0,9;m0,1,15;b1;");
        due("one bill", y.order(-1), 1);
        due("one bill", y.order(0), 0);
        due("one bill", y.order(1), BAD);
    }

    private static void back() {
        promise = 17;
        WalkingLaw x = laid("p1,0,9;p9,0,9;m0,1,3;");
        due("he hears parish 0 yet", x.back(0), 102);
        due("nothing went by", x.count(3), 0);
        due("nobody went", x.member(0, 3), 0);
        due("nothing is read", x.bill(0, 0), 0);
        x.read(0);
        due("one passed there", x.back(0), 101);
        due("i", x.back(1), BAD);
        due("i", x.back(-1), BAD);
        for (int n : WILD) {
            due("wild", x.back(n), BAD);
        }
        WalkingLaw y = laid("p1,0,9;p1,0,9;p1,0,9;q2;m0,1,1;m0,1,1;m0,1,1;b1;");
        y.read(0);
        due("two are enough without him", y.back(1), 100);
        WalkingLaw z = laid("p1,0,9;p1,0,9;p1,0,9;q2;m0,1,1;m5,1,1;b1;");
        z.read(0);
        due("alone in parish 1", z.back(1), 99);
        due("alone in parish 1", z.back(0), 99);
        z = laid("p1,0,9;p1,0,9;p1,0,9;q2;m0,1,1;m5,1,0;b1;");
        z.read(0);
        due("only what he is for", z.back(1), 100);
        due("only what he is for", z.back(0), 99);
        due("nothing is read now", after(0, "p1,0,9;p1,0,9;m0,1,0;").back(0), 100);
        // In the first of these HOURS, the night's, he is sent back even if he stood still.
        due("a night", after(7, "p6,0,9;p2,0,0;m0,1,1;").back(0), 100);
        // An HOUR late he needs the bed for a night more, and the last one comes eight HOURS later.
        due("the 200th hour counts", after(23, ONE_BED).back(0), 99);
        due("the 201st does not", after(22, ONE_BED).back(0), 100);
        due("the last one waits anyhow", after(23, ONE_BED).back(7), 100);
    }

    private static void partiesDue(WalkingLaw x, int p, int[] want) {
        for (int i = -1; i + 1 < want.length; i++) {
            due("parties(" + p + ", " + i + ")", x.parties(p, i), want[i + 1]);
        }
        due("i", x.parties(p, want.length - 1), BAD);
        due("i", x.parties(p, -2), BAD);
    }

    private static void parties() {
        promise = 18;
        partiesDue(laid("p9,0,9;m0,3,0;m0,3,0;m0,3,0;"), 0, new int[] {3, 2, 2, 2});
        partiesDue(laid("p9,0,9;m0,9,0;m0,1,0;m0,1,0;"), 0, new int[] {1, 1, 0, 0});
        partiesDue(laid("p9,0,9;m0,2,0;m0,2,0;"), 0, new int[] {1, 1, 1});
        partiesDue(laid("p9,0,9;m0,4,0;m5,3,0;m4,2,0;m1,1,0;"), 0, new int[] {3, 2, 2, 2, 1});
        partiesDue(laid("p9,0,9;m0,1,0;m0,1,0;m0,1,0;m0,1,0;m0,1,0;m0,1,0;m0,1,0;m0,1,0;"), 0,
            new int[] {56, 35, 35, 35, 35, 35, 35, 35, 35});
        WalkingLaw x = after(1, "p5,0,9;p5,0,9;p5,0,9;m0,6,0;m0,1,0;m0,7,0;");
        partiesDue(x, 0, new int[] {1, 0, 1, 0});
        partiesDue(x, 1, new int[] {1, 0, 0, 1});
        partiesDue(x, 2, new int[] {0, 0, 0, 0});
        due("p", x.parties(3, -1), BAD);
        due("p", x.parties(-1, -1), BAD);
        for (int n : WILD) {
            due("wild", x.parties(n, 0), BAD);
            due("wild", x.parties(0, n), BAD);
        }
    }

    private static void join() {
        promise = 19;
        due("passes now", after(0, "p9,0,9;m0,3,1;").join(0, 0), 0);
        due("one against", after(0, "p9,0,9;m0,3,0;").join(0, 0), 2);
        due("one against one", after(0, "p9,0,9;m0,3,0;m0,3,1;").join(0, 0), 1);
        due("the quorum", after(0, "p9,0,9;m0,3,1;q8;").join(0, 0), 7);
        due("nobody there", after(0, "p9,0,9;p9,0,9;m0,3,1;").join(1, 0), 1);
        due("nobody there, and a quorum", after(0, "p9,0,9;p9,0,9;m0,3,1;q5;").join(1, 0), 5);
        due("the hired follow him who joins", after(0, "p9,0,9;m4,3,0;m4,3,0;").join(0, 0), 1);
        due("the hired stay with the lowest", after(0, "p9,0,9;m4,3,0;m4,3,0;m0,3,0;").join(0, 0), 4);
        due("the hired stay with the silent", after(0, "p9,0,9;m4,3,0;m4,3,0;m5,3,0;").join(0, 0), 3);
        due("two-sided in parish 1", after(1, "p3,0,9;p9,0,9;m3,3,1;m3,3,1;").join(1, 0), 3);
        due("all against", after(0, "p9,0,9;m0,3,0;m0,3,0;m0,3,0;m0,3,0;m0,3,0;m0,3,0;m0,3,0;m0,3,0;").join(0, 3), 9);
        WalkingLaw x = laid("p9,0,9;p9,0,9;m0,3,15;b2;");
        due("p", x.join(2, 0), BAD);
        due("p", x.join(-1, 0), BAD);
        due("b", x.join(0, 2), BAD);
        due("b", x.join(0, -1), BAD);
        for (int n : WILD) {
            due("wild", x.join(n, 0), BAD);
            due("wild", x.join(0, n), BAD);
        }
        due("nobody joined", x.count(1), 1);
    }

    private static void diary() {
        promise = 20;
        WalkingLaw x = laid("p9,0,9;p9,0,9;m0,3,15;m0,3,15;m0,3,15;");
        due("i", x.diary(3, 0, 0), BAD);
        due("i", x.diary(-1, 0, 0), BAD);
        due("p", x.diary(0, 2, 0), BAD);
        due("p", x.diary(0, -1, 0), BAD);
        due("h", x.diary(0, 0, 401), BAD);
        due("h", x.diary(0, 0, -1), BAD);
        for (int n : WILD) {
            due("wild", x.diary(n, 0, 0), BAD);
            due("wild", x.diary(0, n, 0), BAD);
            due("wild", x.diary(0, 0, n), BAD);
        }
        due("nothing was written", x.count(5), 0);
        for (int k = 1; k <= 10; k++) {
            due("a line", x.diary(k % 3, k % 2, 40 * k), k);
        }
        due("ten at most", x.diary(0, 0, 0), FULL);
        due("BAD goes ahead of FULL", x.diary(0, 0, 401), BAD);
        due("ten", x.count(5), 10);
    }

    private static void noDiary() {
        promise = 21;
        WalkingLaw x = laid("p9,0,9;p9,0,9;m0,3,15;");
        due("none yet", x.noDiary(), 0);
        x.diary(0, 1, 0);
        x.diary(0, 1, 0);
        due("two lines", x.noDiary(), 2);
        due("none", x.count(5), 0);
        due("none is false", x.wrong(), 0);
        due("none", x.noDiary(), 0);
        due("the first again", x.diary(0, 0, 0), 1);
        due("so", x.wrong(), 0);
    }

    private static void wrongLines() {
        promise = 22;
        WalkingLaw x = laid("p9,0,9;p9,0,9;m0,3,15;m0,1,15;");
        due("no diary", x.wrong(), 0);
        x.diary(0, 0, 2);
        x.diary(0, 0, 3);
        x.diary(0, 1, 3);
        x.diary(1, 1, 3);
        x.diary(0, 0, 0);
        x.diary(0, 1, 0);
        x.diary(0, 1, 400);
        x.diary(0, 0, 400);
        x.diary(1, 0, 8);
        x.diary(1, 1, 8);
        due("false lines", x.wrong(), 2 + 8 + 32 + 128 + 512);
        x.hours(50);
        x.read(0);
        due("as it was laid", x.wrong(), 2 + 8 + 32 + 128 + 512);
        due("nothing went by", x.count(3), 50);
        WalkingLaw first = laid("p9,0,9;p9,0,9;m0,3,15;");
        first.diary(0, 1, 0);
        due("the first line", first.wrong(), 1);
        WalkingLaw y = laid("p7,0,9;p9,0,0;m0,1,0;");
        y.diary(0, 1, 7);
        y.diary(0, 1, 8);
        y.diary(0, 0, 8);
        y.diary(0, 1, 399);
        y.diary(0, 1, 400);
        due("behind the night", y.wrong(), 2 + 16);
    }

    private static int lateBy(WalkingLaw x, int[][] lines) {
        x.noDiary();
        for (int[] line : lines) {
            x.diary(line[0], line[1], line[2]);
        }
        return x.late() - 20;
    }

    private static void late() {
        promise = 23;
        WalkingLaw x = laid("p9,0,9;p9,0,9;m0,3,15;m0,1,15;");
        due("no diary", x.late(), 20);
        due("so", lateBy(x, new int[][] {{0, 1, 3}}), 0);
        due("an hour more", lateBy(x, new int[][] {{0, 1, 2}}), 1);
        due("three hours less", lateBy(x, new int[][] {{0, 0, 5}}), -3);
        due("0 at least", lateBy(x, new int[][] {{0, 0, 0}, {0, 0, 10}}), -8);
        due("the lower of two", lateBy(x, new int[][] {{0, 1, 2}, {0, 0, 3}}), -1);
        due("the nearer of two", lateBy(x, new int[][] {{0, 1, 2}, {0, 0, 4}}), 1);
        due("most lines", lateBy(x, new int[][] {{0, 1, 0}, {0, 1, 1}, {0, 0, 3}}), 3);
        due("20 less", lateBy(x, new int[][] {{0, 0, 22}}), -20);
        due("21 less is too far", lateBy(x, new int[][] {{0, 0, 23}}), 0);
        due("9 more", lateBy(x, new int[][] {{1, 1, 0}}), 9);
        WalkingLaw slow = laid("p20,0,9;p9,0,9;p9,0,9;m0,1,0;");
        due("20 more", lateBy(slow, new int[][] {{0, 1, 0}}), 20);
        due("21 more is too far", lateBy(slow, new int[][] {{0, 2, 8}}), 0);
        WalkingLaw y = laid("p7,0,9;p9,0,0;m0,1,0;");
        due("behind 400", lateBy(y, new int[][] {{0, 0, 400}, {0, 1, 1}}), 8);
        due("up to 420", lateBy(slow, new int[][] {{0, 2, 400}, {0, 1, 0}}), 20);
        due("up to 400", lateBy(y, new int[][] {{0, 0, 397}}), 3);
        y.hours(9);
        due("as it was laid", lateBy(y, new int[][] {{0, 0, 397}}), 3);
        due("nothing went by", y.count(3), 9);
    }

    private static void year() {
        promise = 24;
        WalkingLaw x = new WalkingLaw();
        due("x is 1", x.year(0), 1);
        due("x is 7920", x.year(1), 3);
        due("the square is above an int", x.year(9999), 7);
        due("z", x.year(10000), BAD);
        due("z", x.year(-1), BAD);
        for (int n : WILD) {
            if (n != 1000) {
                due("wild", x.year(n), BAD);
            }
        }
        // The first is for 1, the second (6152 times 6152 is 41487 modulo 65521) for 15: but for one BILL they are even.
        due("both", after(0, "p9,0,9;m0,3,0;m0,3,0;").year(0), 1);
        due("only the bills that there are", after(0, "p9,0,9;m0,3,0;b1;").year(1), 1);
        WalkingLaw y = laid("p1,0,9;p9,0,9;m0,1,0;");
        due("read at first, and then on", y.year(1), 3);
        y.hours(9);
        due("as laid", y.year(1), 3);
        due("minds stay", y.member(0, 2), 0);
        due("nothing passed", y.bill(0, 0), 0);
        due("nothing went by", y.count(3), 9);
        due("two in two parishes", after(0, "p1,0,9;p9,0,9;m0,1,0;q2;").year(1), 0);
        // Mile 180 lies 180 HOURS ahead, within the 200.
        due("the second alone has a voice", after(0, "p9,0,9;m5,3,0;m0,3,0;").year(0), 15);
        due("the third alone has a voice", after(0, "p9,0,9;m5,3,0;m5,3,0;m0,3,0;").year(0), 11);
        String seven = "m0,1,0;m0,1,0;m0,1,0;m0,1,0;m0,1,0;m0,1,0;m0,1,0;b1;q8;";
        due("all are there behind 200", after(0, "p16,1,8;p30,0,1;p30,0,8;" + seven + "m2,2,0;").year(0), 1);
        due("all are there behind 201", after(0, "p16,0,8;p24,0,1;p30,0,8;" + seven + "m0,1,0;").year(0), 0);
        due("a long road", after(0, "p30,0,9;p30,0,9;p30,0,9;p30,0,9;p30,0,9;p30,0,9;m0,1,0;").year(1), 3);
    }

    private static void ten() {
        promise = 25;
        WalkingLaw x = laid("p9,0,9;p5,0,3;m0,3,0;m0,5,0;m1,5,0;b3;");
        int[] starts = {0, 77, 5000, 9990, 9991, 9995, 9999};
        for (int z : starts) {
            for (int b = 0; b < 3; b++) {
                int found = 0;
                for (int k = 0; k < 10; k++) {
                    found += x.year((z + k) % 10000) >> b & 1;
                }
                due("ten(" + z + ", " + b + ")", x.ten(z, b), found);
            }
        }
        due("of a new object", new WalkingLaw().ten(9995, 0), 6);
        due("z", x.ten(10000, 0), BAD);
        due("z", x.ten(-1, 0), BAD);
        due("b", x.ten(0, 3), BAD);
        due("b", x.ten(0, -1), BAD);
        for (int n : WILD) {
            if (n != 1000) {
                due("wild", x.ten(n, 0), BAD);
            }
            due("wild", x.ten(0, n), BAD);
        }
    }

    private static void keep() {
        promise = 26;
        WalkingLaw x = laid("p9,0,9;m0,3,15;");
        due("one", x.keep(), 1);
        due("two", x.keep(), 2);
        due("no third", x.keep(), FULL);
        due("two", x.count(6), 2);
        x.again();
        due("two anew", x.keep(), 2);
        due("no third", x.keep(), FULL);
    }

    private static void again() {
        promise = 27;
        WalkingLaw x = laid("p9,0,9;p9,0,9;m0,1,1;m0,1,1;m0,1,0;");
        due("nothing kept", x.again(), NO);
        x.hours(7);
        x.read(0);
        x.keep();
        x.hours(3);
        x.read(0);
        x.keep();
        x.hours(20);
        x.diary(0, 0, 0);
        x.read(1);
        due("the last one", x.again(), 1);
        due("hour", x.count(3), 10);
        due("mile", x.member(2, 3), 10);
        due("mind", x.member(2, 2), 1);
        due("passed", x.bill(0, 0), 3);
        due("made", x.bill(0, 2), 0);
        due("the diary stays", x.count(5), 1);
        due("one is kept", x.count(6), 1);
        x.hours(5);
        due("the first one", x.again(), 0);
        due("hour", x.count(3), 7);
        due("mile", x.member(2, 3), 7);
        due("mind", x.member(2, 2), 0);
        due("passed", x.bill(0, 0), 1);
        due("nothing kept", x.again(), NO);
        due("nothing changes", x.count(3), 7);
        WalkingLaw y = laid("p9,0,9;m0,1,1;");
        y.keep();
        y.read(0);
        y.again();
        due("not passed", y.bill(0, 0), 0);
        due("not made", y.bill(0, 2), NONE);
    }

    private static void count() {
        promise = 28;
        WalkingLaw x = after(11, "p9,0,9;p30,1,9;p7,0,9;m0,1,1;m0,1,1;q5;b2;");
        x.diary(0, 0, 0);
        x.keep();
        int[] counts = {3, 2, 2, 11, 46, 1, 1, 42, 5};
        for (int what = 0; what < counts.length; what++) {
            due("count(" + what + ")", x.count(what), counts[what]);
        }
        due("what", x.count(9), BAD);
        due("what", x.count(-1), BAD);
        for (int n : WILD) {
            due("wild", x.count(n), BAD);
        }
    }
}
