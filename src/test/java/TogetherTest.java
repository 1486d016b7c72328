import java.util.ArrayList;
import java.util.List;
import java.util.function.Supplier;

/**
 * What several sentences of ../shared/DOC.md say together: nights and readings, hours that begin at a night,
 * what is as LAID whatever went by, and of each call what it changes and what it leaves.
 */
public final class TogetherTest {
    private static final int BAD = -1, NO = -2, FULL = -3, NONE = -4;
    private static final int MOST_CALLS = 512;

    /** MEMBER 0 comes to mile 8, which is all of PARISH 1, in the HOUR of the first night, and is won for the BILL there. */
    private static final String WON_AT_NIGHT = "p8,0,9;p1,0,9;p9,0,9;m0,1,0;m5,1,1;m5,1,1;m0,9,1;m0,9,1;b1;";
    /** He leaves PARISH 1 in the HOUR of the first night. */
    private static final String WON_TOO_LATE = "p7,0,9;p1,0,9;p9,0,9;m0,1,0;m5,1,1;m5,1,1;m0,9,1;m0,9,1;b1;";
    /** He comes to the END in the HOUR of the first night, and finds no bed. */
    private static final String SENT_BACK = "p7,0,9;p1,0,0;m0,1,1;";

    private static String part = "";
    private static int checked = 0;
    private static int wrong = 0;

    public static void main(String[] args) {
        nightsAreInTheirHours();
        whatIsReadBehindANight();
        orderBehindANight();
        fallingBackIntoANight();
        yearsBehindANight();
        memberZeroReads();
        asLaidWhateverWentBy();
        hiredAndSilentInYears();
        everyMemberCounts();
        everyKindCounts();
        everyLineCounts();
        askingChangesNothing();
        eachCallChangesWhatIsTold();
        layingAnew();
        System.out.println("TogetherTest: " + checked + " answers looked at, " + wrong + " wrong");
        if (wrong != 0) {
            System.exit(1);
        }
    }

    private static void due(String what, long got, long want) {
        checked++;
        if (got != want) {
            wrong++;
            System.out.println(part + ": " + what + " answered " + got + ", due is " + want);
        }
    }

    private static void put(WalkingLaw x, String text) {
        for (int at = 0; at < text.length(); at += 8) {
            int n = Math.min(8, text.length() - at);
            long v = 0;
            for (int k = 0; k < n; k++) {
                v = v << 8 | text.charAt(at + k);
            }
            x.write(n, v);
        }
    }

    private static WalkingLaw laid(String text) {
        WalkingLaw x = new WalkingLaw();
        put(x, text);
        if (x.lay() < 1) {
            wrong++;
            System.out.println(part + ": could not be LAID: " + text);
        }
        return x;
    }

    private static WalkingLaw after(int hours, String text) {
        WalkingLaw x = laid(text);
        if (hours > 0) {
            x.hours(hours);
        }
        return x;
    }

    // ---- nights and readings

    private static void nightsAreInTheirHours() {
        part = "behind 8 HOURS the night has been, too";
        due("hours(8)", laid(SENT_BACK).hours(8), 0);
        WalkingLaw x = after(8, SENT_BACK);
        due("his mile", x.member(0, 3), 6);
        due("hour 9", x.hours(1), 0);
        due("hour 10", x.hours(1), 1);
        WalkingLaw y = laid(SENT_BACK);
        due("ARRIVES", y.arrives(), 10);
        due("mile(7, 0)", y.mile(7, 0), 7);
        due("mile(8, 0)", y.mile(8, 0), 6);
        due("mile(9, 0)", y.mile(9, 0), 7);
        due("who(8, 0)", y.who(8, 0), 1);
        due("who(8, 1)", y.who(8, 1), 0);
        WalkingLaw z = after(7, SENT_BACK);
        due("ARRIVES from HOUR 7", z.arrives(), 3);
        due("mile(1, 0) from HOUR 7", z.mile(1, 0), 6);
        due("mile(9, 0) from HOUR 7", z.mile(9, 0), 6);
        due("ARRIVES from HOUR 8", after(8, SENT_BACK).arrives(), 2);
        due("ARRIVES from HOUR 10", after(10, SENT_BACK).arrives(), 0);
        y.diary(0, 0, 8);
        y.diary(0, 1, 8);
        due("FALSE", y.wrong(), 2);
        y.noDiary();
        y.diary(0, 1, 8);
        due("LATE: an HOUR ahead and an HOUR behind he was there", y.late(), 19);
    }

    private static void whatIsReadBehindANight() {
        part = "what is READ behind the 8th HOUR is READ behind the night";
        WalkingLaw x = after(7, WON_AT_NIGHT);
        due("WOULD PASS from HOUR 7", x.would(0), 6);
        x.hours(1);
        due("his mind", x.member(0, 2), 1);
        due("READ", x.read(0), 1);
        due("MADE", x.bill(0, 2), 1);
        due("WOULD PASS", laid(WON_AT_NIGHT).would(0), 7);
        due("WOULD PASS, if he leaves with the night", laid(WON_TOO_LATE).would(0), 5);
        due("WOULD PASS from that HOUR", after(7, WON_TOO_LATE).would(0), 4);
        due("WOULD PASS from HOUR 8", after(8, WON_TOO_LATE).would(0), 4);
    }

    private static void orderBehindANight() {
        part = "ORDER: what is READ behind the 8th HOUR is READ behind the night";
        due("one BILL", laid(WON_AT_NIGHT).order(-1), 1);
        due("he leaves with the night", laid(WON_TOO_LATE).order(-1), 0);
        String second = "p8,0,9;p1,0,9;p9,0,9;m0,1,0;m5,1,2;m5,1,2;m0,9,2;m0,9,2;b2;";
        WalkingLaw x = laid(second);
        due("now and behind 8 HOURS it is the same BILL's turn", x.order(-1), 1);
        due("the BILL whose turn it must be", x.order(0), 1);
        due("the other", x.order(1), 0);
        x.read(1);
        x.hours(7);
        due("from HOUR 7 it must be the second", x.order(-1), 1);
        due("the first one now", x.order(0), 0);
        due("the one behind an HOUR", x.order(1), 1);
    }

    private static void fallingBackIntoANight() {
        part = "FALLS BACK: nights are in their HOURS";
        WalkingLaw x = laid(WON_AT_NIGHT);
        x.read(0);
        fallsBack("from HOUR 0", x, 100, 99, 99, 100, 100);
        x.hours(7);
        fallsBack("in the HOUR of the night", x, 100, 99, 99, 100, 100);
        x.hours(1);
        // Won by then, he has left PARISH 1 unread, and hears it only if he stands still.
        fallsBack("behind the night", x, 101, 100, 100, 100, 100);
        due("whom he meets by it stays there, if there are beds", meetingAtTheInn(2).back(1), 101);
        due("who stands still is sent back, too", meetingAtTheInn(1).back(1), 100);
        due("the other one does not meet him", meetingAtTheInn(2).back(0), 100);
        part = "FALLS BACK: he stands still for one HOUR, not for two";
        WalkingLaw w = laid("p2,0,9;p1,0,9;p9,0,9;q2;m0,1,1;m5,2,1;b1;");
        w.read(0);
        due("the second meets the first in PARISH 1", w.back(1), 101);
        due("the first meets nobody there", w.back(0), 100);
        part = "FALLS BACK: the HOUR in which he stands still goes by";
        // Sent back at HOUR 8, not at the 8th of his steps: else he would go on to PARISH 2 without meeting anyone.
        WalkingLaw y = laid("p8,0,9;p1,0,0;p9,0,9;m0,1,1;b1;");
        y.read(0);
        due("PARISH 1 comes behind the night, too", y.back(0), 100);
        due("nothing went by", y.count(3), 0);
    }

    private static void fallsBack(String when, WalkingLaw x, int... want) {
        for (int i = 0; i < want.length; i++) {
            due(when + " back(" + i + ")", x.back(i), want[i]);
        }
    }

    /** At HOUR 7 the second is in PARISH 2, and the first an HOUR behind it: they meet there if the second stands still. */
    private static WalkingLaw meetingAtTheInn(int beds) {
        WalkingLaw x = laid("p30,0,8;p30,0,8;p12,0," + beds + ";p30,0,8;q2;b1;m0,8,1;m0,9,1;");
        x.read(0);
        x.hours(4);
        x.read(0);
        x.hours(3);
        due("PASSED in two", x.bill(0, 0), 3);
        return x;
    }

    private static void yearsBehindANight() {
        part = "A YEAR: what is READ behind the 8th HOUR is READ behind the night";
        // In the year 0 MEMBER 0 is for 1, then 15, 11, 7, 2: of BILL 1 he must be won; 2 and 3 fail in PARISH 0.
        String road = "p#,0,9;p1,0,9;p9,0,9;m0,1,0;m5,1,0;m5,1,0;m0,9,0;m0,9,0;";
        due("won in PARISH 1", laid(road.replace("#", "8")).year(0), 3);
        due("he leaves with the night", laid(road.replace("#", "7")).year(0), 1);
        due("won in PARISH 0 he hears BILL 3 there, too", laid(road.replace("#", "9")).year(0), 11);
    }

    private static void memberZeroReads() {
        part = "a BILL is READ in the PARISH of MEMBER 0";
        WalkingLaw x = laid("p5,0,9;p5,0,9;p5,0,9;m2,1,1;m0,5,0;m0,9,0;b1;");
        x.hours(2);
        due("READ where he is", x.read(0), 1);
        due("not where the others are", x.bill(0, 0), 1);
        due("WOULD PASS", x.would(0), 3);
        due("ORDER", x.order(-1), 0);
        WalkingLaw y = laid("p2,0,9;p2,0,9;p2,0,9;m0,1,1;m0,9,0;b1;");
        due("a tie now", y.order(-1), 0);
        y.hours(1);
        due("READ behind him", y.read(0), 1);
        due("ORDER: the last PARISH is the other's, too", y.order(-1), 0);
        due("WOULD PASS", y.would(0), 3);
        WalkingLaw z = laid("p2,0,9;p2,0,9;p2,0,9;m0,1,1;m5,9,0;b1;");
        due("ORDER: the other has no voice", z.order(-1), 1);
        due("A YEAR by what he is for", z.year(0), 1);
    }

    // ---- as laid

    private static void asLaidWhateverWentBy() {
        part = "as LAID, whatever went by";
        for (int hours = 0; hours < 17; hours++) {
            WalkingLaw x = after(hours, "p7,0,9;p1,0,9;p9,0,9;m0,1,0;m5,1,0;m5,1,0;m0,9,0;m0,9,0;");
            x.read(0);
            due("A YEAR from HOUR " + hours, x.year(0), 1);
            due("TEN from HOUR " + hours, x.ten(0, 1), laid("p7,0,9;p1,0,9;p9,0,9;m0,1,0;m5,1,0;m5,1,0;m0,9,0;m0,9,0;").ten(0, 1));
            WalkingLaw y = after(hours, SENT_BACK);
            y.diary(0, 1, 8);
            y.diary(0, 1, 7);
            due("FALSE from HOUR " + hours, y.wrong(), 1);
            due("LATE from HOUR " + hours + ": he was there behind 9 and 10", y.late(), 22);
            y.noDiary();
            y.diary(0, 1, 8);
            due("LATE from HOUR " + hours, y.late(), 19);
        }
        WalkingLaw z = laid("p2,0,9;p2,0,9;m0,1,1;m0,1,0;m5,1,0;b1;");
        due("a tie", z.read(0), 0);
        int year = z.year(1);
        z.hours(16);
        z.keep();
        due("BILLS in a YEAR are not those that PASSED", z.year(1), year);
    }

    private static void hiredAndSilentInYears() {
        part = "A YEAR: what a HIRED or a SILENT one thinks is drawn, too";
        // In the year 0 the first is for 1, the second for 15, the third for 11: at night the two win him for 2 and 8.
        due("hired ones follow him, then he them", laid("p9,0,9;m0,1,2;m4,1,2;m4,1,2;").year(0), 11);
        due("silent ones win him as well", laid("p9,0,9;m0,1,2;m5,1,2;m5,1,2;").year(0), 11);
        due("their told minds do not count", laid("p9,0,9;m0,1,4;m4,1,4;m4,1,4;").year(0), 11);
        due("two-sided ones win him as well", laid("p9,0,9;p9,0,9;m0,1,0;m3,1,0;").year(0), 0);
    }

    private static void everyMemberCounts() {
        part = "a night asks for no QUORUM";
        WalkingLaw x = after(8, "p9,0,9;q8;m0,1,1;m0,1,1;m0,1,0;");
        due("won by two", x.member(2, 2), 1);
        due("nothing passes", x.read(0), 0);
        part = "what a MEMBER is for stays as told, however many BILLS there are";
        for (String text : new String[] {"p9,0,9;m0,1,15;m0,1,13;b1;", "b1;p9,0,9;m0,1,15;m0,1,13;", "b4;m0,1,15;b2;m0,1,13;p9,0,9;b1;"}) {
            WalkingLaw z = laid(text);
            due(text, z.member(0, 2), 15);
            due(text, z.member(1, 2), 13);
            due("one BILL", z.count(2), 1);
            due("no second", z.bill(1, 0), BAD);
        }
    }

    private static void everyKindCounts() {
        part = "ARRIVES: all, of whatever KIND";
        int[] hours = {9, 3, 9, 9, 9, 9};
        for (int kind = 0; kind < hours.length; kind++) {
            WalkingLaw y = laid("p9,0,9;m0,9,0;m" + kind + ",1,0;");
            due("KIND " + kind, y.arrives(), hours[kind]);
            due("all at the END", y.hours(hours[kind]), 2);
            due("he as the first of them", laid("p9,0,9;m" + kind + ",1,0;m0,9,0;").arrives(), hours[kind]);
        }
        for (int kind = 0; kind < 6; kind++) {
            part = "of those in a PARISH each counts, here one of KIND " + kind;
            WalkingLaw x = after(8, "p4,0,9;p30,0,1;m0,1,1;m" + kind + ",1,1;");
            due("he needs a bed", x.member(1, 3), 3);
            due("the other has one", x.member(0, 3), 8);
            x = after(8, "p4,0,9;p30,0,1;m" + kind + ",1,1;m0,1,1;");
            due("he has the bed", x.member(1, 3), 3);
            x = laid("p9,0,9;q2;m0,1,1;m" + kind + ",1,1;");
            due("he is one of two", x.read(0), 1);
            x = laid("p9,0,9;q3;m0,1,1;m" + kind + ",1,1;");
            due("he is not two", x.read(0), 0);
            x = after(8, "p9,0,9;m0,1,0;m" + kind + ",1,1;m" + kind + ",1,1;");
            due("two of them win one", x.member(0, 2), 1);
            x = after(8, "p9,0,9;m" + kind + ",1,0;m0,1,1;m0,1,1;");
            due("he is won by two", x.member(0, 2), 1);
            x = laid("p9,0,9;m" + kind + ",3,0;m0,2,0;");
            due("one PARTY", x.parties(0, -1), 1);
            due("it is his", x.parties(0, 0), 1);
            due("and not the other's", x.parties(0, 1), 0);
        }
    }

    private static void everyLineCounts() {
        part = "LATE, FALSE: each of ten lines counts";
        for (int first = 0; first < 2; first++) {
            WalkingLaw x = laid("p9,0,9;p9,0,9;m0,1,1;");
            for (int line = 0; line < 10; line++) {
                x.diary(0, line / 5 == first ? 0 : 1, 8);
            }
            due("FALSE", x.wrong(), first == 0 ? 0x3e0 : 0x1f);
            due("LATE: five are so as told, five an HOUR behind", x.late(), 20);
            WalkingLaw y = laid("p9,0,9;p9,0,9;m0,1,1;");
            for (int line = 0; line < 9; line++) {
                y.diary(0, line < 5 == (first == 0) ? 1 : 0, 8);
            }
            due("LATE: of nine, five or four are so an HOUR behind", y.late(), first == 0 ? 21 : 20);
        }
    }

    // ---- what a call changes, and what it leaves

    private interface Call {
        int on(WalkingLaw x);
    }

    private static List<String> answers;

    private static void note(String call, int answer) {
        answers.add(call + " = " + answer);
    }

    /** All that can be asked; then, with the DIARY, what is KEPT and THE TEXT used up, what they were. */
    private static List<String> allAnswers(WalkingLaw x) {
        answers = new ArrayList<>();
        noteRoads(x);
        noteAhead(x);
        noteParties(x);
        note("noDiary", x.noDiary());
        for (int k = 0; k < 3; k++) {
            note("again " + k, x.again());
            note("again count(3)", x.count(3));
            for (int i = 0; i < x.count(1); i++) {
                note("again member(" + i + ", 2)", x.member(i, 2));
                note("again member(" + i + ", 3)", x.member(i, 3));
            }
            for (int b = 0; b < x.count(2); b++) {
                note("again bill(" + b + ", 0)", x.bill(b, 0));
                note("again bill(" + b + ", 2)", x.bill(b, 2));
            }
        }
        note("lay", x.lay());
        note("lay count(4)", x.count(4));
        note("lay count(8)", x.count(8));
        note("wipe", x.wipe());
        due("calls left", answers.size() + 100 <= MOST_CALLS ? 1 : 0, 1);
        return answers;
    }

    private static void noteRoads(WalkingLaw x) {
        for (int what = 0; what < 9; what++) {
            note("count(" + what + ")", x.count(what));
        }
        note("fault", x.fault());
        for (int p = 0; p < x.count(0); p++) {
            for (int what = 0; what < 4; what++) {
                note("parish(" + p + ", " + what + ")", x.parish(p, what));
            }
            for (int b = 0; b < x.count(2); b++) {
                for (int what = 0; what < 3; what++) {
                    note("voices(" + p + ", " + b + ", " + what + ")", x.voices(p, b, what));
                }
            }
        }
        for (int i = 0; i < x.count(1); i++) {
            for (int what = 0; what < 5; what++) {
                note("member(" + i + ", " + what + ")", x.member(i, what));
            }
        }
        for (int b = 0; b < x.count(2); b++) {
            for (int what = 0; what < 3; what++) {
                note("bill(" + b + ", " + what + ")", x.bill(b, what));
            }
        }
    }

    private static void noteAhead(WalkingLaw x) {
        for (int i = 0; i < x.count(1); i++) {
            note("mile(9, " + i + ")", x.mile(9, i));
            note("back(" + i + ")", x.back(i));
        }
        for (int p = 0; p < x.count(0); p++) {
            note("who(1, " + p + ")", x.who(1, p));
        }
        note("arrives", x.arrives());
        for (int b = 0; b < x.count(2); b++) {
            note("would(" + b + ")", x.would(b));
            note("order(" + b + ")", x.order(b));
            note("ten(9995, " + b + ")", x.ten(9995, b));
        }
        note("order(-1)", x.order(-1));
        note("year(0)", x.year(0));
        note("year(9999)", x.year(9999));
    }

    private static void noteParties(WalkingLaw x) {
        for (int p = 0; p < x.count(0); p++) {
            for (int i = -1; i < x.count(1); i++) {
                note("parties(" + p + ", " + i + ")", x.parties(p, i));
            }
            for (int b = 0; b < x.count(2); b++) {
                note("join(" + p + ", " + b + ")", x.join(p, b));
            }
        }
        note("wrong", x.wrong());
        note("late", x.late());
    }

    /**
     * Asked of one object, and not of its twin: then their answers differ in nothing but in what is told by its beginning;
     * behind a ? stands what may differ, and does not here.
     */
    private static void changes(String what, Supplier<WalkingLaw> made, Call call, String... told) {
        part = what;
        WalkingLaw x = made.get();
        call.on(x);
        List<String> got = allAnswers(x);
        List<String> twin = allAnswers(made.get());
        due("how many answers", got.size(), twin.size());
        boolean[] changed = new boolean[told.length];
        for (int k = 0; k < Math.min(got.size(), twin.size()); k++) {
            if (!got.get(k).equals(twin.get(k)) && !isTold(got.get(k), told, changed)) {
                due("not told to change: " + got.get(k) + ", the twin's: " + twin.get(k), 1, 0);
            }
        }
        for (int t = 0; t < told.length; t++) {
            due("what begins with " + told[t] + " changes", changed[t] ? 1 : 0, told[t].startsWith("?") ? 0 : 1);
        }
    }

    private static boolean isTold(String answer, String[] told, boolean[] changed) {
        boolean found = false;
        for (int t = 0; t < told.length; t++) {
            if (answer.startsWith(told[t].startsWith("?") ? told[t].substring(1) : told[t])) {
                changed[t] = true;
                found = true;
            }
        }
        return found;
    }

    /** On the way, with some of all; THE TEXT could be LAID, and is another than the one that was. */
    private static WalkingLaw onTheWay() {
        WalkingLaw x = laid("p9,1,3;p5,0,2;p30,1,4;p1,0,40;p2,1,5;q2;b3;m0,2,7;m1,9,1;m2,4,2;m3,2,4;m4,2,15;m5,2,8;m0,3,3;");
        x.read(0);
        x.hours(2);
        x.read(0);
        x.diary(0, 0, 1);
        x.diary(5, 1, 13);
        x.keep();
        x.hours(5);
        x.diary(4, 2, 99);
        x.wipe();
        put(x, "p4,0,0;p8,1,1;m4,4,4;q8;");
        return x;
    }

    private static void asks(String what, Call call) {
        changes(what + " of a new object", WalkingLaw::new, call);
        changes(what + " on the way", TogetherTest::onTheWay, call);
    }

    private static void askingChangesNothing() {
        asks("fault()", x -> x.fault());
        for (int k = 0; k < 9; k++) {
            int n = k;
            asks("count(" + n + ")", x -> x.count(n));
        }
        for (int k = 0; k < 5; k++) {
            int n = k;
            asks("parish(0, " + n + ")", x -> x.parish(0, n));
            asks("member(0, " + n + ")", x -> x.member(0, n));
            asks("voices(0, 0, " + n + ")", x -> x.voices(0, 0, n));
            asks("bill(0, " + n + ")", x -> x.bill(0, n));
            asks("would(" + n + ")", x -> x.would(n));
            asks("back(" + n + ")", x -> x.back(n));
            asks("order(" + (n - 1) + ")", x -> x.order(n - 1));
            asks("parties(0, " + (n - 1) + ")", x -> x.parties(0, n - 1));
            asks("join(" + n + ", 0)", x -> x.join(n, 0));
            asks("ten(77, " + n + ")", x -> x.ten(77, n));
            asks("mile(" + 100 * n + ", 0)", x -> x.mile(100 * n, 0));
            asks("who(" + 100 * n + ", 0)", x -> x.who(100 * n, 0));
            asks("year(" + 2499 * n + ")", x -> x.year(2499 * n));
        }
        asks("arrives()", x -> x.arrives());
        asks("wrong()", x -> x.wrong());
        asks("late()", x -> x.late());
    }

    private static void eachCallChangesWhatIsTold() {
        changes("write", TogetherTest::onTheWay, x -> x.write(3, 0x71313b), "count(7)", "lay count(8)", "wipe");
        changes("write a FAULT", TogetherTest::onTheWay, x -> x.write(1, 'x'), "count(7)", "fault", "lay", "wipe");
        changes("wipe", TogetherTest::onTheWay, x -> x.wipe(), "count(7)", "lay", "wipe");
        changes("read", TogetherTest::onTheWay, x -> x.read(1), "bill(1", "?would(1)", "?order(", "?back(");
        changes("read in vain", TogetherTest::onTheWay, x -> x.read(2));
        changes("read, of two", () -> laid("p1,0,9;p9,0,9;m0,1,3;b2;"), x -> x.read(0), "bill(0", "order(", "back(",
            "again bill(0");
        changes("diary", TogetherTest::onTheWay, x -> x.diary(0, 3, 4), "count(5)", "wrong", "noDiary");
        changes("noDiary", TogetherTest::onTheWay, x -> x.noDiary(), "count(5)", "wrong", "late", "noDiary");
        changes("keep", TogetherTest::onTheWay, x -> x.keep(), "count(6)", "again");
        changes("hours", TogetherTest::onTheWay, x -> x.hours(1), "count(3)", "parish(0, 3)", "parish(1, 3)", "parish(2, 3)",
            "member(", "voices(", "mile(", "who(", "arrives", "?would(", "?order(", "?back(", "parties(", "join(");
        changes("again", TogetherTest::onTheWay, x -> x.again(), "count(3)", "count(6)", "parish(0, 3)", "?parish(1, 3)",
            "parish(2, 3)", "member(", "voices(", "mile(", "who(", "arrives", "would(", "?order(", "back(", "parties(", "join(",
            "again");
        part = "KIND and PACE stay";
        WalkingLaw x = onTheWay();
        int[] kinds = {0, 1, 2, 3, 4, 5, 0};
        int[] paces = {2, 9, 4, 2, 2, 2, 3};
        x.hours(9);
        x.again();
        for (int i = 0; i < kinds.length; i++) {
            due("KIND", x.member(i, 0), kinds[i]);
            due("PACE", x.member(i, 1), paces[i]);
        }
    }

    private static void layingAnew() {
        part = "LAID: as if it were the first one";
        String text = "p4,0,0;p8,1,1;m4,4,4;";
        WalkingLaw x = onTheWay();
        x.wipe();
        put(x, text);
        due("its one MEMBER", x.lay(), 1);
        List<String> got = allAnswers(x);
        List<String> want = allAnswers(laid(text));
        due("how many answers", got.size(), want.size());
        for (int k = 0; k < Math.min(got.size(), want.size()); k++) {
            due(got.get(k) + ", of a new object " + want.get(k), got.get(k).equals(want.get(k)) ? 1 : 0, 1);
        }
        WalkingLaw y = onTheWay();
        due("QUORUM", y.count(8), 2);
        due("LAID", y.lay(), 1);
        due("QUORUM", y.count(8), 8);
        due("BILLS", y.count(2), 4);
        due("nothing KEPT", y.again(), NO);
        due("no DIARY", y.noDiary(), 0);
        due("no third MEMBER", y.member(2, 0), BAD);
        due("THE TEXT stays", y.count(7), 24);
        due("LAID once more", y.lay(), 1);
        due("no FAULT", y.fault(), NONE);
        y.keep();
        y.keep();
        due("no third", y.keep(), FULL);
    }
}
