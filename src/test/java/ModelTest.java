import java.util.ArrayList;
import java.util.List;

/** Holds WalkingLaw against a model in plain words, by runs of calls drawn by a fixed row of numbers. */
public final class ModelTest {
    private static final int RUNS = 600;
    /** Behind so many calls of one object nothing is promised. */
    private static final int MOST_CALLS = 512;
    private static final int MOST_IN_A_STEP = 3;

    public static void main(String[] args) {
        long calls = 0;
        for (int run = 0; run < RUNS; run++) {
            int gone = new Run(run).go();
            if (gone < 0) {
                System.exit(1);
            }
            calls += gone;
        }
        System.out.println("ModelTest: " + RUNS + " runs, " + calls + " calls, all as the model answers");
    }

    /** One run of calls on one object. */
    private static final class Run {
        private final int number;
        private final WalkingLaw law = new WalkingLaw();
        private final Model model = new Model();
        private final List<String> told = new ArrayList<>();
        private long state;
        private String waiting = "";

        Run(int number) {
            this.number = number;
            state = number * 0x9E3779B97F4A7C15L + 12345;
        }

        int below(int n) {
            state = state * 6364136223846793005L + 1442695040888963407L;
            return (int) ((state >>> 33) % n);
        }

        int go() {
            while (told.size() + MOST_IN_A_STEP <= MOST_CALLS) {
                if (!step()) {
                    for (int k = Math.max(0, told.size() - 80); k < told.size(); k++) {
                        System.out.println("run " + number + ": " + told.get(k));
                    }
                    return -1;
                }
            }
            return told.size();
        }

        private boolean same(String call, int got, int want) {
            told.add(call + " answered " + got + (got == want ? "" : ", the model answers " + want));
            return got == want;
        }

        private boolean step() {
            if (!waiting.isEmpty()) {
                return writeSome();
            }
            int kind = below(40);
            if (kind == 0 || told.isEmpty()) {
                waiting = below(12) == 0 ? spoiled(text()) : text();
                return same("wipe()", law.wipe(), model.wipe());
            }
            if (kind == 1) {
                return same("fault()", law.fault(), model.fault());
            }
            return kind < 14 ? onTheWay(kind) : ahead(kind);
        }

        private boolean writeSome() {
            int n = Math.min(1 + below(8), waiting.length());
            long v = below(2) == 0 ? 0 : -1L;
            for (int k = 0; k < n; k++) {
                v = v << 8 | waiting.charAt(k) & 255;
            }
            waiting = waiting.substring(n);
            if (!same("write(" + n + ", " + v + ")", law.write(n, v), model.write(n, v))) {
                return false;
            }
            return !waiting.isEmpty() || same("fault()", law.fault(), model.fault())
                && same("lay()", law.lay(), model.lay());
        }

        private boolean onTheWay(int kind) {
            int p = near(model.parishes());
            int i = near(model.members());
            int b = near(model.bills());
            int what = below(7) - 1;
            switch (kind) {
                case 2: return same("parish(" + p + ", " + what + ")", law.parish(p, what), model.parish(p, what));
                case 3: return same("member(" + i + ", " + what + ")", law.member(i, what), model.member(i, what));
                case 4: case 5: case 6: case 7:
                    int n = below(30) == 0 ? below(120) - 10 : 1 + below(12);
                    return same("hours(" + n + ")", law.hours(n), model.hours(n));
                case 8: return same("voices(" + p + ", " + b + ", " + what + ")",
                    law.voices(p, b, what), model.voices(p, b, what));
                case 9: case 10: case 11: return same("read(" + b + ")", law.read(b), model.read(b));
                case 12: return same("bill(" + b + ", " + what + ")", law.bill(b, what), model.bill(b, what));
                default:
                    int c = below(11) - 1;
                    return same("count(" + c + ")", law.count(c), model.count(c));
            }
        }

        private boolean ahead(int kind) {
            int p = near(model.parishes());
            int i = near(model.members());
            int b = near(model.bills());
            int n = below(4) == 0 ? 380 + below(25) : below(3) == 0 ? below(401) : below(30) - 1;
            int z = below(3) == 0 ? 9985 + below(18) : below(10003) - 1;
            switch (kind) {
                case 14: case 15: return same("mile(" + n + ", " + i + ")", law.mile(n, i), model.mile(n, i));
                case 16: case 17: return same("who(" + n + ", " + p + ")", law.who(n, p), model.who(n, p));
                case 18: return same("arrives()", law.arrives(), model.arrives());
                case 19: case 20: return same("would(" + b + ")", law.would(b), model.would(b));
                case 21: case 22: return same("order(" + b + ")", law.order(b), model.order(b));
                case 23: case 24: return same("back(" + i + ")", law.back(i), model.back(i));
                case 25: return same("parties(" + p + ", " + i + ")", law.parties(p, i), model.parties(p, i));
                case 26: return same("join(" + p + ", " + b + ")", law.join(p, b), model.join(p, b));
                case 27: case 28: case 29: case 30:
                    return same("diary(" + i + ", " + p + ", " + n + ")", law.diary(i, p, n), model.diary(i, p, n));
                case 31: return below(4) != 0 || same("noDiary()", law.noDiary(), model.noDiary());
                case 32: return same("wrong()", law.wrong(), model.wrong());
                case 33: case 34: return same("late()", law.late(), model.late());
                case 35: case 36: return same("year(" + z + ")", law.year(z), model.year(z));
                case 37: return same("ten(" + z + ", " + b + ")", law.ten(z, b), model.ten(z, b));
                case 38: return same("keep()", law.keep(), model.keep());
                default: return same("again()", law.again(), model.again());
            }
        }

        /** Mostly one of so many, now and then one beside them. */
        private int near(int count) {
            return below(12) == 0 ? (below(2) == 0 ? -1 : count) : below(count);
        }

        private String text() {
            int style = below(5);
            int parishes = 1 + below(6);
            int members = 1 + below(8);
            List<String> items = new ArrayList<>();
            for (int p = 0; p < parishes; p++) {
                int miles = style == 0 ? 1 + below(3) : style == 1 ? 20 + below(11) : 1 + below(12);
                int beds = style == 1 ? below(3) : below(3) == 0 ? below(3) : below(10);
                items.add("p" + miles + "," + below(2) + "," + (p == parishes - 1 && style != 2 ? 8 + below(33) : beds));
            }
            int all = below(3) == 0 ? 16 : 0;
            for (int i = 0; i < members; i++) {
                int pace = style < 2 ? 1 + below(2) : 1 + below(9);
                items.add(below(items.size() + 1), "m" + below(6) + "," + pace + "," + (all - (all > 0 ? 1 + below(3) : 0)
                    + (all > 0 ? 0 : below(16))));
            }
            for (int k = below(3); k > 0; k--) {
                items.add(below(items.size() + 1), "q" + (1 + below(below(2) == 0 ? 8 : 3)));
            }
            for (int k = below(3); k > 0; k--) {
                items.add(below(items.size() + 1), "b" + (1 + below(4)));
            }
            StringBuilder text = new StringBuilder();
            for (String item : items) {
                text.append(item).append(';');
            }
            return text.toString();
        }

        private String spoiled(String text) {
            StringBuilder spoiled = new StringBuilder(text);
            String signs = "pmqb0123456789,;; x\u00ff";
            for (int k = 1 + below(2); k > 0; k--) {
                int at = below(spoiled.length());
                char sign = signs.charAt(below(signs.length()));
                switch (below(4)) {
                    case 0: spoiled.setCharAt(at, sign); break;
                    case 1: spoiled.insert(at, sign); break;
                    case 2: spoiled.append(text); break;
                    default: spoiled.deleteCharAt(at);
                }
                if (spoiled.length() == 0) {
                    spoiled.append(sign);
                }
            }
            return spoiled.toString();
        }
    }

    /** A MEMBER on the way. */
    private static final class Walker implements Cloneable {
        int number, kind, pace, mile;
        boolean[] isFor = new boolean[4];

        Walker copy() {
            Walker w = new Walker();
            w.number = number;
            w.kind = kind;
            w.pace = pace;
            w.mile = mile;
            w.isFor = isFor.clone();
            return w;
        }
    }

    /** Where all are, and what has passed. */
    private static final class Scene {
        List<int[]> parishes = new ArrayList<>();
        List<Walker> walkers = new ArrayList<>();
        int quorum = 1, bills = 4, hour = 0;
        List<List<Integer>> passed = new ArrayList<>();

        Scene() {
            for (int b = 0; b < 4; b++) {
                passed.add(new ArrayList<>());
            }
        }

        Scene copy() {
            Scene s = new Scene();
            s.parishes = parishes;
            for (Walker w : walkers) {
                s.walkers.add(w.copy());
            }
            s.quorum = quorum;
            s.bills = bills;
            s.hour = hour;
            for (int b = 0; b < 4; b++) {
                s.passed.get(b).addAll(passed.get(b));
            }
            return s;
        }

        int end() {
            int miles = 0;
            for (int[] p : parishes) {
                miles += p[0];
            }
            return miles;
        }

        int first(int p) {
            int miles = 0;
            for (int k = 0; k < p; k++) {
                miles += parishes.get(k)[0];
            }
            return miles;
        }

        int parishOf(Walker w) {
            int rest = w.mile;
            for (int p = 0; p < parishes.size(); p++) {
                if (rest < parishes.get(p)[0]) {
                    return p;
                }
                rest -= parishes.get(p)[0];
            }
            return parishes.size() - 1;
        }

        List<Walker> in(int p) {
            List<Walker> there = new ArrayList<>();
            for (Walker w : walkers) {
                if (parishOf(w) == p) {
                    there.add(w);
                }
            }
            return there;
        }

        void hourGoes(int still) {
            for (Walker w : walkers) {
                int miles = w.pace;
                if (w.kind == 1) {
                    miles = 4;
                } else if (w.kind == 2 && parishes.get(parishOf(w))[1] == 1) {
                    miles = w.pace / 2;
                }
                if (w.number == still) {
                    miles = 0;
                }
                w.mile = Math.min(w.mile + miles, end());
            }
            hour++;
            if (hour % 8 == 0) {
                night();
            }
        }

        void night() {
            for (int p = parishes.size() - 1; p >= 1; p--) {
                List<Walker> there = in(p);
                for (int k = parishes.get(p)[2]; k < there.size(); k++) {
                    there.get(k).mile = first(p) - 1;
                }
            }
            for (int p = 0; p < parishes.size(); p++) {
                for (int b = 0; b < bills; b++) {
                    List<Walker> pro = new ArrayList<>();
                    List<Walker> con = new ArrayList<>();
                    for (Walker w : in(p)) {
                        (w.isFor[b] ? pro : con).add(w);
                    }
                    if (pro.size() > con.size() && con.size() > 0) {
                        con.get(0).isFor[b] = true;
                    } else if (con.size() > pro.size() && pro.size() > 0) {
                        pro.get(0).isFor[b] = false;
                    }
                }
            }
        }

        int voices(int p, int b, boolean yes) {
            List<Walker> there = in(p);
            int n = 0;
            for (Walker w : there) {
                Boolean says = says(w, there, p, b);
                if (says != null && says == yes) {
                    n++;
                }
            }
            return n;
        }

        private Boolean says(Walker w, List<Walker> there, int p, int b) {
            if (w.kind == 5) {
                return null;
            }
            if (w.kind == 3) {
                return p == 0 || p == 2 || p == 4;
            }
            if (w.kind == 4) {
                for (Walker other : there) {
                    if (other.kind != 4) {
                        return other.isFor[b];
                    }
                }
                return null;
            }
            return w.isFor[b];
        }

        boolean passes(int p, int b) {
            return voices(p, b, true) > voices(p, b, false) && in(p).size() >= quorum;
        }

        boolean read(int b) {
            int p = parishOf(walkers.get(0));
            if (!passes(p, b)) {
                return false;
            }
            if (!passed.get(b).contains(p)) {
                passed.get(b).add(p);
            }
            return true;
        }

        void readAll() {
            for (int b = 0; b < bills; b++) {
                read(b);
            }
        }

        int held() {
            int held = 0;
            for (int b = 0; b < bills; b++) {
                if (passed.get(b).size() == parishes.size()) {
                    held += 1 << b;
                }
            }
            return held;
        }

        int mind(int i) {
            int mind = 0;
            for (int b = 0; b < 4; b++) {
                mind += walkers.get(i).isFor[b] ? 1 << b : 0;
            }
            return mind;
        }

        void setMind(int i, int mind) {
            for (int b = 0; b < 4; b++) {
                walkers.get(i).isFor[b] = mind / (1 << b) % 2 == 1;
            }
        }

        int all(int p) {
            int set = 0;
            for (Walker w : in(p)) {
                set += 1 << w.number;
            }
            return set;
        }
    }

    /** The document's calls, over scenes that are copied for each look ahead. */
    private static final class Model {
        private static final int BAD = -1, NO = -2, FULL = -3, NONE = -4;
        private String text = "";
        private Scene laid = sceneOf("p9,0,9;m0,3,15;");
        private Scene now = laid.copy();
        private final List<Scene> kept = new ArrayList<>();
        private final List<int[]> lines = new ArrayList<>();

        int parishes() {
            return laid.parishes.size();
        }

        int members() {
            return laid.walkers.size();
        }

        int bills() {
            return laid.bills;
        }

        /** By patterns of the Java library, so that it shares nothing with the reader under test. */
        private static int faultOf(String text, Scene into) {
            int at = 0;
            while (at < text.length()) {
                int end = text.indexOf(';', at);
                String item = end < 0 ? "" : text.substring(at, end);
                if (!take(item, into)) {
                    return at;
                }
                at = end + 1;
            }
            return NONE;
        }

        private static boolean take(String item, Scene into) {
            if (!item.matches("[pm][0-9]{1,2},[0-9]{1,2},[0-9]{1,2}|[qb][0-9]{1,2}")) {
                return false;
            }
            String[] parts = item.substring(1).split(",");
            int[] n = new int[parts.length];
            for (int k = 0; k < n.length; k++) {
                n[k] = Integer.parseInt(parts[k]);
            }
            switch (item.charAt(0)) {
                case 'p':
                    into.parishes.add(n);
                    return n[0] >= 1 && n[0] <= 30 && n[1] <= 1 && n[2] <= 40 && into.parishes.size() <= 6;
                case 'm':
                    Walker w = new Walker();
                    w.number = into.walkers.size();
                    w.kind = n[0];
                    w.pace = n[1];
                    into.walkers.add(w);
                    into.setMind(w.number, n[2]);
                    return n[0] <= 5 && n[1] >= 1 && n[1] <= 9 && n[2] <= 15 && into.walkers.size() <= 8;
                case 'q':
                    into.quorum = n[0];
                    return n[0] >= 1 && n[0] <= 8;
                default:
                    into.bills = n[0];
                    return n[0] >= 1 && n[0] <= 4;
            }
        }

        private static Scene sceneOf(String text) {
            Scene scene = new Scene();
            return faultOf(text, scene) == NONE && scene.parishes.size() > 0 && scene.walkers.size() > 0 ? scene : null;
        }

        int write(int n, long v) {
            if (n < 1 || n > 8) {
                return BAD;
            }
            if (text.length() + n > 300) {
                return FULL;
            }
            StringBuilder longer = new StringBuilder(text);
            for (int k = 8 - n; k < 8; k++) {
                longer.append((char) (v << 8 * k >>> 56));
            }
            text = longer.toString();
            return text.length();
        }

        int wipe() {
            int n = text.length();
            text = "";
            return n;
        }

        int fault() {
            return faultOf(text, new Scene());
        }

        int lay() {
            Scene next = sceneOf(text);
            if (next == null) {
                return NO;
            }
            laid = next;
            now = laid.copy();
            kept.clear();
            lines.clear();
            return members();
        }

        private boolean noParish(int p) {
            return p < 0 || p >= parishes();
        }

        private boolean noMember(int i) {
            return i < 0 || i >= members();
        }

        private boolean noBill(int b) {
            return b < 0 || b >= bills();
        }

        int parish(int p, int what) {
            if (noParish(p) || what < 0 || what > 3) {
                return BAD;
            }
            return what == 3 ? now.all(p) : now.parishes.get(p)[what];
        }

        int member(int i, int what) {
            if (noMember(i) || what < 0 || what > 4) {
                return BAD;
            }
            Walker w = now.walkers.get(i);
            return new int[] {w.kind, w.pace, now.mind(i), w.mile, now.parishOf(w)}[what];
        }

        int hours(int n) {
            if (n < 1 || n > 99) {
                return BAD;
            }
            if (now.hour > 9999 - n) {
                return NO;
            }
            now = behind(now, n);
            return atEnd(now);
        }

        private static Scene behind(Scene scene, int n) {
            Scene later = scene.copy();
            for (int k = 0; k < n; k++) {
                later.hourGoes(-1);
            }
            return later;
        }

        private static int atEnd(Scene scene) {
            int n = 0;
            for (Walker w : scene.walkers) {
                n += w.mile == scene.end() ? 1 : 0;
            }
            return n;
        }

        int voices(int p, int b, int what) {
            if (noParish(p) || noBill(b) || what < 0 || what > 2) {
                return BAD;
            }
            return what == 2 ? (now.passes(p, b) ? 1 : 0) : now.voices(p, b, what == 0);
        }

        int read(int b) {
            return noBill(b) ? BAD : now.read(b) ? 1 : 0;
        }

        int bill(int b, int what) {
            if (noBill(b) || what < 0 || what > 2) {
                return BAD;
            }
            List<Integer> where = now.passed.get(b);
            if (what == 0) {
                return bits(where);
            }
            if (what == 1) {
                return where.size() == parishes() ? 1 : 0;
            }
            return where.isEmpty() ? NONE : where.get(0);
        }

        private static int bits(List<Integer> places) {
            int set = 0;
            for (int p : places) {
                set += 1 << p;
            }
            return set;
        }

        int mile(int n, int i) {
            return n < 0 || n > 400 || noMember(i) ? BAD : behind(now, n).walkers.get(i).mile;
        }

        int who(int n, int p) {
            return n < 0 || n > 400 || noParish(p) ? BAD : behind(now, n).all(p);
        }

        int arrives() {
            Scene scene = now.copy();
            int n = 0;
            while (n <= 400 && atEnd(scene) < members()) {
                scene.hourGoes(-1);
                n++;
            }
            return n > 400 ? NONE : n;
        }

        int would(int b) {
            if (noBill(b)) {
                return BAD;
            }
            return bits(readBy(now.copy(), new int[] {b}).passed.get(b));
        }

        /** Now and behind each of 200 HOURS one BILL, by a row. */
        private static Scene readBy(Scene scene, int[] row) {
            for (int n = 0; n <= 200; n++) {
                if (n > 0) {
                    scene.hourGoes(-1);
                }
                scene.read(row[n % row.length]);
            }
            return scene;
        }

        int order(int i) {
            if (i != -1 && noBill(i)) {
                return BAD;
            }
            int[] best = null;
            int most = -1;
            for (int[] row : rows(new int[0])) {
                int held = Integer.bitCount(readBy(now.copy(), row).held());
                if (held > most) {
                    most = held;
                    best = row;
                }
            }
            return i == -1 ? most : best[i];
        }

        private List<int[]> rows(int[] begun) {
            List<int[]> rows = new ArrayList<>();
            if (begun.length == bills()) {
                rows.add(begun);
                return rows;
            }
            for (int b = 0; b < bills(); b++) {
                boolean seen = false;
                for (int other : begun) {
                    seen |= other == b;
                }
                if (!seen) {
                    int[] longer = java.util.Arrays.copyOf(begun, begun.length + 1);
                    longer[begun.length] = b;
                    rows.addAll(rows(longer));
                }
            }
            return rows;
        }

        int back(int i) {
            if (noMember(i)) {
                return BAD;
            }
            int[] n = new int[2];
            for (int k = 0; k < 2; k++) {
                Scene scene = now.copy();
                for (int hour = 1; hour <= 200; hour++) {
                    scene.hourGoes(hour == 1 && k == 1 ? i : -1);
                    scene.readAll();
                }
                for (int b = 0; b < bills(); b++) {
                    n[k] += scene.passed.get(b).size() == parishes() && now.walkers.get(i).isFor[b] ? 1 : 0;
                }
            }
            return n[1] - n[0] + 100;
        }

        int parties(int p, int i) {
            if (noParish(p) || i != -1 && noMember(i)) {
                return BAD;
            }
            List<Walker> there = now.in(p);
            int found = 0;
            for (int set = 0; set < 1 << there.size(); set++) {
                if (!isMost(there, set)) {
                    continue;
                }
                boolean lean = true;
                boolean has = i == -1;
                for (int k = 0; k < there.size(); k++) {
                    if ((set & 1 << k) != 0) {
                        lean &= !isMost(there, set - (1 << k));
                        has |= there.get(k).number == i;
                    }
                }
                found += lean && has ? 1 : 0;
            }
            return found;
        }

        private static boolean isMost(List<Walker> there, int set) {
            double whole = 0;
            double part = 0;
            for (int k = 0; k < there.size(); k++) {
                whole += there.get(k).pace;
                part += (set & 1 << k) != 0 ? there.get(k).pace : 0;
            }
            return part > whole / 2;
        }

        int join(int p, int b) {
            if (noParish(p) || noBill(b)) {
                return BAD;
            }
            Scene scene = now.copy();
            int n = 0;
            while (!scene.passes(p, b)) {
                Walker w = new Walker();
                w.number = scene.walkers.size();
                w.pace = 1;
                w.mile = scene.first(p);
                w.isFor[b] = true;
                scene.walkers.add(w);
                n++;
            }
            return n;
        }

        int diary(int i, int p, int h) {
            if (noMember(i) || noParish(p) || h < 0 || h > 400) {
                return BAD;
            }
            if (lines.size() == 10) {
                return FULL;
            }
            lines.add(new int[] {i, p, h});
            return lines.size();
        }

        int noDiary() {
            int n = lines.size();
            lines.clear();
            return n;
        }

        private boolean isSo(int[] line, int d) {
            Scene scene = behind(laid, Math.max(0, line[2] + d));
            return scene.parishOf(scene.walkers.get(line[0])) == line[1];
        }

        int wrong() {
            int set = 0;
            for (int k = 0; k < lines.size(); k++) {
                set += isSo(lines.get(k), 0) ? 0 : 1 << k;
            }
            return set;
        }

        int late() {
            int best = 0;
            int most = -1;
            for (int d = -20; d <= 20; d++) {
                int n = 0;
                for (int[] line : lines) {
                    n += isSo(line, d) ? 1 : 0;
                }
                if (n > most || n == most && Math.abs(d) < Math.abs(best)) {
                    most = n;
                    best = d;
                }
            }
            return best + 20;
        }

        int year(int z) {
            if (z < 0 || z > 9999) {
                return BAD;
            }
            Scene scene = laid.copy();
            for (int i = 0; i < members(); i++) {
                java.math.BigInteger x = java.math.BigInteger.valueOf(7919L * z + 6151L * i + 1);
                scene.setMind(i, x.multiply(x).mod(java.math.BigInteger.valueOf(65521)).intValue() % 16);
            }
            scene.readAll();
            for (int n = 1; n <= 200; n++) {
                scene.hourGoes(-1);
                scene.readAll();
            }
            return scene.held();
        }

        int ten(int z, int b) {
            if (z < 0 || z > 9999 || noBill(b)) {
                return BAD;
            }
            int n = 0;
            for (int k = z; k < z + 10; k++) {
                n += year(k > 9999 ? k - 10000 : k) / (1 << b) % 2;
            }
            return n;
        }

        int keep() {
            if (kept.size() == 2) {
                return FULL;
            }
            kept.add(now.copy());
            return kept.size();
        }

        int again() {
            if (kept.isEmpty()) {
                return NO;
            }
            now = kept.remove(kept.size() - 1);
            return kept.size();
        }

        int count(int what) {
            if (what < 0 || what > 8) {
                return BAD;
            }
            return new int[] {parishes(), members(), bills(), now.hour, laid.end(), lines.size(), kept.size(),
                text.length(), laid.quorum}[what];
        }
    }
}
