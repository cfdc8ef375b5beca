import java.util.IdentityHashMap;
import java.util.Map;

/**
 * What the tests of edges share: answers that are due, refusals that must change nothing,
 * and objects to begin with. An object is made anew for each question, so that none is
 * asked more often than the 512 calls for which the document promises its answers.
 */
public class Edge {
    public interface Make {
        BellYards made();
    }

    public interface Call {
        long on(BellYards x);
    }

    public interface CallOf {
        long on(BellYards x, int v);
    }

    protected static final int LEAST = Integer.MIN_VALUE;
    protected static final int GREATEST = Integer.MAX_VALUE;
    protected static final int NONE = -1, BAD = -2, NOT = -3, FULL = -4;
    protected static final int NULL = 1, INDEX = 2, CAST = 3, STORE = 4, SIZE = 5;

    protected static final Make NEW = BellYards::new;
    protected static final Make SOME = Edge::some;
    protected static final Make ALL = Edge::all;

    /** A law text of exactly 100 bytes that is well. */
    protected static final String LONG_LAWS = "a=1900,1000;b=1800,300@3;k=2@1" + ";k=2@1".repeat(11) + ";k=2";

    private static final int[] WEEKS = {0, 1, 3, 6, 10, 199};
    private static final int GROUPS = 15;
    private static final Map<Make, String[]> UNTOUCHED = new IdentityHashMap<>();
    private static int wrong = 0;
    private static int asked = 0;

    protected Edge() {
    }

    protected static void due(String what, long got, long want) {
        asked++;
        if (got != want) {
            wrong++;
            System.out.println(what + " answered " + got + ", due is " + want);
        }
    }

    protected static void end() {
        System.out.println(wrong == 0 ? asked + " edges hold" : wrong + " of " + asked + " edges do not hold");
        if (wrong != 0) {
            System.exit(1);
        }
    }

    // ---- refusals

    /** A call is refused, and changes nothing at all. */
    protected static void refused(String what, Make make, Call call, long answer) {
        due(what, call.on(make.made()), answer);
        unchanged(what, make, call, 0);
    }

    /** A call is a finding: its number is told by count(8), and changes nothing else. */
    protected static void found(String what, Make make, Call call, int number) {
        found(what, make, call, number, -10 - number);
    }

    protected static void found(String what, Make make, Call call, int number, long answer) {
        due(what, call.on(make.made()), answer);
        unchanged(what, make, call, 1);
        for (int before : new int[] {NULL, SIZE}) {
            BellYards x = make.made();
            findBefore(x, before);
            call.on(x);
            due(what + ": count(8)", x.count(8), number);
        }
    }

    private static void findBefore(BellYards x, int number) {
        if (number == SIZE) {
            x.sheet(0, 0, -1);
        } else {
            // Sheet 3 is LOST in each of the objects that are asked for findings.
            x.lose(3);
        }
        due("count(8) before", x.count(8), number);
    }

    /** For one argument from least to most: these two are taken; what lies beyond is refused. */
    protected static void limits(String what, Make make, CallOf call, long answer, int least, int most) {
        for (int v : new int[] {least, most}) {
            due(what + " " + v + " is taken", call.on(make.made(), v) == answer ? 0 : 1, 1);
        }
        beyond(what, make, call, answer, least, most);
    }

    /** For one argument: what is below least or above most is refused. */
    protected static void beyond(String what, Make make, CallOf call, long answer, int least, int most) {
        for (int v : new int[] {least - 1, most + 1, -1, -2, -1000, LEAST, LEAST + 1, GREATEST - 1, GREATEST}) {
            if (v < least || v > most) {
                refused(what + " " + v, make, x -> call.on(x, v), answer);
            }
        }
    }

    /** A question: however often it is put, it changes nothing. */
    protected static void asks(String what, Make make, Call question) {
        BellYards x = make.made();
        due(what + ", the same answer", question.on(x), question.on(x));
        unchanged(what, make, question, 0);
    }

    private static void unchanged(String what, Make make, Call call, int firstGroup) {
        String[] untouched = UNTOUCHED.get(make);
        if (untouched == null) {
            untouched = new String[GROUPS];
            for (int group = 0; group < GROUPS; group++) {
                untouched[group] = told(make.made(), group);
            }
            UNTOUCHED.put(make, untouched);
        }
        for (int group = firstGroup; group < GROUPS; group++) {
            BellYards x = make.made();
            call.on(x);
            asked++;
            if (!told(x, group).equals(untouched[group])) {
                wrong++;
                System.out.println(what + " changed something (group " + group + ")");
            }
        }
    }

    /** A part of all that an object tells; what is asked may change the object, which is not used again. */
    private static String told(BellYards x, int group) {
        StringBuilder all = new StringBuilder();
        switch (group) {
            case 0: add(all, x.count(8)); break;
            case 1: tellCounts(x, all); break;
            case 2: tellBells(x, all); break;
            case 3: tellTones(x, all); break;
            case 4: tellWeeks(x, all); break;
            case 5: tellLetters(x, all); break;
            case 6: tellParishes(x, all); break;
            case 7: tellPeals(x, all); break;
            case 8: tellUnnamed(x, all); break;
            case 9: tellClaims(x, all); break;
            case 10: tellNeeds(x, all); break;
            default: tellSheet(x, group - 11, all); break;
        }
        return all.toString();
    }

    private static void add(StringBuilder all, long answer) {
        all.append(answer).append(' ');
    }

    private static void tellCounts(BellYards x, StringBuilder all) {
        for (int what = 0; what <= 7; what++) {
            add(all, x.count(what));
        }
        add(all, x.count(9));
        add(all, x.fault());
        add(all, x.digest());
        for (int what = 0; what <= 2; what++) {
            add(all, x.sent(what));
        }
        add(all, x.laying(0));
        add(all, x.laying(1));
        add(all, x.wipe());
    }

    private static void tellBells(BellYards x, StringBuilder all) {
        int bells = x.count(2);
        for (int b = 0; b < bells; b++) {
            for (int what = 0; what <= 8; what++) {
                add(all, x.about(b, what));
            }
        }
    }

    private static void tellTones(BellYards x, StringBuilder all) {
        int bells = x.count(2);
        int parishes = x.count(1);
        for (int b = 0; b < bells; b++) {
            for (int t = 0; t < 5; t++) {
                add(all, x.tone(b, t, NONE));
            }
        }
        for (int p = 0; p < parishes; p++) {
            add(all, x.moved(p, 0));
        }
        for (int proof = 0; proof < 5; proof++) {
            add(all, x.rank(proof, 0));
        }
        add(all, x.tune(0, 0));
        add(all, x.tune(1, 0));
    }

    private static void tellWeeks(BellYards x, StringBuilder all) {
        int bells = x.count(2);
        int now = x.count(0);
        for (int b = 0; b < bells; b++) {
            add(all, x.was(b, now));
            for (int week = 0; week <= Math.min(now, 9); week++) {
                add(all, x.was(b, week));
            }
        }
    }

    private static void tellLetters(BellYards x, StringBuilder all) {
        int bells = x.count(2);
        for (int b = 0; b < bells; b++) {
            for (int week : WEEKS) {
                add(all, x.letter(b, week));
                add(all, x.why(b, week));
            }
        }
    }

    private static void tellParishes(BellYards x, StringBuilder all) {
        int parishes = x.count(1);
        int now = x.count(0);
        for (int p = 0; p < parishes; p++) {
            add(all, x.kept(p, now));
            for (int week = 0; week <= Math.min(now, 9); week++) {
                add(all, x.kept(p, week));
            }
            for (int week : WEEKS) {
                add(all, x.gained(p, week));
            }
        }
    }

    private static void tellPeals(BellYards x, StringBuilder all) {
        int parishes = x.count(1);
        int bells = x.count(2);
        for (int p = 0; p < parishes; p++) {
            for (int what = 0; what <= 5; what++) {
                add(all, x.peal(p, what));
            }
            for (int b = 0; b < bells; b++) {
                add(all, x.step(p, b));
            }
        }
    }

    private static void tellUnnamed(BellYards x, StringBuilder all) {
        int unnamed = x.count(5);
        int batches = x.count(6);
        int bells = x.count(2);
        for (int u = 0; u < unnamed; u++) {
            add(all, x.could(u));
            add(all, x.next(u));
            add(all, x.laid(u));
        }
        for (int batch = 0; batch < batches; batch++) {
            add(all, x.sets(batch, 0));
            add(all, x.sets(batch, 1));
            for (int b = 0; b < bells; b++) {
                add(all, x.held(batch, b));
            }
        }
    }

    private static void tellClaims(BellYards x, StringBuilder all) {
        int bells = x.count(2);
        for (int b = 0; b < bells; b++) {
            for (int week : WEEKS) {
                add(all, x.whose(b, week));
                add(all, x.lands(b, week));
            }
        }
    }

    private static void tellNeeds(BellYards x, StringBuilder all) {
        int bells = x.count(2);
        for (int s = 0; s < 4; s++) {
            for (int what = 0; what <= 2; what++) {
                add(all, x.shorts(s, what));
            }
            for (int b = 0; b < bells; b++) {
                add(all, x.melts(s, b));
            }
        }
    }

    private static void tellSheet(BellYards x, int s, StringBuilder all) {
        x.sheet(s, 0, -1);
        for (int form = 0; form <= 2; form++) {
            for (int i = 0; i < 60; i++) {
                add(all, x.get(s, form, i));
                // It tells items that are the least int from those that are not there.
                if (i == 0) {
                    add(all, x.count(8));
                }
            }
        }
        add(all, x.lose(s));
    }

    // ---- objects to begin with

    protected static void type(BellYards x, String text) {
        for (int i = 0; i < text.length(); i++) {
            x.type(text.charAt(i));
        }
    }

    protected static void fill(BellYards x, int s, int form, int... items) {
        x.sheet(s, form, items.length);
        for (int i = 0; i < items.length; i++) {
            x.put(s, form, i, items[i]);
        }
    }

    protected static void toYard(BellYards x, int bell) {
        x.become(bell, 2);
        x.become(bell, 3);
    }

    /** One parish in land 0, and a bell of the year 1800 with tin 20 for each weight. */
    protected static BellYards bells(int... weights) {
        BellYards x = new BellYards();
        x.parish(0);
        for (int weight : weights) {
            x.bell(0, weight, 1800, 20);
        }
        return x;
    }

    /** Likewise, and all of them in a yard. */
    protected static BellYards yard(int... weights) {
        BellYards x = bells(weights);
        for (int b = 0; b < weights.length; b++) {
            toYard(x, b);
        }
        return x;
    }

    /** So many weights: 100, 200, 300, .. */
    protected static int[] hundreds(int number) {
        int[] weights = new int[number];
        for (int i = 0; i < number; i++) {
            weights[i] = 100 * (i + 1);
        }
        return weights;
    }

    /** Another object, gone on with. */
    protected static Make after(Make make, Call call) {
        return () -> {
            BellYards x = make.made();
            call.on(x);
            return x;
        };
    }

    /** Week 6; 3 parishes, 7 bells, one in each state but two in a yard; 2 unnamed ones; sheet 3 is LOST. */
    private static BellYards some() {
        BellYards x = new BellYards();
        x.parish(0);
        x.parish(1);
        x.parish(3);
        x.bell(0, 1200, 1850, 20);
        x.bell(0, 300, 1700, 22);
        x.bell(0, 300, 1910, 18);
        x.bell(1, 5000, 1920, 20);
        x.bell(1, 400, 1800, 0);
        x.bell(2, 700, 1939, 30);
        x.bell(2, 800, 1000, 10);
        type(x, "a=1900,1000;b=1800,300@3;k=2@1");
        x.become(1, 1);
        x.pass(2);
        for (int b = 2; b <= 6; b++) {
            x.become(b, 2);
        }
        x.pass(3);
        for (int b = 3; b <= 6; b++) {
            x.become(b, 3);
        }
        x.pass(1);
        x.become(5, 4);
        x.become(6, 5);
        for (int b = 0; b < 7; b++) {
            x.tone(b, 4, 1000 + 100 * b);
        }
        x.tone(3, 0, 500);
        x.tone(4, 0, 505);
        x.list(0, 1);
        x.list(3, 2);
        x.tune(0, 30);
        x.tune(1, 21);
        x.send(3, 0, 9);
        x.send(4, 1, 40);
        x.rank(2, 7);
        someRows(x);
        return x;
    }

    private static void someRows(BellYards x) {
        fill(x, 0, 0, 1, -2, 3, 4, 5, 6);
        fill(x, 1, 1, 0, 10, 1900, 1, 300, -5);
        fill(x, 2, 2, 503, -1, -1, -1, -1, 1000, 7, 8);
        x.find(2, 5, NONE, 0);
        x.find(2, 9, 405, 9);
        x.batch(5400, 0, 0, 100, 31);
        x.claim(0, 3, 2, 1);
        x.claim(1, 3, 1, 5);
        x.claim(2, 4, 1, 9);
        x.copy(0, 0, 1, 0, 1);
    }

    /** All places are taken: parishes, bells, changes of bell 0, bytes, unnamed ones, batches, claims. */
    private static BellYards all() {
        BellYards x = new BellYards();
        for (int p = 0; p < 8; p++) {
            x.parish(p % 4);
        }
        for (int b = 0; b < 20; b++) {
            x.bell(b % 8, 100 * (b + 1), 1800 + b, b);
        }
        type(x, LONG_LAWS);
        for (int k = 0; k < 16; k++) {
            x.become(0, k % 2 == 0 ? 1 : 0);
        }
        x.pass(7);
        for (int b = 13; b < 19; b++) {
            toYard(x, b);
            x.tone(b, 0, 20 * (b - 13));
            x.tone(b, 4, 1000 + 100 * b);
        }
        x.tone(8, 4, 5000);
        for (int s = 0; s < 3; s++) {
            x.sheet(s, s, 60);
            x.put(s, s, 59, 100 + s);
        }
        x.put(2, 2, 4, NONE);
        for (int u = 0; u < 8; u++) {
            x.find(2, 99, NONE, 0);
        }
        for (int batch = 0; batch < 6; batch++) {
            x.batch(1000 * batch, 50, 0, 100, 4095 << batch);
        }
        for (int c = 0; c < 30; c++) {
            x.claim(c % 8, c % 20, c % 5, c);
        }
        x.copy(0, 0, 1, 0, 1);
        return x;
    }
}
