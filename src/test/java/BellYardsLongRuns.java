import com.sun.management.ThreadMXBean;
import java.lang.management.ManagementFactory;

/**
 * What the document says of objects as a whole: each can be used for 512 calls, whatever these are,
 * and tells of its own state alone; and, of the way it is written, that calls make next to nothing.
 */
public final class BellYardsLongRuns extends Edge {
    private static final int MOST_CALLS = 512;
    /** So many calls make the object that SOME begins with. */
    private static final int CALLS_OF_SOME = 101;

    /** One call of each kind that changes nothing. */
    private static final Call[] QUESTIONS = {
        x -> x.about(3, 4), x -> x.was(3, 2), x -> x.fault(), x -> x.letter(3, 6), x -> x.letter(3, 0),
        x -> x.why(4, 3), x -> x.why(4, 2), x -> x.kept(0, 6), x -> x.kept(0, 0), x -> x.gained(0, 6),
        x -> x.gained(1, 0), x -> x.could(1), x -> x.next(0), x -> x.laying(0), x -> x.laying(1), x -> x.laid(0),
        x -> x.laid(1), x -> x.peal(0, 3), x -> x.peal(1, 3), x -> x.peal(0, 5), x -> x.step(0, 3), x -> x.step(2, 3),
        x -> x.sets(0, 0), x -> x.sets(0, 1), x -> x.held(0, 3), x -> x.melts(2, 3), x -> x.melts(1, 3),
        x -> x.shorts(2, 0), x -> x.shorts(1, 0), x -> x.sent(0), x -> x.sent(2), x -> x.whose(3, 5),
        x -> x.lands(3, 5), x -> x.get(1, 1, 2), x -> x.count(3), x -> x.count(8), x -> x.digest()};

    public static void main(String[] args) {
        eachQuestionToTheLastCall();
        allQuestionsInTurn();
        changesToTheLastCall();
        placesAreFreeAgain();
        objectsInTurn();
        newObjectBesideOthers();
        room();
        end();
    }

    // ---- "An object is used for at most 512 calls after it has been made"

    private static void eachQuestionToTheLastCall() {
        for (int q = 0; q < QUESTIONS.length; q++) {
            long first = QUESTIONS[q].on(SOME.made());
            BellYards x = SOME.made();
            for (int call = CALLS_OF_SOME + 1; call <= MOST_CALLS; call++) {
                due("question " + q + " as call " + call, QUESTIONS[q].on(x), first);
            }
        }
    }

    /** Rows that questions use in common must not let one answer by what another left there. */
    private static void allQuestionsInTurn() {
        for (Make make : new Make[] {SOME, ALL}) {
            long[] alone = answersAlone(make);
            BellYards x = make.made();
            for (int q = 0; q < QUESTIONS.length; q++) {
                due("question " + q + " behind those before it", QUESTIONS[q].on(x), alone[q]);
            }
            for (int q = QUESTIONS.length - 1; q >= 0; q--) {
                due("question " + q + " behind those after it", QUESTIONS[q].on(x), alone[q]);
            }
        }
    }

    private static long[] answersAlone(Make make) {
        long[] alone = new long[QUESTIONS.length];
        for (int q = 0; q < QUESTIONS.length; q++) {
            alone[q] = QUESTIONS[q].on(make.made());
        }
        return alone;
    }

    private static void changesToTheLastCall() {
        BellYards x = yard(100, 200);
        for (int v = 8; v <= MOST_CALLS; v++) {
            due("7: tone as call " + v, x.tone(1, 4, v), v == 8 ? NONE : v - 1);
        }
        BellYards y = bells(100);
        for (int v = 3; v <= MOST_CALLS; v++) {
            due("4: moved as call " + v, y.moved(0, v % 2 == 0 ? 0 : 3), v % 2 == 0 ? 3 : 0);
        }
        BellYards z = bells(100);
        for (int v = 3; v <= MOST_CALLS; v++) {
            due("33: DUE as call " + v, z.send(0, 1, v), v == 3 ? 999 : v - 1);
        }
        BellYards s = NEW.made();
        for (int call = 1; call <= MOST_CALLS; call += 2) {
            due("39: sheet as call " + call, s.sheet(0, call % 3, 60), 60);
            due("41: put as call " + (call + 1), s.put(0, call % 3, 59, 7), 1);
        }
        BellYards refusing = NEW.made();
        for (int call = 1; call <= MOST_CALLS; call++) {
            due("40: LOST as call " + call, refusing.lose(call % 4), -11);
        }
    }

    /** What is emptied has all its places again, however often. */
    private static void placesAreFreeAgain() {
        BellYards x = NEW.made();
        x.sheet(0, 0, 5);
        for (int turn = 0; turn < 56; turn++) {
            for (int u = 0; u < 8; u++) {
                due("19: its number in turn " + turn, x.find(0, 0, 1, 0), u);
            }
            due("20: forgotten in turn " + turn, x.forget(), 8);
        }
        BellYards laws = NEW.made();
        for (int turn = 0; turn < 5; turn++) {
            type(laws, LONG_LAWS);
            due("13: well in turn " + turn, laws.fault(), NONE);
            due("12: emptied in turn " + turn, laws.wipe(), 100);
        }
    }

    // ---- promise 1: each object begins, and goes on, without what others have

    private static void objectsInTurn() {
        long[] some = answersAlone(SOME);
        long[] all = answersAlone(ALL);
        BellYards x = SOME.made();
        BellYards y = ALL.made();
        for (int q = 0; q < QUESTIONS.length; q++) {
            due("question " + q + " to one", QUESTIONS[q].on(x), some[q]);
            due("question " + q + " to the other", QUESTIONS[q].on(y), all[q]);
        }
        long before = x.digest();
        y.forget();
        y.wipe();
        y.tune(0, 1);
        y.tune(1, 1);
        y.rank(0, 9);
        y.rank(1, 9);
        y.sheet(1, 0, 0);
        y.pass(1);
        y.become(3, 1);
        due("46: what the other became is no matter", x.digest(), before);
        due("37: nor are its RANKS", x.whose(3, 5), SOME.made().whose(3, 5));
        due("42: nor are its SHEETS", x.get(1, 1, 2), 1900);
    }

    private static void newObjectBesideOthers() {
        long untouched = NEW.made().digest();
        BellYards other = ALL.made();
        BellYards x = NEW.made();
        due("1: made behind another", x.digest(), untouched);
        other.tune(0, 0);
        other.rank(4, 0);
        due("25: t at first", x.tune(0, 5), 20);
        due("36: RANK at first", x.rank(4, 5), 4);
        due("1: its SHEETS are LOST", x.lose(0), -11);
    }

    // ---- what calls make: all of a run lies in one room

    /** Far below the room of a run, far above what a method that makes nothing is measured by. */
    private static final long MOST_BYTES_OF_QUESTIONS = 4096;
    private static final long MOST_BYTES_OF_A_NEW_ONE = 16384;
    private static final long MOST_BYTES_OF_A_FIND = 256;
    private static final ThreadMXBean THREADS = (ThreadMXBean) ManagementFactory.getThreadMXBean();

    private static long made() {
        return THREADS.getThreadAllocatedBytes(Thread.currentThread().getId());
    }

    private static void most(String what, long made, long limit) {
        due(what + " makes " + made + " bytes, " + limit + " at most: too many by", Math.max(0, made - limit), 0);
    }

    private static void room() {
        if (!THREADS.isThreadAllocatedMemorySupported()) {
            return;
        }
        // Each is asked twice: the machine itself makes something when code is used for the first time.
        for (int q = 0; q < QUESTIONS.length; q++) {
            manyBytes(q);
            most("question " + q + ", 200 times,", manyBytes(q), MOST_BYTES_OF_QUESTIONS);
        }
        newBytes();
        most("a new object", newBytes(), MOST_BYTES_OF_A_NEW_ONE);
        findBytes();
        most("find(), 400 times,", findBytes(), 400 * MOST_BYTES_OF_A_FIND);
    }

    private static long manyBytes(int q) {
        BellYards x = ALL.made();
        long before = made();
        for (int call = 0; call < 200; call++) {
            QUESTIONS[q].on(x);
        }
        return made() - before;
    }

    private static long newBytes() {
        long before = made();
        BellYards x = new BellYards();
        long bytes = made() - before;
        due("1: no bells", x.count(2), 0);
        return bytes;
    }

    private static long findBytes() {
        BellYards x = NEW.made();
        x.sheet(0, 0, 5);
        long before = made();
        for (int call = 0; call < 400; call++) {
            if (x.find(0, 0, 1, 0) == 7) {
                x.forget();
            }
        }
        return made() - before;
    }
}
