/** Edges of 'Terms' 1 and of promises 1 to 10: a new object, weeks, parishes, bells and their states. */
public final class BellYardsEdgesBells extends Edge {
    private static final int HANGS = 0, HIDDEN = 1, TAKEN = 2, IN_YARD = 3, MELTED = 4, SENT_HOME = 5;

    public static void main(String[] args) {
        constants();
        newObject();
        newObjectRefuses();
        newObjectLostSheets();
        newObjectTerms();
        passOneToHundred();
        passNotAbove199();
        parishLands();
        parishEightAtMost();
        movedLimits();
        movedToTheSame();
        bellLimits();
        bellTwentyAtMost();
        readLimits();
        readWholeOnes();
        readAsLongAsEachMayBe();
        readUpToFull();
        readForms();
        toneLimits();
        toneValues();
        aboutLimits();
        aboutValues();
        becomeLimits();
        becomeEachPair();
        becomeSixteenChanges();
        becomeOrder();
        wasLimits();
        wasLatestChange();
        questionsChangeNothing();
        end();
    }

    private static void constants() {
        due("NONE", BellYards.NONE, -1);
        due("BAD", BellYards.BAD, -2);
        due("NOT", BellYards.NOT, -3);
        due("FULL", BellYards.FULL, -4);
    }

    // ---- promise 1: "No PARISHES, no BELLS; all SHEETS are LOST."

    private static void newObject() {
        for (int what = 0; what <= 9; what++) {
            due("1: count(" + what + ")", NEW.made().count(what), 0);
        }
        due("1: fault()", NEW.made().fault(), NONE);
        due("1: wipe()", NEW.made().wipe(), 0);
        due("1: forget()", NEW.made().forget(), 0);
        due("1: laying(0)", NEW.made().laying(0), 0);
        due("1: laying(1)", NEW.made().laying(1), 0);
        for (int what = 0; what <= 2; what++) {
            due("1: sent(" + what + ")", NEW.made().sent(what), 0);
        }
    }

    private static void newObjectRefuses() {
        refused("1: moved", NEW, x -> x.moved(0, 1), BAD);
        refused("1: bell", NEW, x -> x.bell(0, 1, 1000, 0), BAD);
        refused("1: tone", NEW, x -> x.tone(0, 0, 0), -1000);
        refused("1: about", NEW, x -> x.about(0, 0), -1000);
        refused("1: become", NEW, x -> x.become(0, 1), BAD);
        refused("1: was", NEW, x -> x.was(0, 0), BAD);
        refused("1: letter", NEW, x -> x.letter(0, 0), BAD);
        refused("1: why", NEW, x -> x.why(0, 0), BAD);
        refused("1: kept", NEW, x -> x.kept(0, 0), BAD);
        refused("1: list", NEW, x -> x.list(0, 0), -1000);
        refused("1: gained", NEW, x -> x.gained(0, 0), LEAST);
        refused("1: could", NEW, x -> x.could(0), BAD);
        refused("1: next", NEW, x -> x.next(0), BAD);
        refused("1: laid", NEW, x -> x.laid(0), BAD);
        refused("1: peal", NEW, x -> x.peal(0, 0), -1000);
        refused("1: step", NEW, x -> x.step(0, 0), BAD);
        refused("1: batch", NEW, x -> x.batch(0, 0, 0, 0, 1), BAD);
        refused("1: sets", NEW, x -> x.sets(0, 0), BAD);
        refused("1: held", NEW, x -> x.held(0, 0), BAD);
        refused("1: melts, BAD before NULL", NEW, x -> x.melts(0, 0), BAD);
        refused("1: send", NEW, x -> x.send(0, 0, 1), BAD);
        refused("1: claim", NEW, x -> x.claim(0, 0, 0, 0), BAD);
        refused("1: whose", NEW, x -> x.whose(0, 0), BAD);
        refused("1: lands", NEW, x -> x.lands(0, 0), BAD);
    }

    private static void newObjectLostSheets() {
        for (int sheet = 0; sheet <= 3; sheet++) {
            int s = sheet;
            int other = 3 - s;
            found("1: read", NEW, x -> x.read(s), NULL);
            found("1: find", NEW, x -> x.find(s, 0, 1, 0), NULL);
            found("1: shorts", NEW, x -> x.shorts(s, 0), NULL);
            found("1: lose", NEW, x -> x.lose(s), NULL);
            found("1: put", NEW, x -> x.put(s, 0, 0, 0), NULL);
            found("1: get", NEW, x -> x.get(s, 0, 0), NULL, LEAST);
            found("1: copy", NEW, x -> x.copy(s, 0, other, 0, 0), NULL);
            found("1: copy to itself", NEW, x -> x.copy(s, 0, s, 0, 0), NULL);
            found("1: write", NEW, x -> x.write(s, 0), NULL);
        }
    }

    /** What 'Terms' say of how things are at first. */
    private static void newObjectTerms() {
        due("4: t is 20 at first", NEW.made().tune(0, 0), 20);
        due("4: SCALE is 2741 at first", NEW.made().tune(1, 0), 2741);
        for (int proof = 0; proof <= 4; proof++) {
            due("6: RANK is its own number at first", NEW.made().rank(proof, 9), proof);
        }
        BellYards x = bells(7);
        due("1: it HANGS at first", x.about(0, 4), HANGS);
        due("2: LISTED is NONE at first", x.about(0, 5), NONE);
        due("1: no changes at first", x.about(0, 6), 0);
        due("6: DAYS are 5 at first", x.about(0, 7), 5);
        due("6: DUE is 999 at first", x.about(0, 8), 999);
        for (int t = 0; t <= 4; t++) {
            due("1: TONE " + t + " is not known at first", x.tone(0, t, 1), NONE);
        }
    }

    // ---- promise 2: "n WEEKS (1 to 100) go by: the WEEK then. BAD: also above 199."

    private static void passOneToHundred() {
        limits("2: n", NEW, (x, v) -> x.pass(v), BAD, 1, 100);
        beyond("2: n", SOME, (x, v) -> x.pass(v), BAD, 1, 100);
        due("2: one week", SOME.made().pass(1), 7);
        due("2: a hundred weeks", SOME.made().pass(100), 106);
        BellYards x = NEW.made();
        x.pass(3);
        due("2: weeks go on", x.pass(4), 7);
        due("2: the week is told", x.count(0), 7);
    }

    private static Make week(int week) {
        return () -> {
            BellYards x = bells(10, 20);
            for (int gone = 0; gone < week; gone += 50) {
                x.pass(Math.min(50, week - gone));
            }
            return x;
        };
    }

    private static void passNotAbove199() {
        due("2: from 99 by 100", week(99).made().pass(100), 199);
        due("2: from 198 by 1", week(198).made().pass(1), 199);
        due("2: from 150 by 49", week(150).made().pass(49), 199);
        refused("2: from 199 by 1", week(199), x -> x.pass(1), BAD);
        refused("2: from 199 by 100", week(199), x -> x.pass(100), BAD);
        refused("2: from 100 by 100", week(100), x -> x.pass(100), BAD);
        refused("2: from 150 by 50", week(150), x -> x.pass(50), BAD);
        refused("2: from 199 by the greatest int", week(199), x -> x.pass(GREATEST), BAD);
        refused("2: from 199 by 0", week(199), x -> x.pass(0), BAD);
        refused("2: from 199 by -1", week(199), x -> x.pass(-1), BAD);
        due("2: still 199", after(week(199), x -> x.pass(1)).made().count(0), 199);
    }

    // ---- promise 3: "A PARISH more: its number. BAD; FULL."

    private static void parishLands() {
        limits("3: land", NEW, (x, v) -> x.parish(v), BAD, 0, 3);
        beyond("3: land", SOME, (x, v) -> x.parish(v), BAD, 0, 3);
        for (int land = 0; land <= 3; land++) {
            BellYards x = NEW.made();
            due("3: the first", x.parish(land), 0);
            due("3: is in its land", x.moved(0, (land + 1) % 4), land);
        }
    }

    private static void parishEightAtMost() {
        BellYards x = NEW.made();
        for (int p = 0; p < 8; p++) {
            due("3: its number", x.parish(3), p);
            due("3: PARISHES", x.count(1), p + 1);
        }
        for (int land = 0; land <= 3; land++) {
            int to = land;
            refused("3: a ninth", ALL, y -> y.parish(to), FULL);
        }
        beyond("3: BAD before FULL, land", ALL, (y, v) -> y.parish(v), BAD, 0, 3);
    }

    // ---- promise 4: "A PARISH is in another LAND: the one it was in. BAD: also the same."

    private static void movedLimits() {
        limits("4: parish", SOME, (x, v) -> x.moved(v, 2), BAD, 0, 2);
        limits("4: parish of eight", ALL, (x, v) -> x.moved(v, (v + 1 & GREATEST) % 4), BAD, 0, 7);
        beyond("4: land", SOME, (x, v) -> x.moved(0, v), BAD, 0, 3);
        due("4: to the least", SOME.made().moved(1, 0), 1);
        due("4: to the greatest", SOME.made().moved(1, 3), 1);
        due("4: from the greatest", SOME.made().moved(2, 0), 3);
    }

    private static void movedToTheSame() {
        for (int land = 0; land <= 3; land++) {
            int same = land;
            refused("4: the same, " + land, ALL, x -> x.moved(same, same), BAD);
            for (int other = 0; other <= 3; other++) {
                if (other != land) {
                    BellYards x = ALL.made();
                    due("4: from " + land + " to " + other, x.moved(land, other), land);
                    due("4: it is there", x.moved(land, other), BAD);
                    due("4: and back", x.moved(land, land), other);
                }
            }
        }
    }

    // ---- promise 5: "A BELL more: its number. BAD; FULL."

    private static void bellLimits() {
        limits("5: parish", SOME, (x, v) -> x.bell(v, 100, 1800, 20), BAD, 0, 2);
        limits("5: weight", SOME, (x, v) -> x.bell(0, v, 1800, 20), BAD, 1, 9999);
        limits("5: year", SOME, (x, v) -> x.bell(0, 100, v, 20), BAD, 1000, 1939);
        limits("5: tin", SOME, (x, v) -> x.bell(0, 100, 1800, v), BAD, 0, 30);
        BellYards x = SOME.made();
        due("5: the least of all", x.bell(0, 1, 1000, 0), 7);
        due("5: the greatest of all", x.bell(2, 9999, 1939, 30), 8);
        long[] least = {0, 1, 1000, 0};
        long[] greatest = {2, 9999, 1939, 30};
        for (int what = 0; what <= 3; what++) {
            due("5: least, about " + what, x.about(7, what), least[what]);
            due("5: greatest, about " + what, x.about(8, what), greatest[what]);
        }
    }

    private static void bellTwentyAtMost() {
        BellYards x = bells();
        for (int b = 0; b < 20; b++) {
            due("5: its number", x.bell(0, 5, 1500, 5), b);
            due("5: BELLS", x.count(2), b + 1);
        }
        refused("5: a twenty-first", ALL, y -> y.bell(7, 9999, 1939, 30), FULL);
        beyond("5: BAD before FULL, parish", ALL, (y, v) -> y.bell(v, 100, 1800, 20), BAD, 0, 7);
        beyond("5: BAD before FULL, weight", ALL, (y, v) -> y.bell(0, v, 1800, 20), BAD, 1, 9999);
        beyond("5: BAD before FULL, year", ALL, (y, v) -> y.bell(0, 100, v, 20), BAD, 1000, 1939);
        beyond("5: BAD before FULL, tin", ALL, (y, v) -> y.bell(0, 100, 1800, v), BAD, 0, 30);
    }

    // ---- promise 6: "BELLS of a SHEET: its items, four for each (as bell()), as many as are whole,
    //                  as long as each may be: how many. BAD; NULL."

    private static BellYards reader(int form, int... items) {
        BellYards x = bells();
        fill(x, 0, form, items);
        return x;
    }

    private static void readLimits() {
        limits("6: sheet", SOME, (x, v) -> x.read(v), BAD, 0, 3);
        found("6: LOST", SOME, x -> x.read(3), NULL);
        found("6: LOST where BELLS are full", ALL, x -> x.read(3), NULL);
        found("6: LOST again", after(SOME, x -> x.lose(2)), x -> x.read(2), NULL);
    }

    private static void readWholeOnes() {
        int[] good = {0, 10, 1500, 1, 0, 20, 1600, 2, 0, 30, 1700, 3};
        for (int n = 0; n <= good.length; n++) {
            BellYards x = reader(2, java.util.Arrays.copyOf(good, n));
            due("6: of " + n + " items", x.read(0), n / 4);
            due("6: BELLS of " + n + " items", x.count(2), n / 4);
            for (int b = 0; b < n / 4; b++) {
                for (int what = 0; what <= 3; what++) {
                    due("6: bell " + b + " about " + what, x.about(b, what), good[4 * b + what]);
                }
            }
            for (int i = 0; i < n; i++) {
                due("6: the sheet is as it was", x.get(0, 2, i), good[i]);
            }
            due("6: and again", x.read(0), n / 4);
            due("6: no finding", x.count(8), 0);
        }
        int[] most = new int[60];
        for (int i = 0; i < 60; i++) {
            most[i] = good[i % 4];
        }
        due("6: of 60 items", reader(2, most).read(0), 15);
    }

    private static void readAsLongAsEachMayBe() {
        int[][] wrong = {{-1, 1, 2, LEAST, GREATEST}, {0, -1, 10000, LEAST, GREATEST},
            {999, 1940, -1, LEAST, GREATEST}, {-1, 31, LEAST, GREATEST}};
        for (int field = 0; field < 4; field++) {
            for (int value : wrong[field]) {
                for (int at = 0; at < 3; at++) {
                    int[] items = {0, 1, 1000, 0, 0, 9999, 1939, 30, 0, 5, 1500, 5};
                    items[4 * at + field] = value;
                    BellYards x = reader(2, items);
                    due("6: " + value + " as field " + field + " of bell " + at, x.read(0), at);
                    due("6: none behind it", x.count(2), at);
                    due("6: no finding", x.count(8), 0);
                }
            }
        }
        due("6: the least and the greatest", reader(2, 0, 1, 1000, 0, 0, 9999, 1939, 30).read(0), 2);
        BellYards none = NEW.made();
        fill(none, 0, 2, 0, 1, 1000, 0);
        due("6: without a parish", none.read(0), 0);
    }

    private static void readUpToFull() {
        BellYards x = bells(hundreds(19));
        fill(x, 0, 2, 0, 7, 1500, 1, 0, 8, 1600, 2);
        due("6: one place left", x.read(0), 1);
        due("6: it is the first one", x.about(19, 1), 7);
        due("6: BELLS", x.count(2), 20);
        Make full = () -> {
            BellYards y = bells(hundreds(20));
            fill(y, 0, 2, 0, 7, 1500, 1);
            return y;
        };
        refused("6: no place left", full, y -> y.read(0), 0);
        BellYards one = bells(hundreds(18));
        fill(one, 0, 2, 0, 7, 1500, 1, 0, 8, 1600, 2);
        due("6: two places left", one.read(0), 2);
    }

    private static void readForms() {
        due("6: of shorts", reader(1, 0, 9999, 1939, 30).read(0), 1);
        due("6: a year is not in a byte", reader(0, 0, 100, 1500, 5).read(0), 0);
        due("6: a short below 0", reader(1, 0, 40000, 1500, 5).read(0), 0);
        due("6: a byte of -1 as a parish", reader(0, 255, 1, 1, 1).read(0), 0);
    }

    // ---- promise 7: "A TONE of a BELL (NONE: not known): what it was. BAD: -1000."

    private static void toneLimits() {
        limits("7: bell", SOME, (x, v) -> x.tone(v, 1, 5), -1000, 0, 6);
        limits("7: bell of twenty", ALL, (x, v) -> x.tone(v, 1, 5), -1000, 0, 19);
        limits("7: tone", SOME, (x, v) -> x.tone(3, v, 5), -1000, 0, 4);
        limits("7: value", SOME, (x, v) -> x.tone(3, 0, v), -1000, -1, 9999);
        limits("7: value of the nominal", SOME, (x, v) -> x.tone(3, 4, v), -1000, -1, 9999);
        refused("7: all wrong", SOME, x -> x.tone(-1, -1, -2), -1000);
    }

    private static void toneValues() {
        for (int t = 0; t <= 4; t++) {
            BellYards x = bells(10, 20);
            due("7: not known", x.tone(1, t, 9999), NONE);
            due("7: the greatest", x.tone(1, t, 0), 9999);
            due("7: the least", x.tone(1, t, NONE), 0);
            due("7: not known any more", x.tone(1, t, NONE), NONE);
            due("7: still not known", x.tone(1, t, 7), NONE);
            for (int other = 0; other <= 4; other++) {
                due("7: the other bell's are as they were", x.tone(0, other, NONE), NONE);
                due("7: the other tones are as they were", x.tone(1, other, NONE), other == t ? 7 : NONE);
            }
        }
    }

    // ---- promise 8: "0 PARISH, 1 WEIGHT, .. 8 DUE. BAD: -1000."

    private static void aboutLimits() {
        limits("8: bell", SOME, (x, v) -> x.about(v, 1), -1000, 0, 6);
        limits("8: bell of twenty", ALL, (x, v) -> x.about(v, 1), -1000, 0, 19);
        limits("8: what", SOME, (x, v) -> x.about(3, v), -1000, 0, 8);
        refused("8: both wrong", SOME, x -> x.about(7, 9), -1000);
    }

    private static void aboutValues() {
        long[][] want = {{0, 1200, 1850, 20, HANGS, 1, 0, 5, 999}, {0, 300, 1700, 22, HIDDEN, NONE, 1, 5, 999},
            {0, 300, 1910, 18, TAKEN, NONE, 1, 5, 999}, {1, 5000, 1920, 20, IN_YARD, 2, 2, 9, 999},
            {1, 400, 1800, 0, IN_YARD, NONE, 2, 5, 40}, {2, 700, 1939, 30, MELTED, NONE, 3, 5, 999},
            {2, 800, 1000, 10, SENT_HOME, NONE, 3, 5, 999}};
        for (int b = 0; b < want.length; b++) {
            for (int what = 0; what <= 8; what++) {
                due("8: about(" + b + ", " + what + ")", SOME.made().about(b, what), want[b][what]);
            }
        }
        due("8: sixteen changes", ALL.made().about(0, 6), 16);
    }

    // ---- promise 9: "A BELL's STATE becomes another: what it was. BAD; NOT: it may not; FULL: 16 changes."

    /** Two bells, of which the first has come to a state. */
    private static Make inState(int state) {
        int[][] ways = {{}, {HIDDEN}, {TAKEN}, {TAKEN, IN_YARD}, {TAKEN, IN_YARD, MELTED}, {TAKEN, IN_YARD, SENT_HOME}};
        return () -> {
            BellYards x = bells(10, 20);
            for (int next : ways[state]) {
                x.become(0, next);
            }
            return x;
        };
    }

    private static void becomeLimits() {
        limits("9: bell", ALL, (x, v) -> x.become(v, TAKEN), BAD, 0, 19);
        limits("9: bell of seven", SOME, (x, v) -> x.become(v, TAKEN), BAD, 0, 6);
        for (int state = 0; state <= 5; state++) {
            beyond("9: state, from " + state, inState(state), (x, v) -> x.become(0, v), BAD, 0, 5);
        }
        due("9: to the least state", inState(HIDDEN).made().become(0, 0), HIDDEN);
        due("9: to the greatest state", inState(IN_YARD).made().become(0, 5), IN_YARD);
    }

    private static void becomeEachPair() {
        boolean[][] may = new boolean[6][6];
        may[HANGS][HIDDEN] = true;
        may[HANGS][TAKEN] = true;
        may[SENT_HOME][HIDDEN] = true;
        may[SENT_HOME][TAKEN] = true;
        may[HIDDEN][HANGS] = true;
        may[HIDDEN][TAKEN] = true;
        may[TAKEN][IN_YARD] = true;
        may[IN_YARD][MELTED] = true;
        may[IN_YARD][SENT_HOME] = true;
        for (int from = 0; from <= 5; from++) {
            for (int to = 0; to <= 5; to++) {
                int state = to;
                String what = "9: from " + from + " to " + to;
                if (may[from][to]) {
                    BellYards x = inState(from).made();
                    int changes = x.about(0, 6);
                    due(what, x.become(0, to), from);
                    due(what + ": it is", x.about(0, 4), to);
                    due(what + ": changes", x.about(0, 6), changes + 1);
                    due(what + ": the other one", x.about(1, 4), HANGS);
                } else {
                    refused(what, inState(from), x -> x.become(0, state), NOT);
                }
            }
        }
    }

    /** Two bells; the first was hidden and hung again in turn, so many changes together. */
    private static Make changed(int changes) {
        return () -> {
            BellYards x = bells(10, 20);
            for (int k = 0; k < changes; k++) {
                x.become(0, k % 2 == 0 ? HIDDEN : HANGS);
            }
            return x;
        };
    }

    private static void becomeSixteenChanges() {
        BellYards x = changed(15).made();
        due("9: the sixteenth change", x.become(0, HANGS), HIDDEN);
        due("9: sixteen", x.about(0, 6), 16);
        refused("9: a seventeenth to HIDDEN", changed(16), y -> y.become(0, HIDDEN), FULL);
        refused("9: a seventeenth to TAKEN", changed(16), y -> y.become(0, TAKEN), FULL);
        refused("9: a seventeenth in a later WEEK", after(changed(16), y -> y.pass(3)), y -> y.become(0, TAKEN), FULL);
        due("9: sixteen of this BELL alone", changed(16).made().become(1, HIDDEN), HANGS);
        Make hidden = after(changed(15), y -> y.become(0, TAKEN));
        due("9: the sixteenth to TAKEN", hidden.made().about(0, 4), TAKEN);
        refused("9: a seventeenth to a yard", hidden, y -> y.become(0, IN_YARD), FULL);
    }

    private static void becomeOrder() {
        refused("9: BAD before NOT, bell", SOME, x -> x.become(7, IN_YARD), BAD);
        refused("9: BAD before FULL, state", changed(16), x -> x.become(0, 6), BAD);
        refused("9: BAD before FULL, least", changed(16), x -> x.become(0, LEAST), BAD);
        refused("9: NOT before FULL, a yard", changed(16), x -> x.become(0, IN_YARD), NOT);
        refused("9: NOT before FULL, the same", changed(16), x -> x.become(0, HANGS), NOT);
        refused("9: NOT before FULL, melted", changed(16), x -> x.become(0, MELTED), NOT);
        refused("9: NOT before FULL, sent home", changed(16), x -> x.become(0, SENT_HOME), NOT);
    }

    // ---- promise 10: "What a BELL was in a WEEK (up to the one that it is). BAD."

    private static void wasLimits() {
        limits("10: bell", SOME, (x, v) -> x.was(v, 0), BAD, 0, 6);
        limits("10: bell of twenty", ALL, (x, v) -> x.was(v, 0), BAD, 0, 19);
        limits("10: week", SOME, (x, v) -> x.was(3, v), BAD, 0, 6);
        limits("10: week 0 alone", bellsNow(), (x, v) -> x.was(0, v), BAD, 0, 0);
        limits("10: all weeks", week(199), (x, v) -> x.was(0, v), BAD, 0, 199);
        refused("10: the next week", SOME, x -> x.was(3, 7), BAD);
        refused("10: week 199 in week 198", week(198), x -> x.was(0, 199), BAD);
    }

    private static Make bellsNow() {
        return () -> bells(10);
    }

    private static void wasLatestChange() {
        int[] three = {HANGS, HANGS, TAKEN, TAKEN, TAKEN, IN_YARD, IN_YARD};
        int[] home = {HANGS, HANGS, TAKEN, TAKEN, TAKEN, IN_YARD, SENT_HOME};
        for (int week = 0; week <= 6; week++) {
            due("10: without a change", SOME.made().was(0, week), HANGS);
            due("10: hidden from week 0 on", SOME.made().was(1, week), HIDDEN);
            due("10: taken, in a yard", SOME.made().was(3, week), three[week]);
            due("10: sent home", SOME.made().was(6, week), home[week]);
        }
        BellYards x = bells(10);
        x.pass(100);
        x.pass(99);
        for (int k = 0; k < 16; k++) {
            due("10: of like ones the later", x.was(0, 199), k % 2 == 0 ? HANGS : HIDDEN);
            x.become(0, k % 2 == 0 ? HIDDEN : HANGS);
        }
        due("10: before all of them", x.was(0, 198), HANGS);
        BellYards y = bells(10);
        y.become(0, TAKEN);
        y.become(0, IN_YARD);
        y.pass(1);
        y.become(0, MELTED);
        due("10: the later of week 0", y.was(0, 0), IN_YARD);
        due("10: and of week 1", y.was(0, 1), MELTED);
    }

    private static void questionsChangeNothing() {
        for (Make make : new Make[] {SOME, ALL}) {
            asks("8: about", make, x -> x.about(3, 4));
            asks("10: was", make, x -> x.was(3, 2));
        }
    }
}
