/** Edges of 'Terms' 3 and 4 and of promises 19 to 27: unnamed ones, the laying, peals. */
public final class BellYardsEdgesUnnamed extends Edge {
    private static final int[][] WAYS = {{}, {1}, {2}, {2, 3}, {2, 3, 4}, {2, 3, 5}};

    public static void main(String[] args) {
        findLimits();
        findLost();
        findFewerItems();
        findEightAtMost();
        findOrder();
        findTones();
        findTakesTheItemsThen();
        forgetting();
        couldLimits();
        couldTones();
        couldWeight();
        couldStates();
        couldBits();
        nextLimits();
        nextFewerThanTwo();
        nextHasAll();
        nextParts();
        nextNotKnown();
        layingLimits();
        layingNone();
        layingMost();
        layingDifferences();
        layingLeastBells();
        layingAllPlaces();
        tuneLimits();
        tuneTells();
        pealLimits();
        pealNone();
        pealWhoRings();
        pealGround();
        pealScale();
        pealWhole();
        pealFill();
        pealFillWhich();
        pealOfOneParish();
        stepLimits();
        stepWithin();
        stepModulo();
        stepNone();
        questionsChangeNothing();
        end();
    }

    // ---- promise 19: "An UNNAMED one more: TONES are the first five items of a SHEET (those that are not
    //                   0 to 9999: NONE): its number. BAD; NULL; INDEX: fewer items; FULL."

    private static void findLimits() {
        limits("19: sheet", SOME, (x, v) -> x.find(v, 5, 100, 5), BAD, 0, 3);
        limits("19: e", SOME, (x, v) -> x.find(2, v, 100, 5), BAD, 0, 99);
        limits("19: weight", SOME, (x, v) -> v == NONE ? BAD : x.find(2, 5, v, 5), BAD, 1, 9999);
        due("19: weight NONE", SOME.made().find(2, 5, NONE, 5), 2);
        refused("19: weight 0", SOME, x -> x.find(2, 5, 0, 5), BAD);
        limits("19: w", SOME, (x, v) -> x.find(2, 5, 100, v), BAD, 0, 999);
        limits("19: w where it was not weighed", SOME, (x, v) -> x.find(2, 5, NONE, v), BAD, 0, 999);
        due("19: the least of all", SOME.made().find(0, 0, 1, 0), 2);
        due("19: the greatest of all", SOME.made().find(2, 99, 9999, 999), 2);
    }

    private static void findLost() {
        found("19: LOST", SOME, x -> x.find(3, 5, 100, 5), NULL);
        found("19: LOST again", after(SOME, x -> x.lose(2)), x -> x.find(2, 5, 100, 5), NULL);
    }

    private static Make withItems(int form, int items) {
        return () -> {
            BellYards x = yard(100, 200);
            x.sheet(1, form, items);
            return x;
        };
    }

    private static void findFewerItems() {
        for (int form = 0; form <= 2; form++) {
            for (int items = 0; items <= 4; items++) {
                found("19: of " + items + " items", withItems(form, items), x -> x.find(1, 5, 100, 5), INDEX);
            }
            for (int items : new int[] {5, 6, 60}) {
                due("19: of " + items + " items", withItems(form, items).made().find(1, 5, 100, 5), 0);
            }
        }
    }

    private static void findEightAtMost() {
        BellYards x = withItems(2, 5).made();
        for (int u = 0; u < 8; u++) {
            due("19: its number", x.find(1, 5, 100, 5), u);
            due("19: UNNAMED ones", x.count(5), u + 1);
        }
        refused("19: a ninth", ALL, y -> y.find(2, 0, NONE, 0), FULL);
        refused("19: a ninth of bytes", ALL, y -> y.find(0, 99, 9999, 999), FULL);
        due("19: room again", after(ALL, y -> y.forget()).made().find(2, 0, NONE, 0), 0);
    }

    private static void findOrder() {
        refused("19: BAD before NULL, e", SOME, x -> x.find(3, 100, 100, 5), BAD);
        refused("19: BAD before NULL, weight", SOME, x -> x.find(3, 5, 0, 5), BAD);
        refused("19: BAD before NULL, w", SOME, x -> x.find(3, 5, 100, -1), BAD);
        Make four = withItems(2, 4);
        refused("19: BAD before INDEX, e", four, x -> x.find(1, -1, 100, 5), BAD);
        refused("19: BAD before INDEX, weight", four, x -> x.find(1, 5, 10000, 5), BAD);
        refused("19: BAD before INDEX, w", four, x -> x.find(1, 5, 100, 1000), BAD);
        refused("19: BAD before FULL, sheet", ALL, x -> x.find(4, 5, 100, 5), BAD);
        refused("19: BAD before FULL, e", ALL, x -> x.find(2, 100, 100, 5), BAD);
        refused("19: BAD before FULL, weight", ALL, x -> x.find(2, 5, -2, 5), BAD);
        refused("19: BAD before FULL, w", ALL, x -> x.find(2, 5, 100, 1000), BAD);
        found("19: NULL before FULL", ALL, x -> x.find(3, 5, 100, 5), NULL);
        found("19: INDEX before FULL", after(ALL, x -> x.sheet(1, 2, 4)), x -> x.find(1, 5, 100, 5), INDEX);
    }

    /** A bell with a tone, and an unnamed one with an item for it: whether it could be. */
    private static long couldBe(int form, int at, int item, int tone) {
        BellYards x = yard(100);
        x.tone(0, at, tone);
        // The bell has no other tone, so the other items are no matter, nor is the sixth.
        fill(x, 0, form, 77, 77, 77, 77, 77, 77);
        x.put(0, form, at, item);
        x.find(0, 0, NONE, 0);
        return x.could(0);
    }

    private static void findTones() {
        for (int t = 0; t <= 4; t++) {
            due("19: 0 is a tone", couldBe(2, t, 0, 0), 1);
            due("19: 0 is not 1", couldBe(2, t, 0, 1), 0);
            due("19: 9999 is a tone", couldBe(2, t, 9999, 9999), 1);
            due("19: 9999 is not 9998", couldBe(2, t, 9999, 9998), 0);
            for (int item : new int[] {-1, 10000, -2, LEAST, GREATEST}) {
                due("19: " + item + " is none", couldBe(2, t, item, 5), 1);
            }
            due("19: a byte of 127", couldBe(0, t, 127, 127), 1);
            due("19: a byte is not another", couldBe(0, t, 127, 126), 0);
            due("19: a byte of 128 is none", couldBe(0, t, 128, 5), 1);
            due("19: a short of 9999", couldBe(1, t, 9999, 9998), 0);
            due("19: a short of 40000 is none", couldBe(1, t, 40000, 5), 1);
            BellYards x = yard(100, 200);
            fill(x, 0, 2, 7, 7, 7, 7, 7);
            x.put(0, 2, t, -1);
            x.find(0, 0, NONE, 0);
            due("19: it has not tone " + t, x.next(0), t);
        }
    }

    /** What the sheet has afterwards is no matter. */
    private static void findTakesTheItemsThen() {
        BellYards x = yard(100);
        x.tone(0, 0, 50);
        fill(x, 0, 2, 50, 1, 2, 3, 4);
        x.find(0, 0, NONE, 0);
        x.put(0, 2, 0, 60);
        due("19: as it was found", x.could(0), 1);
        x.find(0, 0, NONE, 0);
        due("19: the next one", x.could(1), 0);
        x.lose(0);
        due("19: without the sheet", x.could(0), 1);
        x.tone(0, 0, 60);
        due("19: by tones as they are now", x.could(0), 0);
        due("19: and the next one", x.could(1), 1);
    }

    // ---- promise 20: "No UNNAMED ones: how many there were."

    private static void forgetting() {
        due("20: none", NEW.made().forget(), 0);
        due("20: two", SOME.made().forget(), 2);
        due("20: eight", ALL.made().forget(), 8);
        Make forgotten = after(ALL, x -> x.forget());
        due("20: again", forgotten.made().forget(), 0);
        due("20: UNNAMED ones", forgotten.made().count(5), 0);
        refused("20: could", forgotten, x -> x.could(0), BAD);
        refused("20: next", forgotten, x -> x.next(0), BAD);
        refused("20: laid", forgotten, x -> x.laid(0), BAD);
        due("20: none is laid", forgotten.made().laying(0), 0);
        due("20: no differences", forgotten.made().laying(1), 0);
        due("20: from 0 again", forgotten.made().find(2, 0, NONE, 0), 0);
    }

    // ---- promise 21: "Which BELLS one COULD BE, as bits. BAD."

    private static void couldLimits() {
        limits("21: unnamed", SOME, (x, v) -> x.could(v), BAD, 0, 1);
        limits("21: unnamed of eight", ALL, (x, v) -> x.could(v), BAD, 0, 7);
    }

    /** One in a yard with one tone, and an unnamed one with another and with e. */
    private static long apart(int at, int tone, int measured, int e) {
        BellYards x = yard(100);
        x.tone(0, at, tone);
        fill(x, 0, 2, -1, -1, -1, -1, -1);
        x.put(0, 2, at, measured);
        x.find(0, e, NONE, 0);
        return x.could(0);
    }

    /** "if each TONE that both have is no more apart than e" */
    private static void couldTones() {
        for (int t = 0; t <= 4; t++) {
            for (int e : new int[] {0, 1, 50, 98, 99}) {
                due("21: not apart", apart(t, 500, 500, e), 1);
            due("21: e just above", apart(t, 500, 500 + e, e), 1);
                due("21: e just below", apart(t, 500, 500 - e, e), 1);
                due("21: more above", apart(t, 500, 500 + e + 1, e), 0);
                due("21: more below", apart(t, 500, 500 - e - 1, e), 0);
            }
            due("21: the farthest", apart(t, 0, 9999, 99), 0);
            due("21: the farthest back", apart(t, 9999, 0, 99), 0);
            due("21: the bell has it not", apart(t, NONE, 9999, 0), 1);
            due("21: the unnamed one has it not", apart(t, 9999, NONE, 0), 1);
            due("21: both have it not", apart(t, NONE, NONE, 0), 1);
        }
        BellYards x = yard(100);
        for (int t = 0; t <= 4; t++) {
            x.tone(0, t, 100);
        }
        fill(x, 0, 2, 110, 90, 110, 90, 110);
        x.find(0, 10, NONE, 0);
        x.find(0, 9, NONE, 0);
        due("21: each just within", x.could(0), 1);
        due("21: each too far", x.could(1), 0);
        x.tone(0, 3, 79);
        due("21: one too far", x.could(0), 0);
    }

    private static long weighed(int weight, int measured, int w) {
        BellYards x = yard(weight);
        fill(x, 0, 2, -1, -1, -1, -1, -1);
        x.find(0, 0, measured, w);
        return x.could(0);
    }

    /** "and the WEIGHT no more than w" */
    private static void couldWeight() {
        for (int w : new int[] {0, 1, 500, 998, 999}) {
            due("21: w just above", weighed(2000, 2000 + w, w), 1);
            due("21: w just below", weighed(2000, 2000 - w, w), 1);
            due("21: more above", weighed(2000, 2001 + w, w), 0);
            due("21: more below", weighed(2000, 1999 - w, w), 0);
        }
        for (int apart : new int[] {0, 1, 9}) {
            due("21: within above", weighed(2000, 2000 + apart, 10), 1);
            due("21: within below", weighed(2000, 2000 - apart, 10), 1);
        }
        due("21: not weighed, the least", weighed(1, NONE, 0), 1);
        due("21: not weighed, the greatest", weighed(9999, NONE, 999), 1);
        due("21: the farthest", weighed(1, 9999, 999), 0);
        due("21: the farthest back", weighed(9999, 1, 999), 0);
        due("21: the greatest", weighed(9999, 9999, 0), 1);
        due("21: the least", weighed(1, 1, 0), 1);
    }

    /** "a BELL that is in a YARD in the WEEK that it is" */
    private static void couldStates() {
        for (int state = 0; state <= 5; state++) {
            BellYards x = bells(100);
            fill(x, 0, 2, -1, -1, -1, -1, -1);
            x.find(0, 99, NONE, 999);
            for (int next : WAYS[state]) {
                x.become(0, next);
            }
            due("21: of state " + state, x.could(0), state == 3 ? 1 : 0);
            due("24: of state " + state, x.laid(0), state == 3 ? 0 : NONE);
            x.pass(1);
            due("21: a week later", x.could(0), state == 3 ? 1 : 0);
        }
    }

    private static void couldBits() {
        BellYards x = bells();
        fill(x, 0, 2, -1, -1, -1, -1, -1);
        x.find(0, 99, NONE, 999);
        due("21: no bells", x.could(0), 0);
        due("22: no bells", x.next(0), NONE);
        due("24: no bells", x.laid(0), NONE);
        BellYards all = yard(hundreds(20));
        fill(all, 0, 2, -1, -1, -1, -1, -1);
        all.find(0, 99, NONE, 999);
        all.find(0, 0, 2000, 0);
        due("21: all of twenty", all.could(0), (1 << 20) - 1);
        due("21: the last of twenty", all.could(1), 1 << 19);
    }

    // ---- promise 22: "MEASURE NEXT; NONE. BAD."

    private static void nextLimits() {
        limits("22: unnamed", SOME, (x, v) -> x.next(v), BAD, 0, 1);
        limits("22: unnamed of eight", ALL, (x, v) -> x.next(v), BAD, 0, 7);
    }

    /** An unnamed one without a tone, with e, in a yard of so many bells. */
    private static BellYards unmeasured(int number, int e) {
        BellYards x = yard(hundreds(number));
        fill(x, 0, 2, -1, -1, -1, -1, -1);
        x.find(0, e, NONE, 0);
        return x;
    }

    /** "NONE, if it COULD BE fewer than two" */
    private static void nextFewerThanTwo() {
        due("22: none", unmeasured(0, 5).next(0), NONE);
        due("22: one", unmeasured(1, 5).next(0), NONE);
        due("22: two", unmeasured(2, 5).next(0), 0);
        due("22: twenty", unmeasured(20, 5).next(0), 0);
        BellYards x = unmeasured(2, 5);
        x.become(0, 4);
        due("22: one is melted", x.next(0), NONE);
    }

    /** "or has all": and of those that it has not, the least of like ones. */
    private static void nextHasAll() {
        for (int has = 0; has < 32; has++) {
            BellYards x = yard(100, 200);
            x.sheet(0, 2, 5);
            int least = NONE;
            for (int t = 4; t >= 0; t--) {
                x.put(0, 2, t, (has >> t & 1) == 1 ? 50 : -1);
                least = (has >> t & 1) == 1 ? least : t;
            }
            x.find(0, 5, NONE, 0);
            due("22: it has " + has, x.next(0), least);
        }
        BellYards x = yard(100, 200);
        fill(x, 0, 2, -1, 50, -1, 50, -1);
        x.find(0, 5, NONE, 0);
        x.tone(0, 3, 45);
        x.tone(1, 3, 55);
        due("22: not one that it has", x.next(0), 0);
        x.tone(0, 4, 0);
        x.tone(1, 4, 11);
        due("22: of those that it has not", x.next(0), 4);
    }

    /** Whether two tones fall into one part (then TONE 0 is the least of like ones) or into two. */
    private static void parts(int e, int one, int other, boolean apart) {
        BellYards x = unmeasured(2, e);
        x.tone(0, 2, one);
        x.tone(1, 2, other);
        due("22: " + one + " and " + other + " with e " + e, x.next(0), apart ? 2 : 0);
    }

    /** "those whose TONE is known by TONE by (2 e and 1), cut" */
    private static void nextParts() {
        parts(0, 0, 1, true);
        parts(0, 9998, 9999, true);
        parts(0, 7, 7, false);
        parts(1, 0, 2, false);
        parts(1, 2, 3, true);
        parts(5, 0, 10, false);
        parts(5, 10, 11, true);
        parts(5, 11, 21, false);
        parts(5, 21, 22, true);
        parts(99, 0, 198, false);
        parts(99, 198, 199, true);
        parts(99, 9950, 9999, false);
        parts(99, 9949, 9950, true);
        BellYards x = unmeasured(20, 0);
        for (int b = 0; b < 20; b++) {
            x.tone(b, 4, b);
            x.tone(b, 3, b / 2);
            x.tone(b, 1, b % 3);
        }
        due("22: twenty parts of one", x.next(0), 4);
        x.tone(0, 4, 19);
        x.tone(1, 4, 19);
        due("22: a part of three, ten of two", x.next(0), 3);
        x.tone(0, 3, 9);
        due("22: a part of three each: the least", x.next(0), 3);
        x.tone(1, 3, 9);
        due("22: a part of four", x.next(0), 4);
        BellYards y = unmeasured(3, 5);
        y.tone(0, 1, 0);
        y.tone(1, 1, 11);
        y.tone(2, 1, 22);
        y.tone(0, 2, 0);
        y.tone(1, 2, 11);
        y.tone(2, 2, 22);
        due("22: of like ones the least", y.next(0), 1);
    }

    /** "and those of which it is not known, as one part" */
    private static void nextNotKnown() {
        BellYards x = unmeasured(4, 0);
        x.tone(0, 1, 0);
        due("22: one known, three not", x.next(0), 1);
        x.tone(0, 3, 0);
        x.tone(1, 3, 1);
        due("22: two known, two not", x.next(0), 3);
        x.tone(2, 2, 0);
        x.tone(3, 2, 0);
        due("22: two alike, two not known", x.next(0), 2);
        x.tone(2, 4, 5);
        x.tone(3, 4, 6);
        x.tone(1, 4, 7);
        due("22: three known, one not", x.next(0), 4);
        BellYards y = unmeasured(2, 99);
        y.tone(0, 3, 0);
        due("22: 0 and not known are two parts", y.next(0), 3);
        nextOfThoseItCouldBe();
    }

    /** "those it COULD BE": what tones the others have is no matter, before these or behind them. */
    private static void nextOfThoseItCouldBe() {
        BellYards x = yard(100, 500, 110, 500, 500);
        fill(x, 0, 2, -1, -1, -1, -1, -1);
        x.find(0, 0, 105, 5);
        for (int b : new int[] {1, 3, 4}) {
            x.tone(b, 2, b);
            for (int t : new int[] {0, 1, 3, 4}) {
                x.tone(b, t, 7);
            }
        }
        x.tone(0, 3, 7);
        x.tone(2, 3, 8);
        due("22: apart, though three others are alike", x.next(0), 3);
        x.tone(2, 3, 7);
        due("22: alike, though three others are apart", x.next(0), 0);
    }

    // ---- promises 23, 24: "THE LAYING: 0 how many are laid, 1 the differences. BAD.", "The BELL that an
    //                        UNNAMED one is laid to; NONE. BAD."

    private static void layingLimits() {
        limits("23: what", SOME, (x, v) -> x.laying(v), BAD, 0, 1);
        beyond("23: what, none there", NEW, (x, v) -> x.laying(v), BAD, 0, 1);
        limits("24: unnamed", SOME, (x, v) -> x.laid(v), BAD, 0, 1);
        limits("24: unnamed of eight", ALL, (x, v) -> x.laid(v), BAD, 0, 7);
    }

    private static void layingNone() {
        due("23: none there", bells(5).laying(0), 0);
        due("23: none there, differences", bells(5).laying(1), 0);
        BellYards x = bells(100, 200);
        fill(x, 0, 2, 5, 5, 5, 5, 5);
        x.find(0, 0, NONE, 0);
        x.find(0, 0, NONE, 0);
        due("23: none in a yard", x.laying(0), 0);
        due("23: none in a yard, differences", x.laying(1), 0);
        due("24: the first", x.laid(0), NONE);
        due("24: the second", x.laid(1), NONE);
    }

    /** An unnamed one that could be one bell alone, or each of them (weight NONE). */
    private static void findWeighed(BellYards x, int weight, int w) {
        x.find(0, 99, weight, w);
    }

    private static void laidTo(String what, BellYards x, int differences, int... numbers) {
        int laid = 0;
        for (int u = 0; u < numbers.length; u++) {
            due("24: " + what + ", " + u, x.laid(u), numbers[u]);
            laid += numbers[u] == NONE ? 0 : 1;
        }
        due("23: " + what + ": how many", x.laying(0), laid);
        due("23: " + what + ": differences", x.laying(1), differences);
    }

    /** "none to two: the most are laid" */
    private static void layingMost() {
        BellYards x = yard(100, 200, 300);
        fill(x, 0, 2, -1, -1, -1, -1, -1);
        findWeighed(x, NONE, 0);
        laidTo("one", x, 0, 0);
        findWeighed(x, 100, 0);
        laidTo("it gives way", x, 0, 1, 0);
        findWeighed(x, 200, 0);
        laidTo("and again", x, 0, 2, 0, 1);
        findWeighed(x, 300, 0);
        laidTo("three bells for four", x, 0, 0, NONE, 1, 2);
        findWeighed(x, 9000, 0);
        laidTo("one that could be none", x, 0, 0, NONE, 1, 2, NONE);
        BellYards more = yard(100, 200);
        more.tone(0, 0, 50);
        more.tone(1, 0, 149);
        fill(more, 0, 2, 50, -1, -1, -1, -1);
        findWeighed(more, NONE, 0);
        findWeighed(more, 100, 0);
        laidTo("more are laid before fewer differences", more, 99, 1, 0);
    }

    /** "of like ones the least differences of all TONES that both have together" */
    private static void layingDifferences() {
        BellYards x = yard(100, 200);
        for (int t = 0; t <= 4; t++) {
            x.tone(0, t, 100);
            x.tone(1, t, 100 + t);
        }
        fill(x, 0, 2, 99, 103, 100, 105, 104);
        x.find(0, 99, NONE, 0);
        // To bell 0: 1, 3, 0, 5, 4; to bell 1: 1, 2, 2, 2, 0.
        laidTo("all five tones", x, 7, 1);
        x.tone(1, 4, NONE);
        x.tone(1, 3, NONE);
        laidTo("those that both have", x, 5, 1);
        x.tone(0, 3, NONE);
        x.tone(0, 1, 103);
        x.tone(0, 4, 104);
        laidTo("the other one now", x, 1, 0);
        BellYards two = yard(100, 200);
        two.tone(0, 0, 100);
        two.tone(1, 0, 110);
        fill(two, 0, 2, 104, -1, -1, -1, -1);
        two.find(0, 99, NONE, 0);
        fill(two, 0, 2, 101, -1, -1, -1, -1);
        two.find(0, 99, NONE, 0);
        laidTo("together, not one by one", two, 7, 1, 0);
    }

    /** "of like ones the least BELLS (the first UNNAMED's compared first, none behind all)" */
    private static void layingLeastBells() {
        BellYards x = yard(100, 200, 300, 400);
        fill(x, 0, 2, -1, -1, -1, -1, -1);
        findWeighed(x, NONE, 0);
        findWeighed(x, NONE, 0);
        findWeighed(x, NONE, 0);
        laidTo("in their order", x, 0, 0, 1, 2);
        BellYards none = yard(100);
        fill(none, 0, 2, -1, -1, -1, -1, -1);
        findWeighed(none, 100, 0);
        findWeighed(none, 100, 0);
        laidTo("none behind all", none, 0, 0, NONE);
        BellYards last = yard(hundreds(20));
        fill(last, 0, 2, -1, -1, -1, -1, -1);
        findWeighed(last, 2000, 0);
        findWeighed(last, 2000, 0);
        findWeighed(last, NONE, 0);
        laidTo("none behind bell 19", last, 0, 19, NONE, 0);
        BellYards swap = yard(100, 200);
        fill(swap, 0, 2, -1, -1, -1, -1, -1);
        findWeighed(swap, 200, 0);
        findWeighed(swap, 150, 50);
        laidTo("the first could be the second bell alone", swap, 0, 1, 0);
        BellYards first = yard(100, 200, 300);
        fill(first, 0, 2, -1, -1, -1, -1, -1);
        findWeighed(first, 250, 50);
        findWeighed(first, 200, 100);
        laidTo("the first one's is compared first", first, 0, 1, 0);
    }

    private static void layingAllPlaces() {
        BellYards x = yard(hundreds(20));
        for (int b = 0; b < 20; b++) {
            for (int t = 0; t <= 4; t++) {
                x.tone(b, t, b < 12 ? 9900 : 9999);
            }
        }
        fill(x, 0, 2, 9999, 9999, 9999, 9999, 9999);
        for (int u = 0; u < 8; u++) {
            x.find(0, 99, NONE, 0);
        }
        laidTo("eight to the last eight", x, 0, 12, 13, 14, 15, 16, 17, 18, 19);
        for (int b = 12; b < 20; b++) {
            x.become(b, 4);
        }
        laidTo("with the greatest differences", x, 3960, 0, 1, 2, 3, 4, 5, 6, 7);
        for (int b = 0; b < 11; b++) {
            x.become(b, 5);
        }
        laidTo("eight for one", x, 495, 11, NONE, NONE, NONE, NONE, NONE, NONE, NONE);
        x.become(11, 5);
        laidTo("eight for none", x, 0, NONE, NONE, NONE, NONE, NONE, NONE, NONE, NONE);
    }

    // ---- promise 25: "t (what = 0), SCALE (1; 0 to 4095): what it was. BAD."

    private static void tuneLimits() {
        beyond("25: what", SOME, (x, v) -> x.tune(v, 5), BAD, 0, 1);
        limits("25: t", SOME, (x, v) -> x.tune(0, v), BAD, 0, 49);
        limits("25: SCALE", SOME, (x, v) -> x.tune(1, v), BAD, 0, 4095);
        refused("25: what 2 with a SCALE", SOME, x -> x.tune(2, 4095), BAD);
        refused("25: a SCALE as t", SOME, x -> x.tune(0, 2741), BAD);
    }

    private static void tuneTells() {
        BellYards x = NEW.made();
        due("25: t at first", x.tune(0, 49), 20);
        due("25: SCALE at first", x.tune(1, 4095), 2741);
        due("25: t was 49", x.tune(0, 0), 49);
        due("25: SCALE was 4095", x.tune(1, 0), 4095);
        due("25: t was 0", x.tune(0, 0), 0);
        due("25: SCALE was 0", x.tune(1, 0), 0);
    }

    // ---- promise 26: "Of a PARISH's PEAL: 0 how many RING, 1 GROUND (NONE), 2 how many are OUT, 3 MISSING,
    //                   4 whether it is WHOLE (0 where none RINGS), 5 FILL (NONE). BAD: -1000."

    private static void pealLimits() {
        limits("26: parish", SOME, (x, v) -> x.peal(v, 0), -1000, 0, 2);
        limits("26: parish of eight", ALL, (x, v) -> x.peal(v, 0), -1000, 0, 7);
        limits("26: what", SOME, (x, v) -> x.peal(0, v), -1000, 0, 5);
        refused("26: both wrong", SOME, x -> x.peal(3, 6), -1000);
    }

    private static void pealIs(String what, BellYards x, int parish, long... want) {
        for (int k = 0; k <= 5; k++) {
            due("26: " + what + ", " + k, x.peal(parish, k), want[k]);
        }
    }

    private static void pealNone() {
        pealIs("without bells", bells(), 0, 0, NONE, 0, 2741, 0, NONE);
        pealIs("no nominal is known", bells(5, 6), 0, 0, NONE, 0, 2741, 0, NONE);
        BellYards x = bells(5, 6);
        for (int t = 0; t <= 3; t++) {
            x.tone(0, t, 100);
        }
        pealIs("all TONES but the nominal", x, 0, 0, NONE, 0, 2741, 0, NONE);
        x.tone(1, 4, 100);
        x.become(1, 2);
        pealIs("there would be a FILL, but no GROUND", x, 0, 0, NONE, 0, 2741, 0, NONE);
        x.tune(1, 0);
        pealIs("where none RINGS it is not WHOLE", x, 0, 0, NONE, 0, 0, 0, NONE);
        x.become(1, 3);
        x.become(1, 5);
        x.tune(1, 1);
        pealIs("one RINGS", x, 0, 1, 1, 0, 0, 1, NONE);
    }

    /** "BELLS of a PARISH that HANG or are SENT HOME and whose nominal is known RING." */
    private static void pealWhoRings() {
        for (int state = 0; state <= 5; state++) {
            BellYards x = bells(100);
            x.tone(0, 4, 0);
            for (int next : WAYS[state]) {
                x.become(0, next);
            }
            boolean rings = state == 0 || state == 5;
            due("26: of state " + state, x.peal(0, 0), rings ? 1 : 0);
            due("26: ground of state " + state, x.peal(0, 1), rings ? 0 : NONE);
            x.parish(0);
            due("26: not in another parish", x.peal(1, 0), 0);
            x.tone(0, 4, NONE);
            due("26: its nominal is not known", x.peal(0, 0), 0);
        }
        BellYards x = bells(hundreds(20));
        for (int b = 0; b < 20; b++) {
            x.tone(b, 4, 9999);
        }
        due("26: all of twenty", x.peal(0, 0), 20);
        due("26: none is OUT", x.peal(0, 2), 0);
        due("26: the last is GROUND", x.peal(0, 1), 19);
    }

    /** "GROUND is the heaviest that RINGS, of like ones the least." */
    private static void pealGround() {
        BellYards x = bells(500, 900, 900, 9999);
        for (int b = 0; b <= 2; b++) {
            x.tone(b, 4, 1000);
        }
        due("26: of like ones the least", x.peal(0, 1), 1);
        x.become(1, 1);
        due("26: one that does not ring", x.peal(0, 1), 2);
        x.become(2, 2);
        due("26: the last one left", x.peal(0, 1), 0);
        x.tone(3, 4, 9999);
        due("26: the heaviest", x.peal(0, 1), 3);
    }

    /** One parish; the first bell is the heaviest; all have nominals. */
    private static BellYards tuned(int... nominals) {
        BellYards x = new BellYards();
        x.parish(0);
        for (int b = 0; b < nominals.length; b++) {
            x.bell(0, 5000 - b, 1800, 20);
            x.tone(b, 4, nominals[b]);
        }
        return x;
    }

    /** "MISSING: STEPS of the SCALE that are not rung, as bits." */
    private static void pealScale() {
        BellYards x = tuned(1000);
        int[] scales = {0, 1, 2, 3, 2048, 2049, 4094, 4095};
        for (int scale : scales) {
            x.tune(1, scale);
            due("26: of SCALE " + scale, x.peal(0, 3), scale & 4094);
        }
        for (int k = 1; k <= 11; k++) {
            BellYards y = tuned(1000, 1000 + 100 * k);
            y.tune(1, 4095);
            due("26: two steps", y.peal(0, 3), 4095 & ~1 & ~(1 << k));
            y.tune(1, 1 << k);
            due("26: not of the SCALE", y.peal(0, 3), 0);
        }
        BellYards z = tuned(1000, 1100, 1200, 1300, 1400, 1500, 1600, 1700, 1800, 1900, 2000, 2100);
        z.tune(1, 4095);
        pealIs("all twelve", z, 0, 12, 0, 0, 0, 1, NONE);
        z.become(11, 1);
        pealIs("all but the last", z, 0, 11, 0, 0, 2048, 0, NONE);
        z.tone(11, 4, 2100);
        z.become(11, 0);
        z.tone(11, 4, 2121);
        pealIs("the last is OUT", z, 0, 12, 0, 1, 2048, 0, NONE);
    }

    /** "WHOLE is a PEAL, if none is OUT, all STEPS are of the SCALE, and each of the SCALE's is rung." */
    private static void pealWhole() {
        BellYards x = tuned(1000, 1400, 1700);
        x.tune(1, 1 | 16 | 128);
        due("26: WHOLE", x.peal(0, 4), 1);
        x.tune(1, 1 | 16);
        due("26: a STEP that is not of the SCALE", x.peal(0, 4), 0);
        x.tune(1, 1 | 16 | 128 | 256);
        due("26: one of the SCALE's is not rung", x.peal(0, 4), 0);
        x.tune(1, 1 | 16 | 128);
        x.bell(0, 10, 1800, 20);
        due("26: one whose nominal is not known", x.peal(0, 4), 1);
        x.tone(3, 4, 1050);
        due("26: one is OUT", x.peal(0, 4), 0);
        x.tone(3, 4, 2200);
        due("26: an octave above GROUND", x.peal(0, 4), 1);
        x.tune(1, 16 | 128);
        due("26: GROUND's own STEP is not of the SCALE", x.peal(0, 4), 0);
        x.tune(1, 0);
        due("26: a SCALE of none", x.peal(0, 4), 0);
    }

    /** "FILL: a BELL (TAKEN or in a YARD, nominal known, of any PARISH) with a STEP that is MISSING" */
    private static void pealFill() {
        for (int state = 0; state <= 5; state++) {
            BellYards x = tuned(1000);
            x.tune(1, 3);
            x.parish(0);
            x.bell(1, 100, 1800, 20);
            x.tone(1, 4, 1100);
            for (int next : WAYS[state]) {
                x.become(1, next);
            }
            boolean fills = state == 2 || state == 3;
            due("26: FILL of state " + state, x.peal(0, 5), fills ? 1 : NONE);
            x.tone(1, 4, 1200);
            due("26: its STEP is not of the SCALE", x.peal(0, 5), NONE);
            x.tone(1, 4, 1000);
            due("26: its STEP is rung", x.peal(0, 5), NONE);
            x.tone(1, 4, 1050);
            due("26: it is OUT", x.peal(0, 5), NONE);
            x.tone(1, 4, NONE);
            due("26: its nominal is not known", x.peal(0, 5), NONE);
        }
    }

    /** "the heaviest, of like ones the least; NONE" */
    private static void pealFillWhich() {
        BellYards x = tuned(1000);
        x.tune(1, 7);
        for (int b = 1; b <= 4; b++) {
            x.bell(0, b == 4 ? 300 : 200, 1800, 20);
            x.tone(b, 4, b == 1 ? 1200 : 1100);
            x.become(b, 2);
        }
        due("26: the heaviest", x.peal(0, 5), 4);
        x.tone(4, 4, 1000);
        due("26: of like ones the least", x.peal(0, 5), 1);
        x.become(1, 3);
        due("26: in a yard", x.peal(0, 5), 1);
        x.become(1, 4);
        due("26: the next of like ones", x.peal(0, 5), 2);
        x.bell(0, 9999, 1800, 20);
        x.tone(5, 4, 1201);
        x.become(5, 2);
        due("26: heavier than GROUND", x.peal(0, 5), 5);
        BellYards y = tuned(1100, 1100, 1000);
        y.tune(1, 3);
        y.become(0, 2);
        due("26: its STEP is rung by another", y.peal(0, 5), NONE);
        y.become(1, 2);
        due("26: the first and the heaviest", y.peal(0, 5), 0);
        y.become(0, 3);
        y.become(0, 4);
        due("26: the lighter one behind it", y.peal(0, 5), 1);
    }

    /** "Of a PARISH's PEAL": the BELLS of other PARISHES are no matter. */
    private static void pealOfOneParish() {
        BellYards x = tuned(1000, 1400);
        x.parish(0);
        x.tune(1, 1 | 16 | 128);
        x.bell(1, 9999, 1800, 20);
        x.tone(2, 4, 1700);
        pealIs("another has the STEP", x, 0, 2, 0, 0, 128, 0, NONE);
        x.tone(2, 4, 1050);
        pealIs("another would be OUT", x, 0, 2, 0, 0, 128, 0, NONE);
        x.tune(1, 1 | 16);
        pealIs("WHOLE without it", x, 0, 2, 0, 0, 0, 1, NONE);
        pealIs("the other PEAL", x, 1, 1, 2, 0, 16, 0, NONE);
    }

    // ---- promise 27: "STEP of a BELL in the PEAL of a PARISH (whether it RINGS there or not); NONE: it is OUT,
    //                   its nominal is not known, or none RINGS there. BAD."

    private static void stepLimits() {
        limits("27: parish", SOME, (x, v) -> x.step(v, 0), BAD, 0, 2);
        limits("27: bell", SOME, (x, v) -> x.step(0, v), BAD, 0, 6);
        limits("27: parish of eight", ALL, (x, v) -> x.step(v, 0), BAD, 0, 7);
        limits("27: bell of twenty", ALL, (x, v) -> x.step(0, v), BAD, 0, 19);
        refused("27: both wrong", SOME, x -> x.step(3, 7), BAD);
    }

    private static void step(int t, int nominal, int ground, int want) {
        BellYards x = tuned(ground, nominal);
        x.tune(0, t);
        due("27: " + nominal + " over " + ground + " with t " + t, x.step(0, 1), want);
        due("26: OUT, " + nominal + " over " + ground + " with t " + t, x.peal(0, 2), want == NONE ? 1 : 0);
        x.become(1, 1);
        due("27: whether it RINGS or not", x.step(0, 1), want);
    }

    /** "is within t (told, 0 to 49; 20 at first) of 100 times k (k 0 to 12; 12 is 0): k modulo 12" */
    private static void stepWithin() {
        for (int t : new int[] {0, 1, 20, 48, 49}) {
            for (int k = 0; k <= 12; k++) {
                int at = 2000 + 100 * k;
                step(t, at, 2000, k % 12);
                step(t, at + t, 2000, k % 12);
                step(t, at - t, 2000, k % 12);
                step(t, at + t + 1, 2000, NONE);
                step(t, at - t - 1, 2000, NONE);
            }
            step(t, 2050, 2000, NONE);
            step(t, 1950, 2000, NONE);
        }
        BellYards x = tuned(2000, 2020);
        due("27: t is 20 at first", x.step(0, 1), 0);
        x.tone(1, 4, 2021);
        due("27: 21 at first", x.step(0, 1), NONE);
    }

    /** "its nominal less GROUND's, modulo 1200" */
    private static void stepModulo() {
        step(20, 9999, 0, 4);
        step(20, 0, 9999, 8);
        step(0, 9600, 0, 0);
        step(0, 0, 9600, 0);
        step(0, 100, 9600, 1);
        step(0, 0, 100, 11);
        step(0, 0, 1, NONE);
        step(1, 0, 1, 0);
        step(0, 0, 0, 0);
        step(0, 9999, 9999, 0);
        step(0, 1199, 0, NONE);
        step(0, 1200, 0, 0);
        step(49, 1151, 0, 0);
        step(49, 1150, 0, NONE);
        step(49, 1149, 0, 11);
    }

    private static void stepNone() {
        BellYards x = tuned(1000, NONE);
        due("27: its nominal is not known", x.step(0, 1), NONE);
        due("27: GROUND itself", x.step(0, 0), 0);
        x.parish(0);
        due("27: none RINGS there", x.step(1, 0), NONE);
        x.bell(1, 5, 1800, 20);
        x.tone(2, 4, 300);
        due("27: in the other PEAL", x.step(1, 0), 7);
        due("27: of the other PARISH", x.step(0, 2), 5);
        x.become(2, 1);
        due("27: none RINGS there any more", x.step(1, 0), NONE);
        x.become(0, 2);
        due("27: nor here", x.step(0, 0), NONE);
    }

    private static void questionsChangeNothing() {
        for (Make make : new Make[] {SOME, ALL}) {
            asks("21: could", make, x -> x.could(1));
            asks("22: next", make, x -> x.next(0));
            asks("23: laying", make, x -> x.laying(1));
            asks("24: laid", make, x -> x.laid(1));
            asks("26: peal", make, x -> x.peal(0, 5));
            asks("27: step", make, x -> x.step(0, 3));
        }
    }
}
