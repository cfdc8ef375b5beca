/** Edges of 'Terms' 5 and 6 and of promises 28 to 38: batches, what is needed, sending home, claims. */
public final class BellYardsEdgesBatches extends Edge {
    private static final int[][] WAYS = {{}, {1}, {2}, {2, 3}, {2, 3, 4}, {2, 3, 5}};
    private static final int ALL_TWENTY = (1 << 20) - 1;

    public static void main(String[] args) {
        batchLimits();
        batchShares();
        batchBells();
        batchSixAtMost();
        batchOrder();
        setsLimits();
        setsWeight();
        setsTin();
        setsOfNone();
        setsLeast();
        setsStayAsTheyAre();
        heldLimits();
        heldSurelyMaybeNot();
        meltsLimits();
        meltsLost();
        meltsWhich();
        meltsStates();
        meltsLetters();
        meltsStock();
        shortsLimits();
        shortsItems();
        shortsInAll();
        shortsMost();
        shortsAllPlaces();
        sendLimits();
        sendTells();
        sentLimits();
        sentNone();
        sentInTime();
        sentFirstTen();
        sentMost();
        sentLikeOnes();
        sentStates();
        claimLimits();
        claimThirtyAtMost();
        claimOrder();
        rankLimits();
        rankTells();
        whoseLimits();
        whoseNotBeforeAny();
        whoseBestRank();
        whoseQuarrel();
        landsLimits();
        landsCounted();
        questionsChangeNothing();
        end();
    }

    // ---- promise 28: "A BATCH more: its number. BAD: also a share above the other; FULL."

    private static void batchLimits() {
        limits("28: weight", SOME, (x, v) -> x.batch(v, 5, 0, 100, 31), BAD, 0, 99999);
        limits("28: d", SOME, (x, v) -> x.batch(100, v, 0, 100, 31), BAD, 0, 9999);
        limits("28: from", SOME, (x, v) -> x.batch(100, 5, v, 100, 31), BAD, 0, 100);
        limits("28: to", SOME, (x, v) -> x.batch(100, 5, 0, v, 31), BAD, 0, 100);
        due("28: the least of all", SOME.made().batch(0, 0, 0, 0, 1), 1);
        due("28: the greatest of all", SOME.made().batch(99999, 9999, 100, 100, 127), 1);
    }

    private static void batchShares() {
        for (int share : new int[] {0, 1, 50, 99, 100}) {
            due("28: from is to, " + share, SOME.made().batch(100, 5, share, share, 31), 1);
            if (share > 0) {
                int from = share;
                refused("28: a share above the other", SOME, x -> x.batch(100, 5, from, from - 1, 31), BAD);
                due("28: a share below the other", SOME.made().batch(100, 5, from - 1, from, 31), 1);
            }
        }
        refused("28: the greatest above the least", SOME, x -> x.batch(100, 5, 100, 0, 31), BAD);
        refused("28: both too great", SOME, x -> x.batch(100, 5, 101, 101, 31), BAD);
        refused("28: both below 0", SOME, x -> x.batch(100, 5, -1, -1, 31), BAD);
    }

    /** "out of BELLS told (bits, 12 at most, not none)" */
    private static void batchBells() {
        refused("28: none", SOME, x -> x.batch(100, 5, 0, 100, 0), BAD);
        due("28: the first alone", SOME.made().batch(100, 5, 0, 100, 1), 1);
        due("28: the last alone", SOME.made().batch(100, 5, 0, 100, 1 << 6), 1);
        due("28: all seven", SOME.made().batch(100, 5, 0, 100, 127), 1);
        for (int bit = 7; bit <= 31; bit++) {
            int bits = 1 << bit;
            refused("28: no such BELL, bit " + bit, SOME, x -> x.batch(100, 5, 0, 100, bits), BAD);
            refused("28: one that is, and bit " + bit, SOME, x -> x.batch(100, 5, 0, 100, bits | 1), BAD);
        }
        for (int bits : new int[] {-1, -2, LEAST, LEAST + 1, GREATEST}) {
            refused("28: bits " + bits, SOME, x -> x.batch(100, 5, 0, 100, bits), BAD);
        }
        Make twenty = () -> bells(hundreds(20));
        due("28: the first twelve", twenty.made().batch(0, 0, 0, 0, 4095), 0);
        due("28: the last twelve", twenty.made().batch(0, 0, 0, 0, 4095 << 8), 0);
        refused("28: the first thirteen", twenty, x -> x.batch(0, 0, 0, 0, 8191), BAD);
        refused("28: the last thirteen", twenty, x -> x.batch(0, 0, 0, 0, 8191 << 7), BAD);
        refused("28: all twenty", twenty, x -> x.batch(0, 0, 0, 0, ALL_TWENTY), BAD);
        for (int bit = 20; bit <= 31; bit++) {
            int bits = 1 << bit;
            refused("28: a BELL beyond twenty", twenty, x -> x.batch(0, 0, 0, 0, bits), BAD);
        }
        refused("28: without BELLS", () -> bells(), x -> x.batch(0, 0, 0, 0, 1), BAD);
    }

    private static void batchSixAtMost() {
        BellYards x = bells(100);
        for (int batch = 0; batch < 6; batch++) {
            due("28: its number", x.batch(0, 0, 0, 0, 1), batch);
            due("28: BATCHES", x.count(6), batch + 1);
        }
        refused("28: a seventh", ALL, y -> y.batch(100, 5, 0, 100, 31), FULL);
        refused("28: a seventh of the least", ALL, y -> y.batch(0, 0, 0, 0, 1), FULL);
    }

    private static void batchOrder() {
        beyond("28: BAD before FULL, weight", ALL, (x, v) -> x.batch(v, 5, 0, 100, 31), BAD, 0, 99999);
        beyond("28: BAD before FULL, d", ALL, (x, v) -> x.batch(100, v, 0, 100, 31), BAD, 0, 9999);
        beyond("28: BAD before FULL, from", ALL, (x, v) -> x.batch(100, 5, v, 100, 31), BAD, 0, 100);
        beyond("28: BAD before FULL, to", ALL, (x, v) -> x.batch(100, 5, 0, v, 31), BAD, 0, 100);
        refused("28: BAD before FULL, shares", ALL, x -> x.batch(100, 5, 2, 1, 31), BAD);
        refused("28: BAD before FULL, none", ALL, x -> x.batch(100, 5, 0, 100, 0), BAD);
        refused("28: BAD before FULL, thirteen", ALL, x -> x.batch(100, 5, 0, 100, 8191), BAD);
        refused("28: BAD before FULL, bit 20", ALL, x -> x.batch(100, 5, 0, 100, 1 << 20), BAD);
    }

    // ---- promise 29: "Of a BATCH: 0 how many sets it COULD be, 1 the least one, as bits of BELLS (NONE). BAD."

    private static void setsLimits() {
        limits("29: batch", SOME, (x, v) -> x.sets(v, 0), BAD, 0, 0);
        limits("29: batch of six", ALL, (x, v) -> x.sets(v, 0), BAD, 0, 5);
        limits("29: what", SOME, (x, v) -> x.sets(0, v), BAD, 0, 1);
        refused("29: none there", NEW, x -> x.sets(0, 2), BAD);
    }

    private static void setsAre(String what, BellYards x, int[] batch, int sets, int least) {
        int number = x.batch(batch[0], batch[1], batch[2], batch[3], batch[4]);
        due("29: how many, " + what, x.sets(number, 0), sets);
        due("29: the least, " + what, x.sets(number, 1), least);
    }

    /** "if its WEIGHT together is no more than d off" */
    private static void setsWeight() {
        for (int d : new int[] {0, 1, 100, 9998, 9999}) {
            BellYards x = bells(4000, 9000);
            setsAre("d above", x, new int[] {13000 + d, d, 0, 100, 3}, 1, 3);
            setsAre("more above", x, new int[] {13001 + d, d, 0, 100, 3}, 0, NONE);
            setsAre("more, of one", x, new int[] {9001 + d, d, 0, 100, 2}, 0, NONE);
            setsAre("d above, of one", x, new int[] {9000 + d, d, 0, 100, 2}, 1, 2);
        }
        BellYards x = bells(4000, 9000);
        setsAre("d below", x, new int[] {3900, 100, 0, 100, 3}, 1, 1);
        setsAre("more below", x, new int[] {3899, 100, 0, 100, 3}, 0, NONE);
        setsAre("none or one", x, new int[] {2000, 2000, 0, 100, 1}, 2, 0);
        setsAre("neither none nor one", x, new int[] {2000, 1999, 0, 100, 1}, 0, NONE);
        int[] heavy = new int[20];
        java.util.Arrays.fill(heavy, 9999);
        BellYards y = bells(heavy);
        setsAre("the greatest weight", y, new int[] {99999, 0, 0, 100, 4095}, 0, NONE);
        setsAre("ten of twelve", y, new int[] {99999, 9, 0, 100, 4095}, 66, 1023);
        setsAre("ten or eleven of the last", y, new int[] {99999, 9999, 0, 100, 4095 << 8}, 66 + 12, 1023 << 8);
        setsAre("nine to eleven", y, new int[] {99990, 9999, 20, 20, 4095}, 220 + 66 + 12, 511);
        setsAre("none or one of twelve", y, new int[] {0, 9999, 20, 20, 4095}, 13, 0);
        setsAre("none alone", y, new int[] {0, 9998, 20, 20, 4095}, 1, 0);
    }

    private static int setsOfTin(int from, int to) {
        BellYards x = new BellYards();
        x.parish(0);
        x.bell(0, 100, 1800, 10);
        x.bell(0, 300, 1800, 30);
        x.batch(400, 0, from, to, 3);
        return x.sets(0, 0);
    }

    /** "TIN times WEIGHT, all together, is from the first share to the second times the WEIGHT together" */
    private static void setsTin() {
        // 100 times 10 and 300 times 30 are 10000: 25 in 100 of 400.
        due("29: just that share", setsOfTin(25, 25), 1);
        due("29: all shares", setsOfTin(0, 100), 1);
        due("29: from below", setsOfTin(24, 25), 1);
        due("29: to above", setsOfTin(25, 26), 1);
        due("29: from above", setsOfTin(26, 100), 0);
        due("29: to below", setsOfTin(0, 24), 0);
        BellYards x = new BellYards();
        x.parish(0);
        x.bell(0, 9999, 1800, 0);
        x.bell(0, 1, 1800, 30);
        setsAre("tin 0 is in 0 to 0", x, new int[] {9999, 0, 0, 0, 3}, 1, 1);
        setsAre("a little more is not", x, new int[] {10000, 0, 0, 0, 3}, 0, NONE);
        setsAre("but in 0 to 1", x, new int[] {10000, 0, 0, 1, 3}, 1, 3);
        setsAre("tin 30 is in 30 to 30", x, new int[] {1, 0, 30, 30, 3}, 1, 2);
        setsAre("not in 31 to 100", x, new int[] {1, 0, 31, 100, 3}, 0, NONE);
        setsAre("not in 0 to 29", x, new int[] {1, 0, 0, 29, 3}, 0, NONE);
        int[] heavy = new int[12];
        java.util.Arrays.fill(heavy, 9999);
        BellYards all = new BellYards();
        all.parish(0);
        for (int weight : heavy) {
            all.bell(0, weight, 1800, 30);
        }
        setsAre("the greatest sums", all, new int[] {99999, 9999, 30, 30, 4095}, 66 + 12, 1023);
        setsAre("the greatest share", all, new int[] {99999, 9999, 100, 100, 4095}, 0, NONE);
    }

    /** "a set of these (also of none)" */
    private static void setsOfNone() {
        setsAre("none", bells(5), new int[] {0, 0, 0, 0, 1}, 1, 0);
        setsAre("none is in each share", bells(5), new int[] {0, 0, 100, 100, 1}, 1, 0);
        setsAre("none within d", bells(500), new int[] {9, 9, 50, 60, 1}, 1, 0);
        setsAre("none beyond d", bells(500), new int[] {10, 9, 0, 100, 1}, 0, NONE);
        setsAre("none and one", bells(5), new int[] {0, 5, 20, 20, 1}, 2, 0);
        setsAre("all sets of twelve", bells(hundreds(12)), new int[] {3900, 3900, 20, 20, 4095}, 4096, 0);
        setsAre("all but none and all", bells(hundreds(12)), new int[] {3900, 3899, 20, 20, 4095}, 4094, 1);
        setsAre("all but none", bells(hundreds(12)), new int[] {3901, 3900, 20, 20, 4095}, 4095, 1);
    }

    private static void setsLeast() {
        setsAre("the least as bits", bells(300, 100, 200, 100), new int[] {300, 0, 20, 20, 15}, 3, 1);
        setsAre("without the first", bells(300, 100, 200, 100), new int[] {300, 0, 20, 20, 14}, 2, 6);
        setsAre("of the last ones", bells(300, 100, 200, 100), new int[] {300, 0, 20, 20, 12}, 1, 12);
        BellYards x = bells(hundreds(20));
        setsAre("bell 19", x, new int[] {2000, 0, 20, 20, 1 << 19 | 1}, 1, 1 << 19);
    }

    /** WEIGHT and TIN of BELLS never change: what becomes of them is no matter to a BATCH. */
    private static void setsStayAsTheyAre() {
        BellYards x = SOME.made();
        long sets = x.sets(0, 0);
        x.become(3, 4);
        x.bell(0, 400, 1800, 0);
        x.batch(0, 0, 0, 0, 1);
        due("29: as it was", x.sets(0, 0), sets);
    }

    // ---- promise 30: "2 SURELY, 1 MAYBE, 0 not (also where there are no sets). BAD."

    private static void heldLimits() {
        limits("30: batch", SOME, (x, v) -> x.held(v, 0), BAD, 0, 0);
        limits("30: batch of six", ALL, (x, v) -> x.held(v, 0), BAD, 0, 5);
        limits("30: bell", SOME, (x, v) -> x.held(0, v), BAD, 0, 6);
        limits("30: bell of twenty", ALL, (x, v) -> x.held(0, v), BAD, 0, 19);
        refused("30: both wrong", SOME, x -> x.held(1, 7), BAD);
    }

    private static void heldIs(String what, int[] weights, int[] batch, int... want) {
        BellYards x = bells(weights);
        x.batch(batch[0], batch[1], batch[2], batch[3], batch[4]);
        for (int b = 0; b < want.length; b++) {
            due("30: " + what + ", " + b, x.held(0, b), want[b]);
        }
    }

    private static void heldSurelyMaybeNot() {
        int[] weights = {100, 200, 300, 400};
        heldIs("one set", weights, new int[] {300, 0, 20, 20, 11}, 2, 2, 0, 0);
        heldIs("two sets", weights, new int[] {300, 0, 20, 20, 15}, 1, 1, 1, 0);
        heldIs("one in both", weights, new int[] {700, 0, 20, 20, 15}, 1, 1, 1, 2);
        heldIs("the set of none alone", weights, new int[] {0, 99, 20, 20, 15}, 0, 0, 0, 0);
        heldIs("none and one", weights, new int[] {50, 50, 20, 20, 15}, 1, 0, 0, 0);
        heldIs("no sets", weights, new int[] {9000, 0, 20, 20, 15}, 0, 0, 0, 0);
        heldIs("no sets by tin", weights, new int[] {300, 0, 21, 100, 15}, 0, 0, 0, 0);
        heldIs("not told", weights, new int[] {400, 0, 20, 20, 8}, 0, 0, 0, 2);
        heldIs("all", weights, new int[] {1000, 99, 20, 20, 15}, 2, 2, 2, 2);
        int[] twenty = new int[20];
        twenty[19] = 2;
        heldIs("bell 19", hundreds(20), new int[] {2000, 0, 20, 20, 1 << 19 | 1}, twenty);
    }

    // ---- promises 31, 32: "MELTS; NONE. BAD; NULL.", "SHORT in all (what = 0; 1000000000 at most is told),
    //                        the first WEEK (1; NONE), how many BELLS are melted (2). BAD; NULL."

    private static void meltsLimits() {
        limits("31: sheet", SOME, (x, v) -> x.melts(v, 0), BAD, 0, 3);
        limits("31: bell", SOME, (x, v) -> x.melts(2, v), BAD, 0, 6);
        limits("31: bell of twenty", ALL, (x, v) -> x.melts(2, v), BAD, 0, 19);
        beyond("31: BAD before NULL, bell", SOME, (x, v) -> x.melts(3, v), BAD, 0, 6);
        refused("31: both wrong", SOME, x -> x.melts(4, 7), BAD);
    }

    private static void meltsLost() {
        found("31: LOST", SOME, x -> x.melts(3, 0), NULL);
        found("31: LOST, the last bell", SOME, x -> x.melts(3, 6), NULL);
        found("32: LOST", SOME, x -> x.shorts(3, 0), NULL);
        found("32: LOST, what 2", SOME, x -> x.shorts(3, 2), NULL);
    }

    /** Bells that were taken, of these weights. */
    private static BellYards taken(int... weights) {
        BellYards x = bells(weights);
        for (int b = 0; b < weights.length; b++) {
            x.become(b, 2);
        }
        return x;
    }

    private static void meltWeeks(String what, BellYards x, int[] needs, int... weeks) {
        fill(x, 0, 2, needs);
        int melted = 0;
        for (int b = 0; b < weeks.length; b++) {
            due("31: " + what + ", bell " + b, x.melts(0, b), weeks[b]);
            melted += weeks[b] == NONE ? 0 : 1;
        }
        due("32: how many are melted, " + what, x.shorts(0, 2), melted);
    }

    /** "of like ones the heaviest, then the least number" */
    private static void meltsWhich() {
        meltWeeks("the heaviest", taken(100, 300, 200), new int[] {1}, NONE, 0, NONE);
        meltWeeks("then the next", taken(100, 300, 200), new int[] {301}, NONE, 0, 0);
        meltWeeks("of like ones the least", taken(300, 300, 300), new int[] {300, 1}, 0, 1, NONE);
        meltWeeks("all", taken(100, 300, 200), new int[] {600}, 0, 0, 0);
        meltWeeks("all but one", taken(100, 300, 200), new int[] {500}, NONE, 0, 0);
        meltWeeks("none is needed", taken(100, 300, 200), new int[] {0, 0}, NONE, NONE, NONE);
        meltWeeks("below 0 is as 0", taken(100, 300), new int[] {-1, LEAST, -300, 1}, NONE, 3);
        meltWeeks("no items", taken(100, 300), new int[] {}, NONE, NONE);
    }

    /** "of those that are TAKEN or in a YARD in the WEEK that it is" */
    private static void meltsStates() {
        for (int state = 0; state <= 5; state++) {
            BellYards x = bells(100);
            for (int next : WAYS[state]) {
                x.become(0, next);
            }
            boolean may = state == 2 || state == 3;
            meltWeeks("of state " + state, x, new int[] {0, 50}, may ? 1 : NONE);
            due("32: short of state " + state, x.shorts(0, 0), may ? 0 : 50);
            due("32: week of state " + state, x.shorts(0, 1), may ? NONE : 1);
            x.pass(9);
            due("31: in a later week", x.melts(0, 0), may ? 1 : NONE);
        }
    }

    /** "the least LETTER by LAWS of that WEEK of need" */
    private static void meltsLetters() {
        BellYards x = new BellYards();
        x.parish(0);
        for (int b = 0; b < 4; b++) {
            x.bell(0, 100 * (b + 1), 1900 - b, 20);
            x.become(b, 2);
        }
        meltWeeks("all are D", x, new int[] {1, 400, 300, 200}, 3, 2, 1, 0);
        type(x, "a=1900,1;b=1899,1;c=1898,1");
        meltWeeks("A, B, C, D", x, new int[] {1, 101, 201, 301}, 0, 1, 2, 3);
        x.wipe();
        type(x, "a=1900,1@1;b=1899,1@2");
        meltWeeks("of the week of need", x, new int[] {1, 400, 100, 200}, 1, 2, 3, 0);
        x.wipe();
        type(x, "c=1900,1@59");
        x.pass(100);
        meltWeeks("not of the week that it is", x, new int[] {1}, NONE, NONE, NONE, 0);
        x.sheet(0, 2, 60);
        x.put(0, 2, 59, 1);
        due("31: of week 59", x.melts(0, 0), 59);
        x.sheet(0, 2, 59);
        x.put(0, 2, 58, 1);
        due("31: of week 58", x.melts(0, 3), 58);
        type(x, "?");
        x.sheet(0, 2, 60);
        x.put(0, 2, 59, 1);
        due("31: with a fault all are D", x.melts(0, 3), 59);
    }

    /** "stock is more by its WEIGHT .. Else stock is less by what was needed." */
    private static void meltsStock() {
        meltWeeks("stock is left", taken(100, 300), new int[] {250, 50}, NONE, 0);
        meltWeeks("stock is below", taken(100, 300), new int[] {250, 51}, 1, 0);
        meltWeeks("stock goes on", taken(100, 300), new int[] {100, 100, 100, 100}, 3, 0);
        BellYards x = taken(100, 300);
        meltWeeks("with none left", x, new int[] {401, 1}, 0, 0);
        due("32: stock is 0 then", x.shorts(0, 0), 2);
        due("32: the first week", x.shorts(0, 1), 0);
        meltWeeks("just enough", x, new int[] {400, 0, 1}, 0, 0);
        due("32: what lacks", x.shorts(0, 0), 1);
        due("32: the week of it", x.shorts(0, 1), 2);
        meltWeeks("short, and then nothing needed", x, new int[] {0, 500, 0, -5}, 1, 1);
        due("32: by what lacks", x.shorts(0, 0), 100);
        due("32: in week 1", x.shorts(0, 1), 1);
        due("31: nothing was melted by that", x.about(0, 4), 2);
        due("32: and it answers so again", x.shorts(0, 0), 100);
    }

    private static void shortsLimits() {
        limits("32: sheet", SOME, (x, v) -> x.shorts(v, 0), BAD, 0, 3);
        limits("32: what", SOME, (x, v) -> x.shorts(2, v), BAD, 0, 2);
        beyond("32: BAD before NULL, what", SOME, (x, v) -> x.shorts(3, v), BAD, 0, 2);
        refused("32: both wrong", SOME, x -> x.shorts(4, 3), BAD);
    }

    private static void shortsAre(String what, BellYards x, int inAll, int week, int melted) {
        due("32: " + what + ", in all", x.shorts(0, 0), inAll);
        due("32: " + what + ", first week", x.shorts(0, 1), week);
        due("32: " + what + ", melted", x.shorts(0, 2), melted);
    }

    private static void shortsItems() {
        BellYards x = NEW.made();
        x.sheet(0, 2, 0);
        shortsAre("no items", x, 0, NONE, 0);
        x.sheet(0, 2, 60);
        shortsAre("items of 0", x, 0, NONE, 0);
        x.put(0, 2, 59, 7);
        shortsAre("the last item", x, 7, 59, 0);
        x.put(0, 2, 0, 5);
        shortsAre("the first item, too", x, 12, 0, 0);
        x.put(0, 2, 0, LEAST);
        shortsAre("the least int is as 0", x, 7, 59, 0);
        x.sheet(0, 0, 2);
        x.put(0, 0, 0, 200);
        x.put(0, 0, 1, 127);
        shortsAre("bytes", x, 127, 1, 0);
        x.sheet(0, 1, 2);
        x.put(0, 1, 0, 40000);
        x.put(0, 1, 1, 32767);
        shortsAre("shorts", x, 32767, 1, 0);
    }

    private static void shortsInAll() {
        BellYards x = taken(100);
        fill(x, 0, 2, 100);
        shortsAre("just enough", x, 0, NONE, 1);
        fill(x, 0, 2, 101);
        shortsAre("one lacks", x, 1, 0, 1);
        fill(x, 0, 2, 40, 61, 5, 0, 7);
        shortsAre("three weeks are short", x, 1 + 5 + 7, 1, 1);
    }

    /** "1000000000 at most is told" */
    private static void shortsMost() {
        for (int need : new int[] {999999999, 1000000000, 1000000001, GREATEST}) {
            BellYards x = NEW.made();
            fill(x, 0, 2, 0, need);
            shortsAre("of " + need, x, Math.min(need, 1000000000), 1, 0);
        }
        BellYards x = NEW.made();
        fill(x, 0, 2, 500000000, 499999999);
        shortsAre("together, below", x, 999999999, 0, 0);
        fill(x, 0, 2, 500000000, 500000001);
        shortsAre("together, above", x, 1000000000, 0, 0);
        x.sheet(0, 2, 60);
        for (int i = 0; i < 60; i++) {
            x.put(0, 2, i, GREATEST);
        }
        shortsAre("sixty times the greatest int", x, 1000000000, 0, 0);
        BellYards y = taken(9999);
        fill(y, 0, 2, GREATEST, GREATEST, GREATEST);
        shortsAre("three times, and one bell", y, 1000000000, 0, 1);
    }

    private static void shortsAllPlaces() {
        BellYards x = taken(hundreds(20));
        fill(x, 0, 2, 21000);
        shortsAre("all of twenty", x, 0, NONE, 20);
        fill(x, 0, 2, 20900);
        shortsAre("all but the lightest", x, 0, NONE, 19);
        fill(x, 0, 2, 21001);
        shortsAre("one lacks of twenty", x, 1, 0, 20);
    }

    // ---- promise 33: "DAYS (what = 0), DUE (1) of a BELL: what they were. BAD."

    private static void sendLimits() {
        limits("33: bell", SOME, (x, v) -> x.send(v, 0, 7), BAD, 0, 6);
        limits("33: bell of twenty", ALL, (x, v) -> x.send(v, 1, 7), BAD, 0, 19);
        limits("33: what", SOME, (x, v) -> x.send(3, v, 7), BAD, 0, 1);
        limits("33: DAYS", SOME, (x, v) -> x.send(3, 0, v), BAD, 1, 99);
        limits("33: DUE", SOME, (x, v) -> x.send(3, 1, v), BAD, 0, 999);
        refused("33: DAYS of 0", SOME, x -> x.send(3, 0, 0), BAD);
        refused("33: a DUE as DAYS", SOME, x -> x.send(3, 0, 999), BAD);
        refused("33: all wrong", SOME, x -> x.send(7, 2, -1), BAD);
    }

    private static void sendTells() {
        BellYards x = bells(10, 20);
        due("33: DAYS at first", x.send(1, 0, 99), 5);
        due("33: DUE at first", x.send(1, 1, 0), 999);
        due("33: DAYS were 99", x.send(1, 0, 1), 99);
        due("33: DUE was 0", x.send(1, 1, 999), 0);
        due("33: DAYS were 1", x.send(1, 0, 1), 1);
        due("33: DUE was 999", x.send(1, 1, 999), 999);
        due("33: the other one's DAYS", x.about(0, 7), 5);
        due("33: the other one's DUE", x.about(0, 8), 999);
    }

    // ---- promise 34: "SENDING: 0 which BELLS, as bits, 1 how many, 2 their WEIGHT. BAD."

    private static void sentLimits() {
        limits("34: what", SOME, (x, v) -> x.sent(v), BAD, 0, 2);
        beyond("34: what, none there", NEW, (x, v) -> x.sent(v), BAD, 0, 2);
    }

    private static void sentAre(String what, BellYards x, int bits, int weight) {
        due("34: " + what + ", which", x.sent(0), bits);
        due("34: " + what + ", how many", x.sent(1), Integer.bitCount(bits));
        due("34: " + what + ", weight", x.sent(2), weight);
    }

    private static BellYards sending(int[] weights, int[] days, int[] dues) {
        BellYards x = yard(weights);
        for (int b = 0; b < weights.length; b++) {
            x.send(b, 0, days[b]);
            x.send(b, 1, dues[b]);
        }
        return x;
    }

    private static void sentNone() {
        sentAre("no bells", NEW.made(), 0, 0);
        sentAre("none in a yard", bells(5, 6), 0, 0);
        sentAre("none in time", sending(new int[] {5}, new int[] {1}, new int[] {0}), 0, 0);
        sentAre("one", yard(9999), 1, 9999);
    }

    /** "one after the other, from DAY 0 on: .. by their DUE" */
    private static void sentInTime() {
        for (int days : new int[] {1, 2, 50, 98, 99}) {
            sentAre("just in time", sending(new int[] {7}, new int[] {days}, new int[] {days}), 1, 7);
            sentAre("a day too late", sending(new int[] {7}, new int[] {days}, new int[] {days - 1}), 0, 0);
        }
        int[] two = {7, 8};
        sentAre("both, in turn", sending(two, new int[] {10, 20}, new int[] {30, 20}), 3, 15);
        sentAre("both, the other way", sending(two, new int[] {10, 20}, new int[] {10, 30}), 3, 15);
        sentAre("a day less for both", sending(two, new int[] {10, 20}, new int[] {29, 20}), 2, 8);
        sentAre("a day less the other way", sending(two, new int[] {10, 20}, new int[] {10, 29}), 2, 8);
        sentAre("only the first", sending(two, new int[] {10, 20}, new int[] {10, 19}), 1, 7);
        int[] ten = new int[10];
        int[] days = new int[10];
        int[] dues = new int[10];
        for (int b = 0; b < 10; b++) {
            ten[b] = 9999;
            days[b] = 99;
            dues[b] = 99 * (10 - b);
        }
        sentAre("all ten in turn", sending(ten, days, dues), 1023, 99990);
        dues[0] = 989;
        sentAre("nine in turn, of like ones the least", sending(ten, days, dues), 511, 9 * 9999);
    }

    /** "Of BELLS in a YARD in the WEEK that it is, the first 10" */
    private static void sentFirstTen() {
        BellYards ten = yard(hundreds(10));
        sentAre("ten", ten, 1023, 5500);
        BellYards eleven = yard(hundreds(11));
        sentAre("the first ten of eleven", eleven, 1023, 5500);
        eleven.become(0, 4);
        sentAre("now the eleventh, too", eleven, 2046, 6500);
        BellYards twenty = yard(hundreds(20));
        sentAre("the first ten of twenty", twenty, 1023, 5500);
        for (int b = 0; b < 10; b++) {
            twenty.send(b, 1, 0);
        }
        sentAre("the first ten alone, though too late", twenty, 0, 0);
        for (int b = 0; b < 10; b++) {
            twenty.become(b, 5);
        }
        sentAre("the last ten", twenty, 1023 << 10, 15500);
    }

    /** "the most that can be sent" before "the greatest WEIGHT together" */
    private static void sentMost() {
        int[] weights = {9000, 1, 1};
        sentAre("two light ones before one heavy", sending(weights, new int[] {10, 5, 5}, new int[] {10, 10, 10}), 6, 2);
        sentAre("behind two light ones", sending(new int[] {1, 1, 9000}, new int[] {5, 5, 10}, new int[] {10, 10, 10}), 3, 2);
        sentAre("between them", sending(new int[] {1, 9000, 1}, new int[] {5, 10, 5}, new int[] {10, 10, 10}), 5, 2);
        sentAre("one fits beside it", sending(weights, new int[] {5, 5, 5}, new int[] {10, 10, 10}), 3, 9001);
        sentAre("all three", sending(weights, new int[] {5, 5, 5}, new int[] {15, 10, 10}), 7, 9002);
    }

    /** "of like ones the greatest WEIGHT together, then the least as bits" */
    private static void sentLikeOnes() {
        int[] fives = {5, 5, 5, 5};
        int[] tens = {10, 10, 10, 10};
        sentAre("the greatest weight", sending(new int[] {1, 3, 2, 4}, fives, tens), 10, 7);
        sentAre("the least as bits", sending(new int[] {3, 3, 3, 3}, fives, tens), 3, 6);
        sentAre("the least as bits, in any order", sending(new int[] {1, 4, 2, 3}, fives, new int[] {10, 5, 10, 10}), 10, 7);
        sentAre("1 and 4, or 2 and 3", sending(new int[] {1, 2, 3, 4}, fives, new int[] {10, 10, 5, 5}), 10, 6);
        sentAre("like weights of unlike bells", sending(new int[] {1, 2, 2, 3}, fives, new int[] {5, 10, 5, 10}), 10, 5);
        sentAre("bits before order of DUE", sending(new int[] {3, 3, 3, 3}, fives, new int[] {9, 8, 7, 6}), 1, 3);
    }

    private static void sentStates() {
        for (int state = 0; state <= 5; state++) {
            BellYards x = bells(100);
            for (int next : WAYS[state]) {
                x.become(0, next);
            }
            sentAre("of state " + state, x, state == 3 ? 1 : 0, state == 3 ? 100 : 0);
            x.pass(1);
            sentAre("a week later, of state " + state, x, state == 3 ? 1 : 0, state == 3 ? 100 : 0);
        }
        BellYards x = yard(100);
        x.sent(0);
        due("34: nothing was sent by that", x.about(0, 4), 3);
    }

    // ---- promise 35: "A CLAIM more: how many. BAD; FULL."

    private static void claimLimits() {
        limits("35: parish", SOME, (x, v) -> x.claim(v, 3, 1, 5), BAD, 0, 2);
        limits("35: bell", SOME, (x, v) -> x.claim(0, v, 1, 5), BAD, 0, 6);
        limits("35: proof", SOME, (x, v) -> x.claim(0, 3, v, 5), BAD, 0, 4);
        limits("35: week", SOME, (x, v) -> x.claim(0, 3, 1, v), BAD, 0, 199);
        due("35: told in a week to come", SOME.made().claim(0, 3, 1, 7), 4);
        refused("35: all wrong", SOME, x -> x.claim(3, 7, 5, 200), BAD);
    }

    private static void claimThirtyAtMost() {
        BellYards x = bells(5);
        for (int c = 1; c <= 30; c++) {
            due("35: how many", x.claim(0, 0, 4, 199), c);
            due("35: CLAIMS", x.count(7), c);
        }
        refused("35: a thirty-first", ALL, y -> y.claim(7, 19, 4, 199), FULL);
        refused("35: the least of all", ALL, y -> y.claim(0, 0, 0, 0), FULL);
    }

    private static void claimOrder() {
        beyond("35: BAD before FULL, parish", ALL, (x, v) -> x.claim(v, 3, 1, 5), BAD, 0, 7);
        beyond("35: BAD before FULL, bell", ALL, (x, v) -> x.claim(0, v, 1, 5), BAD, 0, 19);
        beyond("35: BAD before FULL, proof", ALL, (x, v) -> x.claim(0, 3, v, 5), BAD, 0, 4);
        beyond("35: BAD before FULL, week", ALL, (x, v) -> x.claim(0, 3, 1, v), BAD, 0, 199);
    }

    // ---- promise 36: "RANK of a PROOF: what it was. BAD."

    private static void rankLimits() {
        limits("36: proof", SOME, (x, v) -> x.rank(v, 5), BAD, 0, 4);
        limits("36: rank", SOME, (x, v) -> x.rank(1, v), BAD, 0, 9);
        refused("36: both wrong", SOME, x -> x.rank(5, 10), BAD);
    }

    private static void rankTells() {
        for (int proof = 0; proof <= 4; proof++) {
            BellYards x = NEW.made();
            due("36: its own number at first", x.rank(proof, 9), proof);
            due("36: it was 9", x.rank(proof, 0), 9);
            due("36: it was 0", x.rank(proof, 0), 0);
            for (int other = 0; other <= 4; other++) {
                due("36: the others", x.rank(other, 5), other == proof ? 0 : other);
            }
        }
    }

    // ---- promise 37: "WHOSE a BELL is as of a WEEK; QUARREL -1. BAD; NOT."

    private static void whoseLimits() {
        limits("37: bell", SOME, (x, v) -> x.whose(v, 5), BAD, 0, 6);
        limits("37: bell of twenty", ALL, (x, v) -> x.whose(v, 5), BAD, 0, 19);
        limits("37: week", SOME, (x, v) -> x.whose(3, v), BAD, 0, 199);
        beyond("37: BAD before NOT, week", SOME, (x, v) -> x.whose(0, v), BAD, 0, 199);
        refused("37: both wrong", SOME, x -> x.whose(7, 200), BAD);
    }

    /** Eight parishes, two of each land, and two bells. */
    private static BellYards claimed(int[]... claims) {
        BellYards x = new BellYards();
        for (int p = 0; p < 8; p++) {
            x.parish(p / 2);
        }
        x.bell(0, 100, 1800, 20);
        x.bell(1, 200, 1800, 20);
        for (int[] c : claims) {
            x.claim(c[0], c[1], c[2], c[3]);
        }
        return x;
    }

    /** "NOT without any" */
    private static void whoseNotBeforeAny() {
        refused("37: without any", () -> claimed(), x -> x.whose(0, 199), NOT);
        Make one = () -> claimed(new int[] {7, 1, 4, 10});
        refused("37: the week before", one, x -> x.whose(1, 9), NOT);
        refused("37: week 0", one, x -> x.whose(1, 0), NOT);
        refused("37: the other bell", one, x -> x.whose(0, 199), NOT);
        due("37: its week", one.made().whose(1, 10), 7);
        due("37: week 199", one.made().whose(1, 199), 7);
        due("37: told in week 199", claimed(new int[] {0, 0, 0, 199}).whose(0, 199), 0);
        due("37: week 198", claimed(new int[] {0, 0, 0, 199}).whose(0, 198), NOT);
        due("37: told in week 0", claimed(new int[] {0, 0, 0, 0}).whose(0, 0), 0);
    }

    /** "of CLAIMS told up to it those with the best RANK: the PARISH, if it is one alone" */
    private static void whoseBestRank() {
        BellYards x = claimed(new int[] {3, 0, 2, 0}, new int[] {4, 0, 1, 5}, new int[] {5, 0, 3, 0});
        due("37: before the better one", x.whose(0, 4), 3);
        due("37: the better one", x.whose(0, 5), 4);
        x.rank(3, 0);
        due("37: a better RANK now", x.whose(0, 5), 5);
        x.rank(3, 9);
        x.rank(2, 9);
        x.rank(1, 9);
        due("37: all of RANK 9", x.whose(0, 5), -1);
        x.rank(1, 8);
        due("37: RANK 8 before 9", x.whose(0, 5), 4);
        BellYards nine = claimed(new int[] {6, 0, 4, 0});
        nine.rank(4, 9);
        due("37: RANK 9 alone", nine.whose(0, 0), 6);
        BellYards later = claimed(new int[] {0, 0, 1, 9}, new int[] {1, 0, 1, 3});
        due("37: told behind, of an earlier week", later.whose(0, 8), 1);
        due("37: both then", later.whose(0, 9), -1);
    }

    /** "QUARREL (-1) if there are several" */
    private static void whoseQuarrel() {
        int[] one = {2, 0, 1, 0};
        int[] other = {3, 0, 1, 0};
        due("37: two", claimed(one, other).whose(0, 0), -1);
        due("37: two, the other way", claimed(other, one).whose(0, 0), -1);
        due("37: one twice", claimed(one, one).whose(0, 0), 2);
        due("37: one twice, and another", claimed(one, one, other).whose(0, 0), -1);
        due("37: one, another, and one again", claimed(one, other, one).whose(0, 0), -1);
        due("37: two, and a better one", claimed(one, other, new int[] {4, 0, 0, 0}).whose(0, 0), 4);
        due("37: two, and a better one of them", claimed(one, other, new int[] {3, 0, 0, 0}).whose(0, 0), 3);
        due("37: two, and a worse one", claimed(one, other, new int[] {3, 0, 2, 0}).whose(0, 0), -1);
        due("37: a worse one first", claimed(new int[] {3, 0, 2, 0}, one).whose(0, 0), 2);
        due("37: of the other bell", claimed(one, new int[] {3, 1, 1, 0}).whose(0, 0), 2);
        BellYards x = claimed(one, new int[] {3, 0, 2, 0});
        x.rank(2, 1);
        due("37: like RANKS of unlike PROOFS", x.whose(0, 0), -1);
        BellYards y = claimed(one, new int[] {2, 0, 2, 0});
        y.rank(2, 1);
        due("37: like RANKS, one PARISH", y.whose(0, 0), 2);
    }

    // ---- promise 38: "LANDS that claim a BELL as of a WEEK (of all CLAIMS told up to it). BAD."

    private static void landsLimits() {
        limits("38: bell", SOME, (x, v) -> x.lands(v, 5), BAD, 0, 6);
        limits("38: bell of twenty", ALL, (x, v) -> x.lands(v, 5), BAD, 0, 19);
        limits("38: week", SOME, (x, v) -> x.lands(3, v), BAD, 0, 199);
        refused("38: both wrong", SOME, x -> x.lands(7, 200), BAD);
    }

    private static void landsCounted() {
        due("38: without any", claimed().lands(0, 199), 0);
        BellYards x = claimed(new int[] {0, 0, 4, 1}, new int[] {1, 0, 0, 2}, new int[] {2, 0, 4, 3},
            new int[] {4, 0, 0, 4}, new int[] {6, 0, 1, 5}, new int[] {7, 0, 1, 199}, new int[] {3, 1, 0, 0});
        int[] want = {0, 1, 1, 2, 3, 4};
        for (int week = 0; week <= 5; week++) {
            due("38: in week " + week, x.lands(0, week), want[week]);
        }
        due("38: four at most", x.lands(0, 199), 4);
        due("38: the other bell's", x.lands(1, 199), 1);
        x.rank(4, 9);
        due("38: of all CLAIMS, not of the best alone", x.lands(0, 5), 4);
        x.moved(6, 0);
        due("38: of the LAND that it is in now", x.lands(0, 5), 3);
        due("38: another of the LAND left", x.lands(0, 199), 4);
        BellYards same = claimed(new int[] {0, 0, 1, 0}, new int[] {1, 0, 1, 0});
        due("38: a QUARREL within one LAND", same.lands(0, 0), 1);
        due("37: is a QUARREL", same.whose(0, 0), -1);
    }

    private static void questionsChangeNothing() {
        for (Make make : new Make[] {SOME, ALL}) {
            asks("29: sets", make, x -> x.sets(0, 1));
            asks("30: held", make, x -> x.held(0, 3));
            asks("31: melts", make, x -> x.melts(2, 3));
            asks("32: shorts", make, x -> x.shorts(2, 0));
            asks("34: sent", make, x -> x.sent(0));
            asks("37: whose", make, x -> x.whose(3, 5));
            asks("38: lands", make, x -> x.lands(3, 5));
        }
    }
}
