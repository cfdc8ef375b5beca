import java.math.BigInteger;

/** Edges of promises 39 to 46, and of what 'Terms' 1 say of SHEETS and FINDINGS. */
public final class BellYardsEdgesSheets extends Edge {
    public static void main(String[] args) {
        sheetLimits();
        sheetSizes();
        sheetIsNew();
        sheetOrder();
        loseLimits();
        loseTells();
        putLimits();
        putFindings();
        putOrder();
        putLowestBits();
        getLimits();
        getFindings();
        getOrder();
        getItems();
        copyLimits();
        copyFindings();
        copyOrder();
        copyIndices();
        copyAsTheyWere();
        copyForms();
        writeLimits();
        writeAsManyAsThereAre();
        findingsTellTheLatest();
        countLimits();
        countStates();
        countFull();
        digestOfEach();
        digestWraps();
        digestLeavesOut();
        questionsChangeNothing();
        end();
    }

    /** One sheet of a form with so many items, and the others LOST. */
    private static Make row(int form, int items) {
        return () -> {
            BellYards x = NEW.made();
            x.sheet(0, form, items);
            return x;
        };
    }

    // ---- promise 39: "A SHEET is a new row of a FORM with n items: n. BAD: SHEET, FORM, above 60; SIZE."

    private static void sheetLimits() {
        limits("39: sheet", SOME, (x, v) -> x.sheet(v, 1, 5), BAD, 0, 3);
        limits("39: form", SOME, (x, v) -> x.sheet(1, v, 5), BAD, 0, 2);
        for (int n : new int[] {61, 62, 100, 256, 65536, GREATEST - 1, GREATEST}) {
            refused("39: " + n + " items", SOME, x -> x.sheet(1, 1, n), BAD);
            refused("39: " + n + " items of a LOST one", SOME, x -> x.sheet(3, 2, n), BAD);
        }
        for (int n : new int[] {-1, -2, -60, LEAST, LEAST + 1}) {
            found("39: " + n + " items", SOME, x -> x.sheet(1, 1, n), SIZE);
            found("39: " + n + " items of a LOST one", NEW, x -> x.sheet(1, 2, n), SIZE);
        }
    }

    private static void sheetSizes() {
        for (int form = 0; form <= 2; form++) {
            for (int n : new int[] {0, 1, 59, 60}) {
                BellYards x = NEW.made();
                due("39: n", x.sheet(3, form, n), n);
                due("40: so many", x.lose(3), n);
                if (n > 0) {
                    due("42: the last item is 0 at first", row(form, n).made().get(0, form, n - 1), 0);
                    due("41: the last item", row(form, n).made().put(0, form, n - 1, 5), 1);
                }
                int as = form;
                found("42: none behind the last", row(form, n), y -> y.get(0, as, n), INDEX, LEAST);
            }
        }
    }

    private static void sheetIsNew() {
        for (int form = 0; form <= 2; form++) {
            BellYards x = SOME.made();
            due("39: instead of the old one", x.sheet(2, form, 60), 60);
            for (int i = 0; i < 60; i++) {
                due("39: each item is 0", x.get(2, form, i), 0);
            }
            due("39: smaller", x.sheet(2, form, 1), 1);
            x.put(2, form, 0, 7);
            due("39: of no items", x.sheet(2, form, 0), 0);
            due("39: and greater", x.sheet(2, form, 2), 2);
            due("39: 0 again", x.get(2, form, 0), 0);
            due("39: a LOST one", x.sheet(3, form, 3), 3);
            due("39: is there", x.put(3, form, 2, 1), 1);
            due("39: the others are as they were", x.get(0, 0, 1), -2);
        }
    }

    private static void sheetOrder() {
        refused("39: BAD before SIZE, sheet", SOME, x -> x.sheet(4, 1, -1), BAD);
        refused("39: BAD before SIZE, sheet -1", SOME, x -> x.sheet(-1, 1, LEAST), BAD);
        refused("39: BAD before SIZE, form", SOME, x -> x.sheet(1, 3, -1), BAD);
        refused("39: BAD before SIZE, form -1", SOME, x -> x.sheet(1, -1, LEAST), BAD);
        refused("39: all wrong", SOME, x -> x.sheet(4, 3, 61), BAD);
    }

    // ---- promise 40: "It is LOST: how many items it had. BAD; NULL."

    private static void loseLimits() {
        limits("40: sheet", SOME, (x, v) -> x.lose(v), BAD, 0, 3);
        found("40: LOST", SOME, x -> x.lose(3), NULL);
        found("40: LOST again", after(SOME, x -> x.lose(0)), x -> x.lose(0), NULL);
    }

    private static void loseTells() {
        due("40: bytes", SOME.made().lose(0), 6);
        due("40: shorts", SOME.made().lose(1), 6);
        due("40: ints", SOME.made().lose(2), 8);
        due("40: sixty", ALL.made().lose(2), 60);
        due("40: none", row(1, 0).made().lose(0), 0);
        Make lost = after(SOME, x -> x.lose(1));
        found("40: then read", lost, x -> x.read(1), NULL);
        found("40: then put", lost, x -> x.put(1, 1, 0, 1), NULL);
        found("40: then get", lost, x -> x.get(1, 1, 0), NULL, LEAST);
        found("40: then write", lost, x -> x.write(1, 0), NULL);
        found("40: then shorts", lost, x -> x.shorts(1, 0), NULL);
        due("40: the others are not", lost.made().lose(0), 6);
        due("40: and it may be new", lost.made().sheet(1, 0, 1), 1);
    }

    // ---- promise 41: "Item i, treated as of a FORM, becomes v (the lowest bits that it has): 1.
    //                   BAD; NULL; CAST; INDEX."

    private static void putLimits() {
        limits("41: sheet", SOME, (x, v) -> x.put(v, 1, 0, 5), BAD, 0, 3);
        limits("41: form", SOME, (x, v) -> x.put(1, v, 0, 5), BAD, 0, 2);
        due("41: the first", SOME.made().put(1, 1, 0, 5), 1);
        due("41: the last", SOME.made().put(1, 1, 5, 5), 1);
    }

    private static void putFindings() {
        found("41: LOST", SOME, x -> x.put(3, 1, 0, 5), NULL);
        for (int form = 0; form <= 2; form++) {
            int s = form;
            for (int other = 0; other <= 2; other++) {
                int as = other;
                if (other != form) {
                    found("41: form " + form + " as " + other, SOME, x -> x.put(s, as, 0, 5), CAST);
                }
            }
            int items = form == 2 ? 8 : 6;
            for (int i : new int[] {-1, items, items + 1, 60, 61, LEAST, GREATEST}) {
                found("41: no item " + i, SOME, x -> x.put(s, s, i, 5), INDEX);
            }
            found("41: no items", row(form, 0), x -> x.put(0, s, 0, 5), INDEX);
            found("41: behind sixty", ALL, x -> x.put(s, s, 60, 5), INDEX);
            due("41: the last of sixty", ALL.made().put(s, s, 59, 5), 1);
        }
    }

    private static void putOrder() {
        refused("41: BAD before NULL, form", SOME, x -> x.put(3, 3, 0, 5), BAD);
        refused("41: BAD before CAST and INDEX, form", SOME, x -> x.put(1, -1, 99, 5), BAD);
        refused("41: BAD before all, sheet", SOME, x -> x.put(4, 0, -1, 5), BAD);
        found("41: NULL before INDEX", SOME, x -> x.put(3, 1, -1, 5), NULL);
        found("41: NULL before CAST", after(SOME, x -> x.lose(1)), x -> x.put(1, 2, 0, 5), NULL);
        found("41: CAST before INDEX", SOME, x -> x.put(1, 2, 6, 5), CAST);
        found("41: CAST before INDEX, below 0", SOME, x -> x.put(1, 0, -1, 5), CAST);
        found("41: CAST before INDEX, no items", row(1, 0), x -> x.put(0, 0, 0, 5), CAST);
    }

    private static void putLowestBits() {
        int[] values = {0, 1, -1, 127, 128, 255, 256, -128, -129, 32767, 32768, 65535, 65536, -32768, -32769,
            GREATEST, LEAST, LEAST + 1, 0x12345678};
        for (int value : values) {
            int[] want = {(byte) value, (short) value, value};
            for (int form = 0; form <= 2; form++) {
                BellYards x = row(form, 3).made();
                due("41: put " + value, x.put(0, form, 1, value), 1);
                due("42: form " + form + " of " + value, x.get(0, form, 1), want[form]);
                due("42: the one before", x.get(0, form, 0), 0);
                due("42: the one behind", x.get(0, form, 2), 0);
                due("41: no finding", x.count(8), 0);
            }
        }
    }

    // ---- promise 42: "Item i of it. BAD: the least int; so are NULL, CAST, INDEX (count() 8 tells)."

    private static void getLimits() {
        limits("42: sheet", after(SOME, x -> x.sheet(3, 1, 1)), (x, v) -> x.get(v, v == 0 ? 0 : 1, 0), LEAST, 0, 3);
        for (int form : new int[] {-1, 3, LEAST, GREATEST}) {
            refused("42: form " + form, SOME, x -> x.get(1, form, 0), LEAST);
            refused("42: form " + form + " of a LOST one", SOME, x -> x.get(3, form, 0), LEAST);
        }
    }

    private static void getFindings() {
        found("42: LOST", SOME, x -> x.get(3, 1, 0), NULL, LEAST);
        for (int form = 0; form <= 2; form++) {
            int s = form;
            for (int other = 0; other <= 2; other++) {
                int as = other;
                if (other != form) {
                    found("42: form " + form + " as " + other, SOME, x -> x.get(s, as, 0), CAST, LEAST);
                }
            }
            int items = form == 2 ? 8 : 6;
            for (int i : new int[] {-1, items, items + 1, 60, 61, LEAST, GREATEST}) {
                found("42: no item " + i, SOME, x -> x.get(s, s, i), INDEX, LEAST);
            }
            found("42: no items", row(form, 0), x -> x.get(0, s, 0), INDEX, LEAST);
            found("42: behind sixty", ALL, x -> x.get(s, s, 60), INDEX, LEAST);
        }
    }

    private static void getOrder() {
        refused("42: BAD before NULL, form", SOME, x -> x.get(3, 3, 0), LEAST);
        refused("42: BAD before CAST and INDEX", SOME, x -> x.get(1, -1, 99), LEAST);
        refused("42: BAD before all, sheet", SOME, x -> x.get(4, 0, -1), LEAST);
        found("42: NULL before INDEX", SOME, x -> x.get(3, 1, -1), NULL, LEAST);
        found("42: NULL before CAST", after(SOME, x -> x.lose(1)), x -> x.get(1, 2, 0), NULL, LEAST);
        found("42: CAST before INDEX", SOME, x -> x.get(1, 2, 6), CAST, LEAST);
        found("42: CAST before INDEX, below 0", SOME, x -> x.get(1, 0, -1), CAST, LEAST);
        found("42: CAST before INDEX, no items", row(1, 0), x -> x.get(0, 0, 0), CAST, LEAST);
    }

    private static void getItems() {
        int[][] items = {{1, -2, 3, 4, 5, 6}, {0, 10, 1900, 1, 300, -5}, {503, -1, -1, -1, -1, 1000, 7, 8}};
        for (int form = 0; form <= 2; form++) {
            for (int i = 0; i < items[form].length; i++) {
                due("42: item " + i + " of form " + form, SOME.made().get(form, form, i), items[form][i]);
            }
            due("42: the last of sixty", ALL.made().get(form, form, 59), 100 + form);
        }
        BellYards x = SOME.made();
        x.put(2, 2, 0, LEAST);
        x.sheet(0, 0, -1);
        due("42: an item that is the least int", x.get(2, 2, 0), LEAST);
        due("42: is no finding", x.count(8), SIZE);
    }

    // ---- promise 43: "n items of SHEET s, from i on, come to SHEET t (perhaps s, as they were), from j on: 1.
    //                   BAD: the SHEETS; NULL: s, t; STORE; INDEX: below 0, not so many."

    private static void copyLimits() {
        limits("43: s", SOME, (x, v) -> x.copy(v, 0, 1, 0, 1), BAD, 0, 3);
        limits("43: t", SOME, (x, v) -> x.copy(1, 0, v, 0, 1), BAD, 0, 3);
        refused("43: both", SOME, x -> x.copy(-1, 0, 4, 0, 1), BAD);
    }

    private static void copyFindings() {
        found("43: s is LOST", SOME, x -> x.copy(3, 0, 0, 0, 1), NULL);
        found("43: t is LOST", SOME, x -> x.copy(0, 0, 3, 0, 1), NULL);
        found("43: both are LOST", SOME, x -> x.copy(3, 0, 3, 0, 1), NULL);
        for (int s = 0; s <= 2; s++) {
            for (int t = 0; t <= 2; t++) {
                int from = s;
                int to = t;
                if (s != t) {
                    found("43: unlike FORMS " + s + ", " + t, SOME, x -> x.copy(from, 0, to, 0, 1), STORE);
                }
            }
        }
    }

    private static void copyOrder() {
        refused("43: BAD before NULL, t", SOME, x -> x.copy(3, 0, 4, 0, 1), BAD);
        refused("43: BAD before NULL, s", SOME, x -> x.copy(4, 0, 3, 0, 1), BAD);
        refused("43: BAD before INDEX", SOME, x -> x.copy(0, -1, 4, -1, -1), BAD);
        found("43: NULL before INDEX, s", SOME, x -> x.copy(3, -1, 0, 0, 1), NULL);
        found("43: NULL before INDEX, t", SOME, x -> x.copy(0, 9, 3, 0, 1), NULL);
        found("43: NULL before STORE", after(SOME, x -> x.lose(1)), x -> x.copy(0, 0, 1, 0, 1), NULL);
        found("43: NULL before STORE, s", after(SOME, x -> x.lose(1)), x -> x.copy(1, 0, 2, 0, 1), NULL);
        found("43: STORE before INDEX, i", SOME, x -> x.copy(0, -1, 1, 0, 1), STORE);
        found("43: STORE before INDEX, j", SOME, x -> x.copy(0, 0, 1, 99, 1), STORE);
        found("43: STORE before INDEX, n", SOME, x -> x.copy(0, 0, 1, 0, -1), STORE);
        found("43: STORE, though n is 0", SOME, x -> x.copy(0, 0, 1, 0, 0), STORE);
    }

    /** Sheets 0 and 1 are ints of five and of three items; sheet 3 is LOST. */
    private static BellYards twoRows() {
        BellYards x = NEW.made();
        fill(x, 0, 2, 1, 2, 3, 4, 5);
        fill(x, 1, 2, 6, 7, 8);
        return x;
    }

    private static final Make TWO = BellYardsEdgesSheets::twoRows;

    private static void copyIndices() {
        int[][] well = {{0, 0, 3}, {2, 0, 3}, {4, 2, 1}, {0, 0, 0}, {5, 3, 0}, {5, 0, 0}, {0, 3, 0}, {3, 1, 2}};
        for (int[] c : well) {
            BellYards x = TWO.made();
            due("43: from " + c[0] + " to " + c[1] + ", " + c[2], x.copy(0, c[0], 1, c[1], c[2]), 1);
            for (int k = 0; k < 3; k++) {
                boolean come = k >= c[1] && k < c[1] + c[2];
                due("43: item " + k, x.get(1, 2, k), come ? c[0] + k - c[1] + 1 : 6 + k);
            }
            for (int k = 0; k < 5; k++) {
                due("43: s is as it was", x.get(0, 2, k), k + 1);
            }
            due("43: no finding", x.count(8), 0);
        }
        int[][] wrong = {{-1, 0, 1}, {0, -1, 1}, {0, 0, -1}, {-1, 0, 0}, {0, -1, 0}, {0, 0, 4}, {3, 0, 3}, {0, 1, 3},
            {5, 0, 1}, {0, 3, 1}, {6, 0, 0}, {0, 4, 0}, {LEAST, 0, 0}, {0, LEAST, 0}, {0, 0, LEAST},
            {GREATEST, 0, 1}, {0, GREATEST, 1}, {0, 0, GREATEST}, {GREATEST, 0, GREATEST}, {0, GREATEST, GREATEST},
            {GREATEST, GREATEST, GREATEST}, {LEAST, LEAST, LEAST}, {1, 0, GREATEST}, {0, 1, GREATEST},
            {LEAST, 0, GREATEST}, {-1, -1, 2}, {6, 0, -1}, {0, 4, -1}, {1, 1, LEAST}};
        for (int[] c : wrong) {
            found("43: from " + c[0] + " to " + c[1] + ", " + c[2], TWO, x -> x.copy(0, c[0], 1, c[1], c[2]), INDEX);
        }
        found("43: not so many of s", TWO, x -> x.copy(1, 1, 0, 0, 3), INDEX);
        found("43: not so many of itself, behind", TWO, x -> x.copy(0, 0, 0, 1, 5), INDEX);
        found("43: not so many of itself", TWO, x -> x.copy(0, 1, 0, 0, 5), INDEX);
        due("43: sixty", after(ALL, x -> x.sheet(3, 2, 60)).made().copy(2, 0, 3, 0, 60), 1);
        found("43: sixty and one", ALL, x -> x.copy(2, 0, 2, 0, 61), INDEX);
    }

    private static void copyAsTheyWere() {
        for (int i = 0; i <= 5; i++) {
            for (int j = 0; j <= 5; j++) {
                for (int n = 0; n <= 5 - Math.max(i, j); n++) {
                    BellYards x = TWO.made();
                    due("43: to itself", x.copy(0, i, 0, j, n), 1);
                    for (int k = 0; k < 5; k++) {
                        boolean come = k >= j && k < j + n;
                        due("43: item " + k + " from " + i + " to " + j + ", " + n, x.get(0, 2, k), come ? i + k - j + 1 : k + 1);
                    }
                }
            }
        }
    }

    private static void copyForms() {
        for (int form = 0; form <= 2; form++) {
            BellYards x = NEW.made();
            fill(x, 0, form, 127, -128, 5);
            fill(x, 3, form, 0, 0);
            due("43: of form " + form, x.copy(0, 0, 3, 0, 2), 1);
            due("43: its first", x.get(3, form, 0), 127);
            due("43: its second", x.get(3, form, 1), -128);
            x.put(0, form, 0, 1);
            due("43: they are not the same items", x.get(3, form, 0), 127);
        }
    }

    // ---- promise 44: "LETTERS of all BELLS in a WEEK come to a SHEET from item 0 on, as many as there are
    //                   items: how many. BAD; NULL."

    private static void writeLimits() {
        limits("44: sheet", SOME, (x, v) -> x.write(v, 0), BAD, 0, 3);
        limits("44: week", SOME, (x, v) -> x.write(2, v), BAD, 0, 199);
        beyond("44: BAD before NULL, week", SOME, (x, v) -> x.write(3, v), BAD, 0, 199);
        refused("44: both wrong", SOME, x -> x.write(4, 200), BAD);
        found("44: LOST", SOME, x -> x.write(3, 0), NULL);
        found("44: LOST, week 199", SOME, x -> x.write(3, 199), NULL);
    }

    private static void writeAsManyAsThereAre() {
        int[] letters = {1, 3, 1, 0, 1, 1, 3};
        for (int form = 0; form <= 2; form++) {
            for (int items : new int[] {0, 1, 6, 7, 8, 60}) {
                BellYards x = SOME.made();
                x.sheet(0, form, items);
                for (int i = 0; i < items; i++) {
                    x.put(0, form, i, 99);
                }
                due("44: to " + items + " items", x.write(0, 6), Math.min(items, 7));
                for (int i = 0; i < items; i++) {
                    due("44: item " + i, x.get(0, form, i), i < 7 ? letters[i] : 99);
                }
                due("44: no finding", x.count(8), STORE);
            }
        }
        BellYards none = NEW.made();
        none.sheet(0, 2, 5);
        due("44: without BELLS", none.write(0, 0), 0);
        due("44: of twenty", ALL.made().write(2, 6), 20);
        due("44: of twenty, and as it was behind", after(ALL, x -> x.write(2, 6)).made().get(2, 2, 59), 102);
        BellYards x = SOME.made();
        due("44: before week 3", x.write(0, 2), 6);
        due("44: was no B then", x.get(0, 0, 4), 3);
        due("44: in week 3", x.write(0, 3), 6);
        due("44: is B", x.get(0, 0, 4), 1);
    }

    // ---- promise 45: "0 the WEEK, .. 8 the number of the latest FINDING (0 before any), 9 bytes of LAWS. BAD."

    private static void findingsTellTheLatest() {
        BellYards x = NEW.made();
        due("45: before any", x.count(8), 0);
        x.sheet(0, 0, 61);
        due("45: BAD is no FINDING", x.count(8), 0);
        x.sheet(0, 0, -1);
        due("45: SIZE", x.count(8), 5);
        x.lose(0);
        due("45: NULL", x.count(8), 1);
        x.sheet(0, 0, 1);
        x.get(0, 0, 1);
        due("45: INDEX", x.count(8), 2);
        x.get(0, 1, 0);
        due("45: CAST", x.count(8), 3);
        x.sheet(1, 1, 1);
        x.copy(0, 0, 1, 0, 1);
        due("45: STORE", x.count(8), 4);
        x.put(0, 0, 0, 1);
        x.get(0, 0, 0);
        x.copy(0, 0, 0, 0, 1);
        x.lose(1);
        x.parish(4);
        x.become(0, 0);
        due("45: still the latest", x.count(8), 4);
    }

    private static void countLimits() {
        limits("45: what", SOME, (x, v) -> x.count(v), BAD, 0, 9);
        beyond("45: what, none there", NEW, (x, v) -> x.count(v), BAD, 0, 9);
    }

    private static void counts(String what, BellYards x, int... want) {
        for (int k = 0; k <= 9; k++) {
            due("45: " + what + ", count(" + k + ")", x.count(k), want[k]);
        }
    }

    private static void countStates() {
        counts("some", SOME.made(), 6, 3, 7, 2, 1, 2, 1, 3, 4, 30);
        BellYards x = yard(hundreds(20));
        due("45: all in a YARD", x.count(3), 20);
        due("45: none MELTED", x.count(4), 0);
        for (int b = 0; b < 20; b++) {
            x.become(b, 4);
        }
        due("45: none in a YARD", x.count(3), 0);
        due("45: all MELTED", x.count(4), 20);
        BellYards y = yard(5, 6);
        y.become(0, 5);
        due("45: one was sent home", y.count(3), 1);
        due("45: and not melted", y.count(4), 0);
    }

    private static void countFull() {
        counts("all places", ALL.made(), 7, 8, 20, 6, 0, 8, 6, 30, 4, 100);
    }

    // ---- promise 46: "h is 17; h becomes 31 h and each of: count() 0 to 7, 9; of each PARISH its LAND, peal()
    //                   0 to 5, kept() in the WEEK that it is; of each BELL about() 0 to 8, its TONES, letter()
    //                   in the WEEK that it is; fault(); laying() 0, 1; sent() 0; as longs that wrap."

    private static BigInteger with(BigInteger h, long answer) {
        return h.multiply(BigInteger.valueOf(31)).add(BigInteger.valueOf(answer));
    }

    /** Each question is put to an object of its own, so that what it changes is no matter. */
    private static BigInteger exactDigest(Make make) {
        BigInteger h = BigInteger.valueOf(17);
        for (int what : new int[] {0, 1, 2, 3, 4, 5, 6, 7, 9}) {
            h = with(h, make.made().count(what));
        }
        int now = make.made().count(0);
        for (int p = 0; p < make.made().count(1); p++) {
            int land = make.made().moved(p, 0);
            h = with(h, land == BAD ? 0 : land);
            for (int what = 0; what <= 5; what++) {
                h = with(h, make.made().peal(p, what));
            }
            h = with(h, make.made().kept(p, now));
        }
        for (int b = 0; b < make.made().count(2); b++) {
            for (int what = 0; what <= 8; what++) {
                h = with(h, make.made().about(b, what));
            }
            for (int t = 0; t <= 4; t++) {
                h = with(h, make.made().tone(b, t, 0));
            }
            h = with(h, make.made().letter(b, now));
        }
        h = with(h, make.made().fault());
        h = with(h, make.made().laying(0));
        h = with(h, make.made().laying(1));
        return with(h, make.made().sent(0));
    }

    private static void digestOfEach() {
        Make faulty = after(SOME, x -> x.type('x'));
        Make home = after(SOME, x -> x.become(0, 2));
        Make last = after(after(SOME, x -> x.pass(100)), x -> x.pass(93));
        for (Make make : new Make[] {NEW, SOME, ALL, faulty, home, last, () -> bells(1), () -> yard(9999)}) {
            due("46: of each", make.made().digest(), exactDigest(make).longValue());
        }
        due("46: with a fault it is another", faulty.made().digest() == SOME.made().digest() ? 1 : 0, 0);
    }

    private static void digestWraps() {
        BigInteger exact = exactDigest(ALL);
        due("46: it is beyond a long", exact.bitLength() > 64 ? 1 : 0, 1);
        due("46: it wraps", ALL.made().digest(), exact.longValue());
        // Thirteen answers of a new object are 0 but for the fault, -1: 17 times 31 to the 13th and so on.
        BigInteger base = BigInteger.valueOf(31);
        BigInteger of = BigInteger.valueOf(17).multiply(base.pow(13)).subtract(base.pow(3));
        due("46: of a new object", NEW.made().digest(), of.longValue());
        due("46: which is beyond a long", of.bitLength() > 63 ? 1 : 0, 1);
    }

    private static void digestLeavesOut() {
        long before = SOME.made().digest();
        due("46: asked again", after(SOME, x -> x.digest()).made().digest(), before);
        due("46: count(8)", after(SOME, x -> x.lose(3)).made().digest(), before);
        due("46: items", after(SOME, x -> x.put(0, 0, 0, 9)).made().digest(), before);
        due("46: RANKS", after(SOME, x -> x.rank(0, 9)).made().digest(), before);
        due("46: but not what is MISSING", after(SOME, x -> x.tune(1, 1)).made().digest() == before ? 1 : 0, 0);
    }

    private static void questionsChangeNothing() {
        for (Make make : new Make[] {SOME, ALL}) {
            asks("42: get", make, x -> x.get(2, 2, 0));
            asks("46: digest", make, x -> x.digest());
            for (int what = 0; what <= 9; what++) {
                int of = what;
                asks("45: count(" + what + ")", make, x -> x.count(of));
            }
        }
    }
}
