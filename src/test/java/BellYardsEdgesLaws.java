import java.util.regex.Pattern;

/** Edges of 'Terms' 2 and of promises 11 to 18: laws as texts, letters, what is kept, lists. */
public final class BellYardsEdgesLaws extends Edge {
    private static final int A = 0, B = 1, C = 2, D = 3;

    public static void main(String[] args) {
        typeLimits();
        typeHundredBytes();
        wiping();
        faultOfEachPrefix();
        faultOfEachByte();
        faultOfYears();
        faultOfWeights();
        faultOfWeeks();
        faultOfKeptNumbers();
        faultIsTheFirst();
        faultAtTheEnd();
        faultIsWithoutAnyPart();
        letterLimits();
        letterYearAndWeight();
        letterWeeks();
        letterOrder();
        letterLastInForce();
        whyLimits();
        whyNumbers();
        keptLimits();
        keptNumbers();
        keptWhich();
        keptMelted();
        keptWeeks();
        listLimits();
        gainedLimits();
        gainedSums();
        questionsChangeNothing();
        end();
    }

    private static BellYards text(String text) {
        BellYards x = new BellYards();
        type(x, text);
        return x;
    }

    private static void fault(String text, int want) {
        due("13: fault of " + text, text(text).fault(), want);
    }

    // ---- promise 11: "A byte (0 to 255) comes behind LAWS: how many. BAD; FULL."

    private static void typeLimits() {
        limits("11: byte", NEW, (x, v) -> x.type(v), BAD, 0, 255);
        beyond("11: byte", SOME, (x, v) -> x.type(v), BAD, 0, 255);
        for (int b = 0; b <= 255; b++) {
            due("11: byte " + b, NEW.made().type(b), 1);
        }
    }

    private static void typeHundredBytes() {
        BellYards x = NEW.made();
        for (int k = 1; k <= 100; k++) {
            due("11: how many", x.type('k'), k);
            due("11: bytes of LAWS", x.count(9), k);
        }
        due("11: the hundred bytes of a text", ALL.made().count(9), 100);
        due("11: are well", ALL.made().fault(), NONE);
        for (int b : new int[] {0, ';', '0', '@', 255}) {
            refused("11: full, " + b, ALL, y -> y.type(b), FULL);
        }
        beyond("11: BAD before FULL", ALL, (y, v) -> y.type(v), BAD, 0, 255);
        due("11: room again", after(ALL, y -> y.wipe()).made().type(255), 1);
    }

    // ---- promise 12: "LAWS are empty: how many bytes they had."

    private static void wiping() {
        due("12: none", NEW.made().wipe(), 0);
        due("12: one", text("a").wipe(), 1);
        due("12: a hundred", ALL.made().wipe(), 100);
        Make wiped = after(SOME, x -> x.wipe());
        due("12: again", wiped.made().wipe(), 0);
        due("12: no bytes", wiped.made().count(9), 0);
        due("12: a letter", SOME.made().letter(3, 6), A);
        due("12: no letter", wiped.made().letter(3, 6), D);
        due("12: no why", wiped.made().why(3, 6), NONE);
        due("12: two kept", Long.bitCount(SOME.made().kept(0, 6)), 2);
        due("12: one kept", Long.bitCount(wiped.made().kept(0, 6)), 1);
        BellYards x = text("a=x");
        x.wipe();
        due("12: no fault any more", x.fault(), NONE);
        type(x, "k=1");
        due("12: a new text is well", x.fault(), NONE);
    }

    // ---- promise 13: "The FAULT; NONE."

    private static final Pattern WELL = Pattern.compile(
        "([abc]=\\d{4},\\d{1,4}(@\\d{1,3})?|k=\\d(@\\d{1,3})?)(;([abc]=\\d{4},\\d{1,4}(@\\d{1,3})?|k=\\d(@\\d{1,3})?))*");

    /** "the first byte with which it cannot go on (an empty text is well)": that may be the one that is not there. */
    private static void faultOfEachPrefix() {
        fault("", NONE);
        String well = "a=1000,1;b=1939,9999@199;k=0;c=1500,12@10;k=9@101;a=1234,123@1;k=5@99";
        for (int n = 1; n <= well.length(); n++) {
            String prefix = well.substring(0, n);
            fault(prefix, WELL.matcher(prefix).matches() ? NONE : n);
        }
        BellYards x = NEW.made();
        for (int n = 0; n < well.length(); n++) {
            due("13: byte by byte", x.fault(), n == 0 || WELL.matcher(well.substring(0, n)).matches() ? NONE : n);
            x.type(well.charAt(n));
        }
    }

    /** Behind a text of which each byte can go on: which of all bytes go on, and that no other does. */
    private static void faultOfEachByte() {
        String figures = "0123456789";
        String[][] texts = {{"", "abck"}, {"a", "="}, {"b", "="}, {"c", "="}, {"k", "="}, {"a=", figures},
            {"a=1", figures}, {"b=18", figures}, {"c=180", figures}, {"a=1800", ","}, {"a=1800,", "123456789"},
            {"a=1800,1", figures + "@;"}, {"a=1800,12", figures + "@;"}, {"a=1800,123", figures + "@;"},
            {"a=1800,1234", "@;"}, {"a=1800,1@", figures}, {"a=1800,1@1", figures + ";"},
            {"a=1800,1@12", figures + ";"}, {"a=1800,1@123", ";"}, {"a=1800,1234@123", ";"}, {"k=", figures},
            {"k=1", "@;"}, {"k=1@", figures}, {"k=1@0", figures + ";"}, {"k=1@01", figures + ";"}, {"k=1@001", ";"},
            {"k=1;", "abck"}, {"a=1800,1;", "abck"}, {"a=1800,1@1;", "abck"}, {"k=1;k", "="}, {"k=1;k=", figures}};
        for (String[] each : texts) {
            for (char b = 0; b <= 255; b++) {
                String text = each[0] + b;
                boolean goesOn = each[1].indexOf(b) >= 0;
                boolean well = WELL.matcher(text).matches();
                fault(text, !goesOn ? each[0].length() : well ? NONE : text.length());
            }
        }
    }

    /** "or of the first figure of a number that may not be (YEARS, WEIGHTS, WEEKS as above)" */
    private static void faultOfYears() {
        for (String kind : new String[] {"a=", "b=", "c="}) {
            for (String year : new String[] {"1000", "1001", "1500", "1938", "1939"}) {
                fault(kind + year + ",1", NONE);
                fault(kind + year, 6);
            }
            for (String year : new String[] {"0000", "0001", "0999", "1940", "2000", "9999"}) {
                fault(kind + year + ",1", 2);
                fault(kind + year, 2);
                fault("k=1;" + kind + year + ",1", 6);
            }
            for (String year : new String[] {"", "9", "99", "999", "0", "00", "000"}) {
                fault(kind + year, 2 + year.length());
                fault(kind + year + ",1", 2 + year.length());
            }
            fault(kind + "18000,1", 6);
        }
    }

    private static void faultOfWeights() {
        for (String kind : new String[] {"a=", "b=", "c="}) {
            for (String weight : new String[] {"1", "9", "01", "0001", "10", "9998", "9999"}) {
                fault(kind + "1800," + weight, NONE);
                fault(kind + "1800," + weight + "@0", NONE);
                fault(kind + "1800," + weight + ";k=1", NONE);
            }
            for (String weight : new String[] {"0", "00", "000", "0000"}) {
                fault(kind + "1800," + weight, 7);
                fault(kind + "1800," + weight + "@0", 7);
                fault(kind + "1800," + weight + ";k=1", 7);
                fault("k=1;" + kind + "1800," + weight, 11);
            }
            fault(kind + "1800,10000", 11);
            fault(kind + "1800,00010", 11);
            fault(kind + "1800,;k=1", 7);
            fault(kind + "1800,-1", 7);
        }
    }

    private static void faultOfWeeks() {
        for (String part : new String[] {"k=1@", "a=1800,1@", "b=1800,9999@", "c=1800,12@"}) {
            for (String week : new String[] {"0", "00", "000", "1", "01", "001", "9", "99", "198", "199"}) {
                fault(part + week, NONE);
                fault(part + week + ";k=1", NONE);
            }
            for (String week : new String[] {"200", "201", "999"}) {
                fault(part + week, part.length());
                fault(part + week + ";k=1", part.length());
                fault("k=1;" + part + week, 4 + part.length());
            }
            fault(part + "1000", part.length() + 3);
            fault(part + "0001", part.length() + 3);
            fault(part, part.length());
            fault(part + ";k=1", part.length());
            fault(part + "@1", part.length());
            fault(part + "-1", part.length());
            fault(part + "1@1", part.length() + 1);
        }
    }

    private static void faultOfKeptNumbers() {
        for (int number = 0; number <= 9; number++) {
            fault("k=" + number, NONE);
            fault("k=" + number + "@199", NONE);
            fault("k=" + number + "0", 3);
        }
        fault("k=", 2);
        fault("k=@1", 2);
        fault("k=-1", 2);
        fault("k=1,1", 3);
        fault("k=1800,1", 3);
    }

    private static void faultIsTheFirst() {
        fault("a=0999,0@200;x", 2);
        fault("a=1000,0@200;x", 7);
        fault("a=1000,1@200;x", 9);
        fault("a=1000,1@199;x", 13);
        fault("x;a=0999,1", 0);
        fault("k=1;;a=0999,1", 4);
        fault("a=0999x", 2);
        fault("a=099x,1", 5);
        fault("k=1@200;k=1@200", 4);
        fault("k=1@20x;k=1@200", 6);
    }

    private static void faultAtTheEnd() {
        String parts = "k=1;".repeat(25);
        fault(parts.substring(0, 99), NONE);
        fault(parts, 100);
        fault(parts.substring(0, 99) + "@", 100);
        fault(parts.substring(0, 99) + "k", 99);
        fault(parts.substring(0, 99) + "1", 99);
        fault(parts.substring(0, 96) + "k=1@", 100);
        fault(parts.substring(0, 92) + "k=1@1999", 99);
        fault(parts.substring(0, 92) + "k=1@199;", 100);
        fault(parts.substring(0, 92) + "k=1@0199", 99);
        fault(parts.substring(0, 88) + "k=11k=1@0199", 91);
        fault(LONG_LAWS, NONE);
        fault("=".repeat(100), 0);
    }

    /** "With a FAULT all is as without any part." */
    private static void faultIsWithoutAnyPart() {
        for (String more : new String[] {";", "x", ";a", ";a=", ";k=1@200", ";a=0999,1", "\u00ff", "\u0000"}) {
            BellYards x = SOME.made();
            due("13: laws before", x.letter(3, 6), A);
            type(x, more);
            for (int b = 0; b < 7; b++) {
                due("14: D with a fault", x.letter(b, 6), D);
                due("15: NONE with a fault", x.why(b, 6), NONE);
            }
            due("16: one kept with a fault", x.kept(0, 6), 2);
            due("18: gained with a fault", x.gained(0, 6), 1200 * (1 - D));
            due("44: letters with a fault", x.write(0, 6), 6);
            due("44: D with a fault", x.get(0, 0, 3), D);
            due("11: the bytes are kept", x.count(9), 30 + more.length());
        }
        BellYards x = SOME.made();
        type(x, ";a");
        due("14: a fault for now", x.letter(3, 6), D);
        type(x, "=1939,9999@199");
        due("14: and well again", x.letter(3, 6), A);
    }

    // ---- promise 14: "LETTER. BAD."

    private static void letterLimits() {
        limits("14: bell", SOME, (x, v) -> x.letter(v, 0), BAD, 0, 6);
        limits("14: bell of twenty", ALL, (x, v) -> x.letter(v, 0), BAD, 0, 19);
        limits("14: week", SOME, (x, v) -> x.letter(3, v), BAD, 0, 199);
        due("14: without laws", bells(9999).letter(0, 199), D);
    }

    private static BellYards one(int weight, int year, String laws) {
        BellYards x = new BellYards();
        x.parish(0);
        x.bell(0, weight, year, 20);
        type(x, laws);
        return x;
    }

    private static void letter(String laws, int weight, int year, int week, int letter, int why) {
        BellYards x = one(weight, year, laws);
        String what = " of " + weight + ", " + year + " by " + laws + " in week " + week;
        due("14: letter" + what, x.letter(0, week), letter);
        due("15: why" + what, x.why(0, week), why);
        x.sheet(0, 0, 1);
        due("44: write" + what, x.write(0, week), 1);
        due("44: written" + what, x.get(0, 0, 0), letter);
    }

    /** "its YEAR is that one or later and its WEIGHT that or more" */
    private static void letterYearAndWeight() {
        for (int kind = A; kind <= C; kind++) {
            String k = String.valueOf((char) ('a' + kind));
            letter(k + "=1800,500", 500, 1800, 0, kind, 0);
            letter(k + "=1800,500", 499, 1800, 0, D, NONE);
            letter(k + "=1800,500", 500, 1799, 0, D, NONE);
            letter(k + "=1800,500", 499, 1939, 0, D, NONE);
            letter(k + "=1800,500", 9999, 1799, 0, D, NONE);
            letter(k + "=1800,500", 501, 1801, 0, kind, 0);
            letter(k + "=1000,1", 1, 1000, 0, kind, 0);
            letter(k + "=1939,9999", 9999, 1939, 0, kind, 0);
            letter(k + "=1939,9999", 9998, 1939, 0, D, NONE);
            letter(k + "=1939,9999", 9999, 1938, 0, D, NONE);
            letter(k + "=1000,1", 9999, 1939, 0, kind, 0);
            letter(k + "=1000,0001", 1, 1000, 0, kind, 0);
        }
    }

    /** "each perhaps with @ and a WEEK from which on it is so (otherwise from 0)" */
    private static void letterWeeks() {
        letter("b=1000,1", 1, 1000, 0, B, 0);
        letter("b=1000,1@0", 1, 1000, 0, B, 0);
        letter("b=1000,1@1", 1, 1000, 0, D, NONE);
        letter("b=1000,1@1", 1, 1000, 1, B, 0);
        letter("b=1000,1@10", 1, 1000, 9, D, NONE);
        letter("b=1000,1@010", 1, 1000, 10, B, 0);
        letter("b=1000,1@10", 1, 1000, 199, B, 0);
        letter("b=1000,1@199", 1, 1000, 198, D, NONE);
        letter("b=1000,1@199", 1, 1000, 199, B, 0);
    }

    /** "else B (1), C (2) likewise; else D (3)" */
    private static void letterOrder() {
        letter("c=1000,1;b=1000,1;a=1000,1", 5, 1500, 0, A, 2);
        letter("c=1000,1;b=1000,1;a=1000,6", 5, 1500, 0, B, 1);
        letter("c=1000,1;b=1501,1;a=1000,6", 5, 1500, 0, C, 0);
        letter("c=1000,6;b=1501,1;a=1000,6", 5, 1500, 0, D, NONE);
        letter("c=1000,1;b=1000,1@5;a=1000,1@6", 5, 1500, 4, C, 0);
        letter("c=1000,1;b=1000,1@5;a=1000,1@6", 5, 1500, 5, B, 1);
        letter("c=1000,1;b=1000,1@5;a=1000,1@6", 5, 1500, 6, A, 2);
        letter("k=0;k=9", 5, 1500, 0, D, NONE);
    }

    /** "the last one of those in force counts" */
    private static void letterLastInForce() {
        letter("a=1000,1;a=1000,6", 5, 1500, 0, D, NONE);
        letter("a=1000,6;a=1000,1", 5, 1500, 0, A, 1);
        letter("a=1000,1;a=1000,6@3", 5, 1500, 2, A, 0);
        letter("a=1000,1;a=1000,6@3", 5, 1500, 3, D, NONE);
        letter("a=1000,1@9;a=1000,6@3", 5, 1500, 9, D, NONE);
        letter("a=1000,1@9;a=1000,1@3", 5, 1500, 9, A, 1);
        letter("a=1000,1;a=1000,6;b=1000,1", 5, 1500, 0, B, 2);
        letter("a=1000,1;a=1000,1;a=1000,1@1", 5, 1500, 0, A, 1);
    }

    // ---- promise 15: "WHY; NONE. BAD."

    private static void whyLimits() {
        limits("15: bell", SOME, (x, v) -> x.why(v, 0), BAD, 0, 6);
        limits("15: bell of twenty", ALL, (x, v) -> x.why(v, 0), BAD, 0, 19);
        limits("15: week", SOME, (x, v) -> x.why(3, v), BAD, 0, 199);
        due("15: without laws", bells(9999).why(0, 199), NONE);
    }

    /** "the number of the part (from 0)": of all parts, k's too. */
    private static void whyNumbers() {
        for (int before = 0; before <= 23; before++) {
            letter("k=1;".repeat(before) + "c=1000,1", 1, 1000, 0, C, before);
        }
        letter("c=1000,1" + ";k=1".repeat(23), 1, 1000, 0, C, 0);
    }

    // ---- promise 16: "KEPT, as bits of BELLS (as they are in that WEEK: up to the one that it is). BAD."

    private static void keptLimits() {
        limits("16: parish", SOME, (x, v) -> x.kept(v, 0), BAD, 0, 2);
        limits("16: parish of eight", ALL, (x, v) -> x.kept(v, 0), BAD, 0, 7);
        limits("16: week", SOME, (x, v) -> x.kept(0, v), BAD, 0, 6);
        limits("16: week 0 alone", NOW, (x, v) -> x.kept(0, v), BAD, 0, 0);
        refused("16: the next week", SOME, x -> x.kept(0, 7), BAD);
        Make last = after(after(NOW, x -> x.pass(100)), x -> x.pass(99));
        due("16: week 199", last.made().kept(0, 199), 1);
        refused("16: week 200", last, x -> x.kept(0, 200), BAD);
    }

    private static final Make NOW = () -> bells(10);

    private static int keptOf(String laws, int... weights) {
        BellYards x = bells(weights);
        type(x, laws);
        return x.kept(0, 0);
    }

    /** "as many as the last k in force says (1 without one)" */
    private static void keptNumbers() {
        due("16: 1 without one", keptOf("", hundreds(12)), 1);
        due("16: 1 with other parts", keptOf("a=1000,1;c=1000,1", hundreds(12)), 1);
        for (int number = 0; number <= 9; number++) {
            due("16: k=" + number, keptOf("k=" + number, hundreds(12)), (1 << number) - 1);
            due("16: k=" + number + " of twenty", keptOf("k=" + number, hundreds(20)), (1 << number) - 1);
        }
        due("16: nine of nine", keptOf("k=9", hundreds(9)), 511);
        due("16: nine of eight", keptOf("k=9", hundreds(8)), 255);
        due("16: nine of one", keptOf("k=9", 5), 1);
        due("16: of none", keptOf("k=9"), 0);
        due("16: none of none", keptOf("k=0"), 0);
        due("16: the last k", keptOf("k=9;k=2", hundreds(12)), 3);
        due("16: not one to come", keptOf("k=3;k=2@1", hundreds(12)), 7);
    }

    /** "those of the least WEIGHT, of like ones the least" */
    private static void keptWhich() {
        due("16: the least weight", keptOf("k=1", 9999, 2, 1, 3), 4);
        due("16: of like ones the least", keptOf("k=1", 5, 2, 2, 2), 2);
        due("16: two of like ones", keptOf("k=2", 5, 2, 2, 2), 6);
        due("16: by weight, then by number", keptOf("k=3", 5, 2, 5, 1), 11);
        due("16: the last of twenty", keptOf("k=1", 9, 9, 9, 9, 9, 9, 9, 9, 9, 9, 9, 9, 9, 9, 9, 9, 9, 9, 9, 1), 1 << 19);
        BellYards x = bells(5);
        x.parish(0);
        x.bell(1, 4, 1800, 20);
        due("16: its own alone", x.kept(0, 0), 1);
        due("16: the other's", x.kept(1, 0), 2);
        x.parish(0);
        due("16: a parish without bells", x.kept(2, 0), 0);
    }

    /** "of its BELLS that are not MELTED then" */
    private static void keptMelted() {
        int[][] ways = {{}, {1}, {2}, {2, 3}, {2, 3, 4}, {2, 3, 5}};
        for (int state = 0; state <= 5; state++) {
            BellYards x = bells(1, 2);
            for (int next : ways[state]) {
                x.become(0, next);
            }
            due("16: of state " + state, x.kept(0, 0), state == 4 ? 2 : 1);
        }
        BellYards x = yard(1, 2);
        type(x, "k=9");
        x.become(0, 4);
        x.pass(1);
        x.become(1, 4);
        due("16: one was not melted then", x.kept(0, 0), 2);
        due("16: all are melted", x.kept(0, 1), 0);
    }

    private static void keptWeeks() {
        BellYards x = bells(1, 2, 3);
        type(x, "k=3@199;k=2@5;k=0@9");
        x.pass(100);
        x.pass(98);
        due("16: before", x.kept(0, 4), 1);
        due("16: from its week on", x.kept(0, 5), 3);
        due("16: up to the next", x.kept(0, 8), 3);
        due("16: none", x.kept(0, 9), 0);
        due("16: week 198", x.kept(0, 198), 0);
        x.pass(1);
        due("16: the last of those in force", x.kept(0, 199), 0);
        type(x, ";k=3@199");
        due("16: from 199 on", x.kept(0, 199), 7);
        due("16: not before", x.kept(0, 198), 0);
    }

    // ---- promise 17: "A BELL is LISTED as a LETTER (NONE: no more): what it was. BAD: -1000."

    private static void listLimits() {
        limits("17: bell", SOME, (x, v) -> x.list(v, 2), -1000, 0, 6);
        limits("17: bell of twenty", ALL, (x, v) -> x.list(v, 2), -1000, 0, 19);
        limits("17: letter", SOME, (x, v) -> x.list(0, v), -1000, -1, 3);
        BellYards x = bells(10, 20);
        int[] letters = {3, 0, -1, -1, 2, 1, 1};
        int before = NONE;
        for (int letter : letters) {
            due("17: what it was", x.list(1, letter), before);
            due("17: it is", x.about(1, 5), letter);
            due("17: the other one", x.about(0, 5), NONE);
            before = letter;
        }
    }

    // ---- promise 18: "GAINED. BAD: the least int."

    private static void gainedLimits() {
        limits("18: parish", SOME, (x, v) -> x.gained(v, 0), LEAST, 0, 2);
        limits("18: parish of eight", ALL, (x, v) -> x.gained(v, 0), LEAST, 0, 7);
        limits("18: week", SOME, (x, v) -> x.gained(0, v), LEAST, 0, 199);
        due("18: a parish without bells", bells().gained(0, 0), 0);
        due("18: none LISTED", bells(5, 6).gained(0, 0), 0);
    }

    /** "the sum, over its BELLS that are LISTED, of WEIGHT times (LISTED less LETTER)" */
    private static void gainedSums() {
        for (int letter = A; letter <= D; letter++) {
            for (int listed = NONE; listed <= D; listed++) {
                BellYards x = one(7, 1500, letter == D ? "" : (char) ('a' + letter) + "=1000,1");
                x.list(0, listed);
                due("18: " + listed + " for " + letter, x.gained(0, 0), listed == NONE ? 0 : 7 * (listed - letter));
            }
        }
        BellYards x = NEW.made();
        x.parish(0);
        for (int b = 0; b < 20; b++) {
            x.bell(0, 9999, 1939, 0);
            x.list(b, A);
        }
        type(x, "a=1000,1@199");
        due("18: the least sum", x.gained(0, 198), -20 * 9999 * 3);
        due("18: rightly listed", x.gained(0, 199), 0);
        for (int b = 0; b < 20; b++) {
            x.list(b, D);
        }
        due("18: the greatest sum", x.gained(0, 199), 20 * 9999 * 3);
        due("18: all are D before", x.gained(0, 198), 0);
        x.list(19, NONE);
        due("18: no more LISTED", x.gained(0, 199), 19 * 9999 * 3);
        x.parish(0);
        due("18: of the other parish", x.gained(1, 199), 0);
    }

    private static void questionsChangeNothing() {
        for (Make make : new Make[] {SOME, ALL}) {
            asks("13: fault", make, x -> x.fault());
            asks("14: letter", make, x -> x.letter(3, 2));
            asks("15: why", make, x -> x.why(3, 199));
            asks("16: kept", make, x -> x.kept(1, 2));
            asks("18: gained", make, x -> x.gained(1, 199));
        }
    }
}
