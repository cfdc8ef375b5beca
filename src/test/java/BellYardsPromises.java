/** For each promise of the document: ordinary inputs, the edges that it names, and wrong inputs. */
public final class BellYardsPromises {
    private static final int LEAST = Integer.MIN_VALUE;
    private static int wrong = 0;

    private static void due(String call, long got, long want) {
        if (got != want) {
            wrong++;
            System.out.println(call + " answered " + got + ", due is " + want);
        }
    }

    private static void typeAll(BellYards x, String text) {
        for (int i = 0; i < text.length(); i++) {
            x.type(text.charAt(i));
        }
    }

    private static int faultOf(String text) {
        BellYards x = new BellYards();
        typeAll(x, text);
        return x.fault();
    }

    private static void fillSheet(BellYards x, int s, int... items) {
        x.sheet(s, 2, items.length);
        for (int i = 0; i < items.length; i++) {
            x.put(s, 2, i, items[i]);
        }
    }

    private static void toYard(BellYards x, int bell) {
        x.become(bell, 2);
        x.become(bell, 3);
    }

    /** One parish in land 0 and so many bells, heavier by 100 each, beginning at 100. */
    private static BellYards withBells(int number) {
        BellYards x = new BellYards();
        x.parish(0);
        for (int i = 0; i < number; i++) {
            x.bell(0, 100 * (i + 1), 1800, 20);
        }
        return x;
    }

    public static void main(String[] args) {
        aNewObject();
        weeksAndParishes();
        bells();
        reading();
        tonesAndAbout();
        states();
        lawTexts();
        faults();
        letters();
        keeping();
        listing();
        finding();
        couldAndNext();
        laying();
        peals();
        steps();
        batches();
        needs();
        sending();
        claims();
        sheets();
        copying();
        writing();
        counting();
        digests();
        System.out.println(wrong == 0 ? "all promises hold" : wrong + " answers are not as due");
        if (wrong != 0) {
            System.exit(1);
        }
    }

    private static void aNewObject() {
        BellYards x = new BellYards();
        for (int what = 0; what <= 9; what++) {
            due("1: count(" + what + ")", x.count(what), 0);
        }
        due("1: about(0, 0)", x.about(0, 0), -1000);
        for (int s = 0; s < 4; s++) {
            due("1: lose(" + s + ")", x.lose(s), -11);
        }
        due("1: fault()", x.fault(), -1);
        due("1: laying(0)", x.laying(0), 0);
        due("1: sent(0)", x.sent(0), 0);
        due("1: whose(0, 0)", x.whose(0, 0), -2);
    }

    private static void weeksAndParishes() {
        BellYards x = new BellYards();
        due("2: pass(0)", x.pass(0), -2);
        due("2: pass(101)", x.pass(101), -2);
        due("2: pass(-1)", x.pass(-1), -2);
        due("2: pass(greatest)", x.pass(Integer.MAX_VALUE), -2);
        due("2: pass(100)", x.pass(100), 100);
        due("2: pass(100) again", x.pass(100), -2);
        due("2: pass(99)", x.pass(99), 199);
        due("2: pass(1)", x.pass(1), -2);
        due("2: count(0)", x.count(0), 199);
        due("3: parish(-1)", x.parish(-1), -2);
        due("3: parish(4)", x.parish(4), -2);
        for (int p = 0; p < 8; p++) {
            due("3: parish", x.parish(p % 4), p);
        }
        due("3: parish when full", x.parish(0), -4);
        due("3: wrong parish when full", x.parish(4), -2);
        due("4: moved(0, 3)", x.moved(0, 3), 0);
        due("4: moved(0, 3) again", x.moved(0, 3), -2);
        due("4: moved(0, 1)", x.moved(0, 1), 3);
        due("4: moved(0, 4)", x.moved(0, 4), -2);
        due("4: moved(0, -1)", x.moved(0, -1), -2);
        due("4: moved(8, 0)", x.moved(8, 0), -2);
        due("4: moved(-1, 0)", x.moved(-1, 0), -2);
    }

    private static void bells() {
        BellYards x = new BellYards();
        due("5: bell without a parish", x.bell(0, 1, 1000, 0), -2);
        x.parish(0);
        due("5: least", x.bell(0, 1, 1000, 0), 0);
        due("5: greatest", x.bell(0, 9999, 1939, 30), 1);
        due("5: weight 0", x.bell(0, 0, 1500, 0), -2);
        due("5: weight 10000", x.bell(0, 10000, 1500, 0), -2);
        due("5: year 999", x.bell(0, 1, 999, 0), -2);
        due("5: year 1940", x.bell(0, 1, 1940, 0), -2);
        due("5: tin -1", x.bell(0, 1, 1500, -1), -2);
        due("5: tin 31", x.bell(0, 1, 1500, 31), -2);
        due("5: parish -1", x.bell(-1, 1, 1500, 0), -2);
        due("5: parish 1", x.bell(1, 1, 1500, 0), -2);
        for (int b = 2; b < 20; b++) {
            due("5: bell", x.bell(0, b, 1500, 0), b);
        }
        due("5: full", x.bell(0, 1, 1500, 0), -4);
        due("5: wrong when full", x.bell(0, 0, 1500, 0), -2);
    }

    private static void reading() {
        BellYards x = new BellYards();
        x.parish(0);
        due("6: read(-1)", x.read(-1), -2);
        due("6: read(4)", x.read(4), -2);
        due("6: read lost", x.read(0), -11);
        due("6: count(8)", x.count(8), 1);
        x.sheet(0, 2, 0);
        due("6: read of no items", x.read(0), 0);
        fillSheet(x, 0, 0, 10, 1500, 1, 0, 20, 1600, 2, 0, 30, 1700);
        due("6: read, the last not whole", x.read(0), 2);
        due("6: about(1, 1)", x.about(1, 1), 20);
        due("6: about(1, 2)", x.about(1, 2), 1600);
        due("6: about(1, 3)", x.about(1, 3), 2);
        fillSheet(x, 0, 0, 10, 1500, 1, 0, 20, 1600, 31, 0, 30, 1700, 3);
        due("6: read up to a wrong one", x.read(0), 1);
        due("6: count(2)", x.count(2), 3);
        x.sheet(1, 2, 60);
        for (int k = 0; k < 15; k++) {
            x.put(1, 2, 4 * k + 1, 5);
            x.put(1, 2, 4 * k + 2, 1900);
        }
        due("6: read of 15", x.read(1), 15);
        due("6: read up to full", x.read(1), 2);
        due("6: read when full", x.read(1), 0);
        due("6: count(2) full", x.count(2), 20);
        BellYards y = new BellYards();
        y.parish(0);
        y.sheet(0, 0, 4);
        y.put(0, 0, 1, 100);
        due("6: a year is not in a byte", y.read(0), 0);
        y.sheet(0, 1, 4);
        y.put(0, 1, 1, 9999);
        y.put(0, 1, 2, 1939);
        y.put(0, 1, 3, 30);
        due("6: read of shorts", y.read(0), 1);
        due("6: about(0, 1)", y.about(0, 1), 9999);
    }

    private static void tonesAndAbout() {
        BellYards x = withBells(1);
        due("7: first", x.tone(0, 0, 9999), -1);
        due("7: second", x.tone(0, 0, 0), 9999);
        due("7: not known again", x.tone(0, 0, -1), 0);
        due("7: was not known", x.tone(0, 0, 5), -1);
        due("7: nominal", x.tone(0, 4, 7), -1);
        due("7: tone -1", x.tone(0, -1, 5), -1000);
        due("7: tone 5", x.tone(0, 5, 5), -1000);
        due("7: v -2", x.tone(0, 0, -2), -1000);
        due("7: v 10000", x.tone(0, 0, 10000), -1000);
        due("7: bell 1", x.tone(1, 0, 5), -1000);
        due("7: bell -1", x.tone(-1, 0, 5), -1000);
        due("7: not changed", x.tone(0, 0, 5), 5);
        long[] want = {0, 100, 1800, 20, 0, -1, 0, 5, 999};
        for (int what = 0; what < want.length; what++) {
            due("8: about(0, " + what + ")", x.about(0, what), want[what]);
        }
        x.become(0, 1);
        x.list(0, 2);
        x.send(0, 0, 9);
        x.send(0, 1, 30);
        long[] then = {0, 100, 1800, 20, 1, 2, 1, 9, 30};
        for (int what = 0; what < then.length; what++) {
            due("8: about(0, " + what + ") then", x.about(0, what), then[what]);
        }
        due("8: about(0, 9)", x.about(0, 9), -1000);
        due("8: about(0, -1)", x.about(0, -1), -1000);
        due("8: about(1, 0)", x.about(1, 0), -1000);
        due("8: about(-1, 0)", x.about(-1, 0), -1000);
    }

    /** Brings a new bell to a state by the shortest way. */
    private static BellYards withState(int state) {
        BellYards x = withBells(1);
        int[][] ways = {{}, {1}, {2}, {2, 3}, {2, 3, 4}, {2, 3, 5}};
        for (int next : ways[state]) {
            x.become(0, next);
        }
        return x;
    }

    private static void states() {
        String[] may = {"12", "02", "3", "45", "", "12"};
        for (int from = 0; from <= 5; from++) {
            for (int to = 0; to <= 5; to++) {
                boolean well = may[from].indexOf('0' + to) >= 0;
                due("9: from " + from + " to " + to, withState(from).become(0, to), well ? from : -3);
            }
        }
        BellYards x = withBells(1);
        due("9: state 6", x.become(0, 6), -2);
        due("9: state -1", x.become(0, -1), -2);
        due("9: bell 1", x.become(1, 1), -2);
        for (int k = 0; k < 16; k++) {
            due("9: change", x.become(0, k % 2 == 0 ? 1 : 0), k % 2);
        }
        due("9: full", x.become(0, 1), -4);
        due("9: not, when full", x.become(0, 3), -3);
        due("9: about(0, 6)", x.about(0, 6), 16);

        BellYards y = withBells(2);
        y.pass(3);
        y.become(0, 2);
        y.pass(2);
        y.become(0, 3);
        y.become(0, 5);
        due("10: before", y.was(0, 2), 0);
        due("10: in the week", y.was(0, 3), 2);
        due("10: between", y.was(0, 4), 2);
        due("10: the later of like ones", y.was(0, 5), 5);
        due("10: no change", y.was(1, 5), 0);
        due("10: week to come", y.was(0, 6), -2);
        due("10: week -1", y.was(0, -1), -2);
        due("10: bell 2", y.was(2, 0), -2);
        y.pass(10);
        due("10: later", y.was(0, 15), 5);
    }

    private static void lawTexts() {
        BellYards x = new BellYards();
        due("11: type(-1)", x.type(-1), -2);
        due("11: type(256)", x.type(256), -2);
        due("11: type(0)", x.type(0), 1);
        due("13: a byte 0", x.fault(), 0);
        due("11: type(255)", x.type(255), 2);
        due("12: wipe()", x.wipe(), 2);
        due("12: wipe() again", x.wipe(), 0);
        due("13: empty", x.fault(), -1);
        for (int k = 1; k <= 100; k++) {
            due("11: type", x.type(';'), k);
        }
        due("11: full", x.type('a'), -4);
        due("11: wrong when full", x.type(256), -2);
        due("12: wipe() of all", x.wipe(), 100);
        due("12: count(9)", x.count(9), 0);
        StringBuilder most = new StringBuilder("k=1");
        for (int k = 0; k < 24; k++) {
            most.append(";k=").append(k % 10);
        }
        due("13: 25 parts", faultOf(most.toString()), -1);
        due("13: and one byte", faultOf(most + ";"), 100);
        due("13: all weeks of three figures", faultOf("k=1@0;k=2@00;k=3@000;k=4@199;k=5@099"), -1);
    }

    private static void faults() {
        String[] texts = {"", "a", "a=", "a=1", "a=1800", "a=1800,", "a=1800,1", "a=1800,1@", "a=1800,1@1",
            "a=1800,1@19", "a=1800,1@199", "a=1800,1@200", "a=1800,1@1990", "a=1800,1@2000", "a=0999,1", "a=1000,1",
            "a=1939,1", "a=1940,1", "a=18000,1", "a=1800,0", "a=1800,0000", "a=1800,00001", "a=1800,0001",
            "a=1800,9999", "a=1800,99999", "k=0", "k=9", "k=10", "k=,", "k=1@5;", "A=1800,1", "a =1800,1",
            ";", "k=1;;k=1", "k=1;d=1", "c=1800,1;b=1900,2@3;k=4@10", "a=1800,1@x", "a=1800,x", "a=x", "ax",
            "a=1940", "a=1800,0x", "a=1800;1", "k=1@200;x", "x;k=1@200", "k=1,2", "a=194", "b=1800,5@1@2"};
        int[] want = {-1, 1, 2, 3, 6, 7, -1, 9, -1, -1, -1, 9, 12, 9, 2, -1, -1, 2, 6, 7, 7, 7, -1, -1, 11, -1, -1, 3,
            2, 6, 0, 1, 0, 4, 4, -1, 9, 7, 2, 1, 2, 7, 6, 4, 0, 3, 5, 10};
        for (int i = 0; i < texts.length; i++) {
            due("13: fault of " + texts[i], faultOf(texts[i]), want[i]);
        }
    }

    private static void letters() {
        BellYards x = new BellYards();
        x.parish(0);
        x.bell(0, 500, 1800, 20);
        x.bell(0, 499, 1800, 20);
        x.bell(0, 500, 1799, 20);
        due("14: without laws", x.letter(0, 199), 3);
        due("15: without laws", x.why(0, 0), -1);
        typeAll(x, "a=1800,500@10");
        due("14: before", x.letter(0, 9), 3);
        due("14: year and weight just so", x.letter(0, 10), 0);
        due("14: weight below", x.letter(1, 10), 3);
        due("14: year before", x.letter(2, 10), 3);
        due("14: last week", x.letter(0, 199), 0);
        due("14: week 200", x.letter(0, 200), -2);
        due("14: week -1", x.letter(0, -1), -2);
        due("14: bell 3", x.letter(3, 0), -2);
        due("14: bell -1", x.letter(-1, 0), -2);
        typeAll(x, ";k=2;b=1000,1;a=1900,1@20;c=1000,1");
        due("14: b", x.letter(0, 0), 1);
        due("15: b", x.why(0, 0), 2);
        due("14: a", x.letter(0, 19), 0);
        due("15: a", x.why(0, 19), 0);
        due("14: the last a counts", x.letter(0, 20), 1);
        due("15: the last a counts", x.why(0, 20), 2);
        due("15: week 200", x.why(0, 200), -2);
        due("15: week -1", x.why(0, -1), -2);
        due("15: bell 3", x.why(3, 0), -2);
        typeAll(x, ";");
        due("14: with a fault", x.letter(0, 0), 3);
        due("15: with a fault", x.why(0, 19), -1);
        typeAll(x, "k=1");
        due("14: without the fault", x.letter(0, 0), 1);
        x.wipe();
        typeAll(x, "a=1000,1@50;a=1900,9999@0;c=1000,1");
        due("14: last in the text, not in weeks", x.letter(0, 60), 2);
        due("15: c", x.why(0, 60), 2);
    }

    private static void keeping() {
        BellYards x = new BellYards();
        x.parish(0);
        x.parish(1);
        x.bell(0, 300, 1800, 20);
        x.bell(0, 200, 1800, 20);
        x.bell(1, 100, 1800, 20);
        x.bell(0, 200, 1800, 20);
        due("16: one without a k", x.kept(0, 0), 2);
        due("16: week to come", x.kept(0, 1), -2);
        due("16: week -1", x.kept(0, -1), -2);
        due("16: parish 2", x.kept(2, 0), -2);
        due("16: parish -1", x.kept(-1, 0), -2);
        typeAll(x, "k=0;k=2@2;k=9@3");
        x.pass(2);
        due("16: k=0", x.kept(0, 1), 0);
        due("16: k=2", x.kept(0, 2), 10);
        toYard(x, 1);
        due("16: not melted yet", x.kept(0, 2), 10);
        x.pass(1);
        x.become(1, 4);
        due("16: melted, and k above all", x.kept(0, 3), 9);
        due("16: the other", x.kept(1, 3), 4);
        due("16: back then", x.kept(0, 2), 10);
        typeAll(x, "x");
        due("16: with a fault", x.kept(0, 3), 8);
    }

    private static void listing() {
        BellYards x = new BellYards();
        x.parish(0);
        x.parish(0);
        x.bell(0, 100, 1800, 20);
        x.bell(0, 1000, 1900, 20);
        x.bell(1, 7, 1900, 20);
        due("17: first", x.list(0, 3), -1);
        due("17: again", x.list(0, 0), 3);
        due("17: no more", x.list(0, -1), 0);
        due("17: letter 4", x.list(0, 4), -1000);
        due("17: letter -2", x.list(0, -2), -1000);
        due("17: bell 3", x.list(3, 0), -1000);
        due("17: bell -1", x.list(-1, 0), -1000);
        due("17: not changed", x.about(0, 5), -1);
        due("18: none listed", x.gained(0, 0), 0);
        x.list(0, 3);
        x.list(1, 3);
        x.list(2, 0);
        typeAll(x, "a=1900,1@5;b=1800,1@7");
        due("18: all are D", x.gained(0, 4), 0);
        due("18: one A", x.gained(0, 5), 3000);
        due("18: one A, one B", x.gained(0, 199), 3200);
        due("18: the other", x.gained(1, 0), -21);
        due("18: week 200", x.gained(0, 200), LEAST);
        due("18: week -1", x.gained(0, -1), LEAST);
        due("18: parish 2", x.gained(2, 0), LEAST);
    }

    private static void finding() {
        BellYards x = new BellYards();
        due("19: lost", x.find(0, 0, 1, 0), -11);
        due("19: sheet 4", x.find(4, 0, 1, 0), -2);
        due("19: sheet -1", x.find(-1, 0, 1, 0), -2);
        due("19: e -1", x.find(0, -1, 1, 0), -2);
        due("19: e 100", x.find(0, 100, 1, 0), -2);
        due("19: weight 0", x.find(0, 0, 0, 0), -2);
        due("19: weight -2", x.find(0, 0, -2, 0), -2);
        due("19: weight 10000", x.find(0, 0, 10000, 0), -2);
        due("19: w -1", x.find(0, 0, 1, -1), -2);
        due("19: w 1000", x.find(0, 0, 1, 1000), -2);
        x.sheet(0, 2, 4);
        due("19: four items", x.find(0, 0, 1, 0), -12);
        due("19: count(8)", x.count(8), 2);
        x.sheet(0, 2, 5);
        for (int k = 0; k < 8; k++) {
            due("19: one more", x.find(0, 99, k == 0 ? -1 : 9999, 999), k);
        }
        due("19: full", x.find(0, 0, 1, 0), -4);
        x.sheet(0, 2, 4);
        due("19: four items when full", x.find(0, 0, 1, 0), -12);
        due("19: count(5)", x.count(5), 8);
        due("20: forget()", x.forget(), 8);
        due("20: forget() again", x.forget(), 0);
        due("20: could(0)", x.could(0), -2);
    }

    private static void couldAndNext() {
        BellYards x = withBells(5);
        x.tone(0, 0, 100);
        x.tone(1, 0, 110);
        x.tone(3, 0, 111);
        fillSheet(x, 0, 105, -1, 10000, -1, -1, 77);
        x.find(0, 5, -1, 0);
        due("21: none in a yard", x.could(0), 0);
        due("22: could be none", x.next(0), -1);
        for (int b = 0; b < 4; b++) {
            x.become(b, 2);
        }
        due("21: taken is not in a yard", x.could(0), 0);
        for (int b = 0; b < 4; b++) {
            x.become(b, 3);
        }
        due("21: just within, not known, not beyond", x.could(0), 7);
        x.find(0, 99, 250, 50);
        due("21: by weight", x.could(1), 6);
        x.find(0, 99, 250, 49);
        due("21: by weight beyond", x.could(2), 0);
        due("21: could(3)", x.could(3), -2);
        due("21: could(-1)", x.could(-1), -2);
        due("22: all like: the least", x.next(0), 1);
        x.tone(0, 3, 10);
        x.tone(1, 3, 11);
        due("22: parts by 11, cut", x.next(0), 3);
        x.tone(1, 3, 9);
        x.tone(2, 3, 10);
        due("22: one part of all", x.next(0), 1);
        x.tone(2, 4, 0);
        due("22: the not known are one part", x.next(0), 4);
        due("22: next(3)", x.next(3), -2);
        due("22: next(-1)", x.next(-1), -2);
        fillSheet(x, 1, 105, 0, 0, 0, 0);
        x.tone(2, 3, -1);
        x.tone(0, 3, -1);
        x.tone(1, 3, -1);
        x.tone(2, 4, -1);
        x.find(1, 5, -1, 0);
        due("21: all measured", x.could(3), 7);
        due("22: has all", x.next(3), -1);
        x.find(0, 0, 100, 0);
        due("22: could be one", x.next(4), -1);
        partsByTone();
    }

    private static void partsByTone() {
        BellYards x = withBells(4);
        for (int b = 0; b < 4; b++) {
            toYard(x, b);
        }
        fillSheet(x, 0, -1, -1, -1, -1, -1);
        x.find(0, 5, 150, 50);
        x.tone(0, 1, 10);
        x.tone(1, 1, 11);
        due("22: 10 and 11 are two parts by 11", x.next(0), 1);
        x.tone(1, 1, 21);
        x.tone(0, 1, 11);
        due("22: 11 and 21 are one part by 11", x.next(0), 0);
        x.forget();
        x.find(0, 5, -1, 0);
        x.tone(0, 1, 50);
        x.tone(1, 1, 50);
        for (int b = 0; b < 4; b++) {
            x.tone(b, 3, 11 * b);
        }
        due("22: four parts before two", x.next(0), 3);
        x.tone(0, 2, 5);
        due("22: not the one of three not known", x.next(0), 3);
        x.tone(3, 3, 22);
        x.tone(1, 3, 22);
        due("22: two and two before three", x.next(0), 1);
        x.forget();
        x.find(0, 0, -1, 0);
        x.tone(3, 3, 23);
        x.tone(1, 3, 24);
        due("22: e 0 tells all apart", x.next(0), 3);
    }

    private static void laying() {
        BellYards x = withBells(4);
        due("23: what 2", x.laying(2), -2);
        due("23: what -1", x.laying(-1), -2);
        due("24: laid(0)", x.laid(0), -2);
        for (int b = 0; b < 4; b++) {
            toYard(x, b);
        }
        fillSheet(x, 0, -1, -1, -1, -1, -1);
        x.find(0, 0, -1, 0);
        x.find(0, 0, 100, 0);
        due("23: both laid", x.laying(0), 2);
        due("24: gives way", x.laid(0), 1);
        due("24: the only one", x.laid(1), 0);
        x.find(0, 0, 100, 0);
        due("23: one is not laid", x.laying(0), 2);
        due("24: the first of like ones", x.laid(1), 0);
        due("24: none", x.laid(2), -1);
        x.forget();
        x.tone(0, 0, 100);
        x.tone(1, 0, 104);
        fillSheet(x, 0, 103, 0, 0, 0, 0);
        x.find(0, 10, 150, 50);
        due("24: the least difference", x.laid(0), 1);
        due("23: differences", x.laying(1), 1);
        fillSheet(x, 0, 104, 0, 0, 0, 0);
        x.find(0, 10, 150, 50);
        due("23: two laid", x.laying(0), 2);
        due("23: differences of two", x.laying(1), 3);
        due("24: first", x.laid(0), 0);
        due("24: second", x.laid(1), 1);
        x.tone(0, 0, 103);
        x.tone(1, 0, 103);
        due("24: of like ones the least bells", x.laid(0), 0);
        due("24: laid(2)", x.laid(2), -2);
        due("24: laid(-1)", x.laid(-1), -2);
        manyLaid();
    }

    private static void manyLaid() {
        BellYards x = withBells(20);
        for (int b = 0; b < 20; b++) {
            toYard(x, b);
            for (int t = 0; t < 5; t++) {
                x.tone(b, t, 99);
            }
        }
        x.sheet(0, 2, 5);
        for (int u = 0; u < 8; u++) {
            x.find(0, 99, -1, 0);
        }
        due("23: eight laid", x.laying(0), 8);
        due("23: the greatest differences", x.laying(1), 8 * 5 * 99);
        for (int u = 0; u < 8; u++) {
            due("24: laid in their order", x.laid(u), u);
        }
        x.tone(19, 0, 0);
        due("24: a better one for all: the last gets it", x.laid(7), 19);
        due("24: and the first keeps the least", x.laid(0), 0);
        due("23: less by 99", x.laying(1), 8 * 5 * 99 - 99);
    }

    private static void peals() {
        BellYards x = new BellYards();
        x.parish(0);
        x.parish(0);
        long[] none = {0, -1, 0, 2741, 0, -1};
        for (int what = 0; what <= 5; what++) {
            due("26: none rings, " + what, x.peal(0, what), none[what]);
        }
        due("26: what 6", x.peal(0, 6), -1000);
        due("26: what -1", x.peal(0, -1), -1000);
        due("26: parish 2", x.peal(2, 0), -1000);
        due("26: parish -1", x.peal(-1, 0), -1000);
        due("25: what 2", x.tune(2, 0), -2);
        due("25: what -1", x.tune(-1, 0), -2);
        due("25: t -1", x.tune(0, -1), -2);
        due("25: t 50", x.tune(0, 50), -2);
        due("25: t 49", x.tune(0, 49), 20);
        due("25: t 0", x.tune(0, 0), 49);
        due("25: scale -1", x.tune(1, -1), -2);
        due("25: scale 4096", x.tune(1, 4096), -2);
        due("25: scale 4095", x.tune(1, 4095), 2741);
        due("25: scale 9", x.tune(1, 9), 4095);
        x.bell(0, 500, 1800, 20);
        x.bell(0, 500, 1800, 20);
        x.bell(0, 900, 1800, 20);
        x.bell(1, 800, 1800, 20);
        x.bell(1, 800, 1800, 20);
        x.tone(0, 4, 1000);
        x.tone(1, 4, 1300);
        due("26: how many ring", x.peal(0, 0), 2);
        due("26: ground, of like ones the least", x.peal(0, 1), 0);
        due("26: whole", x.peal(0, 4), 1);
        due("26: nothing missing", x.peal(0, 3), 0);
        x.tune(1, 8);
        due("26: a step that is not of the scale", x.peal(0, 4), 0);
        x.tune(1, 9);
        x.tone(2, 4, 1301);
        due("26: the heaviest is ground", x.peal(0, 1), 2);
        due("26: out with t 0", x.peal(0, 2), 2);
        x.tone(2, 4, -1);
        x.become(1, 1);
        due("26: hidden does not ring", x.peal(0, 3), 8);
        due("26: no fill", x.peal(0, 5), -1);
        x.tone(3, 4, 100);
        x.tone(4, 4, 100);
        x.become(4, 2);
        due("26: fill of another parish", x.peal(0, 5), 4);
        x.become(3, 2);
        due("26: fill, of like ones the least", x.peal(0, 5), 3);
        x.become(3, 3);
        due("26: fill out of a yard", x.peal(0, 5), 3);
        x.become(3, 5);
        due("26: sent home is no fill", x.peal(0, 5), 4);
        due("26: sent home rings", x.peal(1, 0), 1);
        x.become(1, 2);
        due("26: the heavier fill", x.peal(0, 5), 4);
        due("26: fill where none rings", withState(2).peal(0, 5), -1);
        due("25: scale 0", x.tune(1, 0), 9);
        due("26: a scale of none, and one rings", x.peal(0, 4), 0);
        x.become(0, 1);
        due("26: a scale of none, and none rings", x.peal(0, 4), 0);
        due("25: the scale was 0", x.tune(1, 1), 0);
    }

    private static void steps() {
        BellYards x = withBells(2);
        x.parish(0);
        x.tone(1, 4, 1000);
        due("27: its nominal is not known", x.step(0, 0), -1);
        due("27: none rings there", x.step(1, 1), -1);
        int[] nominals = {1000, 1020, 1021, 1079, 1080, 1100, 2100, 2179, 2180, 2199, 2200, 980, 979, 0, 999};
        int[] want = {0, 0, -1, -1, 1, 1, 11, -1, 0, 0, 0, 0, -1, 2, 0};
        for (int i = 0; i < nominals.length; i++) {
            x.tone(0, 4, nominals[i]);
            due("27: step of " + nominals[i], x.step(0, 0), want[i]);
        }
        x.become(0, 2);
        due("27: of one that does not ring", x.step(0, 0), 0);
        x.bell(1, 9999, 1900, 1);
        x.tone(2, 4, 1500);
        due("27: of one of another parish", x.step(0, 2), 5);
        due("27: in the other peal", x.step(1, 1), 7);
        due("27: parish 2", x.step(2, 0), -2);
        due("27: parish -1", x.step(-1, 0), -2);
        due("27: bell 3", x.step(0, 3), -2);
        due("27: bell -1", x.step(0, -1), -2);
    }

    private static void batches() {
        BellYards x = withBells(13);
        due("28: weight -1", x.batch(-1, 0, 0, 0, 1), -2);
        due("28: weight 100000", x.batch(100000, 0, 0, 0, 1), -2);
        due("28: d -1", x.batch(0, -1, 0, 0, 1), -2);
        due("28: d 10000", x.batch(0, 10000, 0, 0, 1), -2);
        due("28: from -1", x.batch(0, 0, -1, 0, 1), -2);
        due("28: to 101", x.batch(0, 0, 0, 101, 1), -2);
        due("28: from above to", x.batch(0, 0, 21, 20, 1), -2);
        due("28: no bells", x.batch(0, 0, 0, 0, 0), -2);
        due("28: no such bell", x.batch(0, 0, 0, 0, 1 << 13), -2);
        due("28: bit 31", x.batch(0, 0, 0, 0, LEAST), -2);
        due("28: all bits", x.batch(0, 0, 0, 0, -1), -2);
        due("28: thirteen", x.batch(0, 0, 0, 0, 8191), -2);
        due("29: sets(0, 0)", x.sets(0, 0), -2);
        due("28: twelve", x.batch(99999, 9999, 100, 100, 4095), 0);
        due("29: none", x.sets(0, 0), 0);
        due("29: none at all", x.sets(0, 1), -1);
        due("30: of no sets", x.held(0, 0), 0);
        due("28: 300 of 100, 200, 300", x.batch(300, 0, 20, 20, 7), 1);
        due("29: how many", x.sets(1, 0), 2);
        due("29: the least", x.sets(1, 1), 3);
        due("28: 500 within 100", x.batch(500, 100, 0, 100, 7), 2);
        due("29: 400, 500, 600", x.sets(2, 0), 3);
        due("29: the least of them", x.sets(2, 1), 5);
        due("30: surely", x.held(2, 2), 2);
        due("30: maybe", x.held(2, 0), 1);
        due("30: not told", x.held(2, 3), 0);
        due("28: tin above", x.batch(300, 0, 21, 100, 7), 3);
        due("29: tin above", x.sets(3, 0), 0);
        due("28: none", x.batch(0, 0, 50, 60, 8190), 4);
        due("29: the set of none", x.sets(4, 1), 0);
        due("29: it alone", x.sets(4, 0), 1);
        due("30: not", x.held(4, 1), 0);
        due("28: every set of twelve", x.batch(4500, 9999, 0, 100, 8190), 5);
        due("29: all", x.sets(5, 0), 4096);
        due("28: full", x.batch(0, 0, 0, 0, 1), -4);
        due("28: wrong when full", x.batch(0, 0, 0, 0, 0), -2);
        due("29: what 2", x.sets(0, 2), -2);
        due("29: what -1", x.sets(0, -1), -2);
        due("29: batch 6", x.sets(6, 0), -2);
        due("30: batch 6", x.held(6, 0), -2);
        due("30: batch -1", x.held(-1, 0), -2);
        due("30: bell 13", x.held(0, 13), -2);
        due("30: bell -1", x.held(0, -1), -2);
    }

    private static void needs() {
        BellYards x = withBells(4);
        due("31: lost", x.melts(0, 0), -11);
        due("32: lost", x.shorts(0, 0), -11);
        due("31: sheet 4", x.melts(4, 0), -2);
        due("31: bell 4", x.melts(0, 4), -2);
        due("32: what 3", x.shorts(0, 3), -2);
        due("32: what -1", x.shorts(0, -1), -2);
        due("32: sheet -1", x.shorts(-1, 0), -2);
        x.sheet(0, 2, 0);
        due("32: nothing needed", x.shorts(0, 0), 0);
        due("32: no week", x.shorts(0, 1), -1);
        due("32: none melted", x.shorts(0, 2), 0);
        fillSheet(x, 0, -7, 0, 100);
        due("32: none to melt", x.shorts(0, 0), 100);
        due("32: in week 2", x.shorts(0, 1), 2);
        x.become(0, 2);
        toYard(x, 1);
        toYard(x, 2);
        due("31: heaviest first", x.melts(0, 2), 2);
        due("31: not needed", x.melts(0, 1), -1);
        due("31: it hangs", x.melts(0, 3), -1);
        typeAll(x, "a=1800,100@2;a=1939,1@3;b=1000,200@3");
        due("31: all are A in week 2", x.melts(0, 2), 2);
        fillSheet(x, 0, 300, 0, 0, 1, 199, 150);
        due("31: laws of the week of need", x.melts(0, 1), 3);
        due("31: then the rest", x.melts(0, 0), 5);
        due("32: short", x.shorts(0, 0), 50);
        due("32: its week", x.shorts(0, 1), 5);
        due("32: how many", x.shorts(0, 2), 3);
        fillSheet(x, 0, 601, 1);
        due("32: stock is 0 then", x.shorts(0, 0), 2);
        x.become(2, 4);
        due("31: melted is not to be melted", x.melts(0, 2), -1);
        fillSheet(x, 0, 1000000300, 0);
        due("32: just at most", x.shorts(0, 0), 1000000000);
        fillSheet(x, 0, 1000000299, 0);
        due("32: below", x.shorts(0, 0), 999999999);
        BellYards y = new BellYards();
        y.parish(0);
        for (int b = 0; b < 3; b++) {
            y.bell(0, 50, 1900 + b, 1);
            y.become(b, 2);
        }
        fillSheet(y, 0, 10, 60);
        due("31: of like ones the least", y.melts(0, 0), 0);
        due("31: the next one", y.melts(0, 1), 1);
        due("31: not the last", y.melts(0, 2), -1);
        typeAll(y, "a=1902,1");
        due("31: the least letter", y.melts(0, 2), 0);
        allMelted();
    }

    private static void allMelted() {
        BellYards x = withBells(20);
        for (int b = 0; b < 20; b++) {
            x.become(b, 2);
        }
        fillSheet(x, 0, 21000, 0);
        due("32: just enough", x.shorts(0, 0), 0);
        fillSheet(x, 0, 21001, 5);
        due("32: short by one, then by all", x.shorts(0, 0), 6);
        due("32: short as soon as all are melted", x.shorts(0, 1), 0);
        due("32: all are melted", x.shorts(0, 2), 20);
        x.sheet(0, 2, 60);
        for (int i = 0; i < 60; i++) {
            x.put(0, 2, i, 350);
        }
        due("32: sixty weeks are met", x.shorts(0, 1), -1);
        due("32: all are melted for them", x.shorts(0, 2), 20);
        x.put(0, 2, 59, 351);
        due("32: the last of sixty weeks", x.shorts(0, 1), 59);
        due("31: the lightest", x.melts(0, 0), 59);
        x.sheet(0, 0, 60);
        x.put(0, 0, 59, -1);
        due("32: bytes below 0", x.shorts(0, 2), 0);
    }

    private static void sending() {
        BellYards x = withBells(12);
        due("33: days", x.send(0, 0, 99), 5);
        due("33: days again", x.send(0, 0, 1), 99);
        due("33: days 0", x.send(0, 0, 0), -2);
        due("33: days 100", x.send(0, 0, 100), -2);
        due("33: due", x.send(0, 1, 0), 999);
        due("33: due again", x.send(0, 1, 999), 0);
        due("33: due -1", x.send(0, 1, -1), -2);
        due("33: due 1000", x.send(0, 1, 1000), -2);
        due("33: what 2", x.send(0, 2, 5), -2);
        due("33: what -1", x.send(0, -1, 5), -2);
        due("33: bell 12", x.send(12, 0, 5), -2);
        due("33: bell -1", x.send(-1, 0, 5), -2);
        due("34: what 3", x.sent(3), -2);
        due("34: what -1", x.sent(-1), -2);
        due("34: none in a yard", x.sent(1), 0);
        for (int b = 1; b < 12; b++) {
            toYard(x, b);
        }
        due("34: the first ten", x.sent(0), 2046);
        due("34: how many", x.sent(1), 10);
        due("34: weight", x.sent(2), 6500);
        for (int b = 1; b < 12; b++) {
            x.send(b, 0, 10);
            x.send(b, 1, 29);
        }
        due("34: the two heaviest of the ten", x.sent(0), 1 << 10 | 1 << 9);
        x.send(2, 0, 9);
        due("34: more go before weight", x.sent(0), 1 << 10 | 1 << 9 | 1 << 2);
        x.send(2, 1, 8);
        due("34: too late from the first day", x.sent(0), 1 << 10 | 1 << 9);
        x.send(3, 1, 10);
        x.send(4, 1, 20);
        x.send(5, 1, 30);
        due("34: by when they are due", x.sent(0), 1 << 10 | 1 << 5 | 1 << 9);
        for (int b = 1; b < 12; b++) {
            x.send(b, 1, b == 1 ? 10 : 0);
        }
        due("34: just in time", x.sent(0), 2);
        BellYards y = new BellYards();
        y.parish(0);
        for (int b = 0; b < 4; b++) {
            y.bell(0, b == 0 ? 20 : 30, 1900, 1);
            toYard(y, b);
            y.send(b, 1, 10);
        }
        due("34: of like ones the least as bits", y.sent(0), 6);
        y.send(3, 1, 9);
        due("34: still", y.sent(0), 6);
    }

    private static void claims() {
        BellYards x = withBells(2);
        x.parish(0);
        x.parish(3);
        due("35: parish 3", x.claim(3, 0, 0, 0), -2);
        due("35: parish -1", x.claim(-1, 0, 0, 0), -2);
        due("35: bell 2", x.claim(0, 2, 0, 0), -2);
        due("35: bell -1", x.claim(0, -1, 0, 0), -2);
        due("35: proof 5", x.claim(0, 0, 5, 0), -2);
        due("35: proof -1", x.claim(0, 0, -1, 0), -2);
        due("35: week 200", x.claim(0, 0, 0, 200), -2);
        due("35: week -1", x.claim(0, 0, 0, -1), -2);
        due("37: without any", x.whose(0, 199), -3);
        due("38: without any", x.lands(0, 199), 0);
        due("35: first", x.claim(0, 0, 4, 10), 1);
        due("35: second", x.claim(1, 0, 3, 20), 2);
        due("35: third", x.claim(1, 0, 3, 20), 3);
        due("35: fourth", x.claim(2, 0, 3, 199), 4);
        due("37: before", x.whose(0, 9), -3);
        due("37: from its week on", x.whose(0, 10), 0);
        due("37: the better rank", x.whose(0, 20), 1);
        due("37: a parish twice is one alone", x.whose(0, 198), 1);
        due("37: several", x.whose(0, 199), -1);
        due("37: the other bell", x.whose(1, 199), -3);
        due("38: before", x.lands(0, 9), 0);
        due("38: two of one land", x.lands(0, 20), 1);
        due("38: two lands", x.lands(0, 199), 2);
        x.moved(1, 2);
        due("38: of another land now", x.lands(0, 199), 3);
        due("36: rank", x.rank(3, 4), 3);
        due("37: like ranks of unlike proofs", x.whose(0, 20), -1);
        due("36: rank again", x.rank(3, 9), 4);
        due("37: the best again", x.whose(0, 199), 0);
        due("36: proof 5", x.rank(5, 0), -2);
        due("36: proof -1", x.rank(-1, 0), -2);
        due("36: r 10", x.rank(0, 10), -2);
        due("36: r -1", x.rank(0, -1), -2);
        for (int p = 0; p < 5; p++) {
            due("36: its own number at first", x.rank(p, 0), p == 3 ? 9 : p);
        }
        due("37: bell 2", x.whose(2, 0), -2);
        due("37: week 200", x.whose(0, 200), -2);
        due("37: week -1", x.whose(0, -1), -2);
        due("38: bell 2", x.lands(2, 0), -2);
        due("38: week 200", x.lands(0, 200), -2);
        due("38: week -1", x.lands(0, -1), -2);
        for (int c = 5; c <= 30; c++) {
            due("35: more", x.claim(0, 1, 0, 0), c);
        }
        due("35: full", x.claim(0, 1, 0, 0), -4);
        due("35: wrong when full", x.claim(0, 1, 5, 0), -2);
    }

    private static void sheets() {
        BellYards x = new BellYards();
        due("39: sheet -1", x.sheet(-1, 0, 1), -2);
        due("39: sheet 4", x.sheet(4, 0, 1), -2);
        due("39: form -1", x.sheet(0, -1, 1), -2);
        due("39: form 3", x.sheet(0, 3, 1), -2);
        due("39: 61 items", x.sheet(0, 0, 61), -2);
        due("39: wrong form and size", x.sheet(0, 3, -1), -2);
        due("39: below 0", x.sheet(0, 0, -1), -15);
        due("39: count(8)", x.count(8), 5);
        due("39: still lost", x.lose(0), -11);
        due("39: no items", x.sheet(0, 0, 0), 0);
        due("41: no item", x.put(0, 0, 0, 1), -12);
        due("40: no items", x.lose(0), 0);
        due("39: 60 items", x.sheet(3, 2, 60), 60);
        due("41: the last", x.put(3, 2, 59, LEAST + 1), 1);
        due("42: the last", x.get(3, 2, 59), LEAST + 1);
        due("39: new again", x.sheet(3, 2, 60), 60);
        due("42: 0 at first", x.get(3, 2, 59), 0);
        due("40: lose(-1)", x.lose(-1), -2);
        due("40: lose(4)", x.lose(4), -2);
        due("40: lose(3)", x.lose(3), 60);
        due("40: lost", x.lose(3), -11);
        due("40: count(8)", x.count(8), 1);
        forms();
    }

    private static void forms() {
        BellYards x = new BellYards();
        x.sheet(0, 0, 2);
        x.sheet(1, 1, 2);
        x.sheet(2, 2, 2);
        int[] values = {127, 128, -129, 256, 32767, 32768, 65536 + 5, LEAST};
        int[] bytes = {127, -128, 127, 0, -1, 0, 5, 0};
        int[] shorts = {127, 128, -129, 256, 32767, -32768, 5, 0};
        for (int i = 0; i < values.length; i++) {
            due("41: put", x.put(0, 0, 1, values[i]) + x.put(1, 1, 1, values[i]) + x.put(2, 2, 1, values[i]), 3);
            due("42: byte of " + values[i], x.get(0, 0, 1), bytes[i]);
            due("42: short of " + values[i], x.get(1, 1, 1), shorts[i]);
            due("42: int of " + values[i], x.get(2, 2, 1), values[i]);
        }
        due("41: sheet 4", x.put(4, 0, 0, 0), -2);
        due("41: sheet -1", x.put(-1, 0, 0, 0), -2);
        due("41: form 3", x.put(3, 3, 0, 0), -2);
        due("41: form -1", x.put(3, -1, 0, 0), -2);
        due("41: no finding yet", x.count(8), 0);
        due("41: lost", x.put(3, 0, 9, 0), -11);
        due("41: count(8) is 1", x.count(8), 1);
        due("41: another form, and no item", x.put(0, 1, 9, 0), -13);
        due("41: count(8) is 3", x.count(8), 3);
        due("41: item 2", x.put(0, 0, 2, 0), -12);
        due("41: item -1", x.put(0, 0, -1, 0), -12);
        due("41: count(8) is 2", x.count(8), 2);
        due("42: lost", x.get(3, 0, 0), LEAST);
        due("42: count(8) is 1", x.count(8), 1);
        due("42: sheet 4", x.get(4, 0, 0), LEAST);
        due("42: form 3", x.get(0, 3, 0), LEAST);
        due("42: BAD is no finding", x.count(8), 1);
        due("42: another form", x.get(0, 2, 0), LEAST);
        due("42: count(8) is 3", x.count(8), 3);
        due("42: item 2", x.get(0, 0, 2), LEAST);
        due("42: count(8) is 2", x.count(8), 2);
        due("42: item -1", x.get(0, 0, -1), LEAST);
    }

    private static void copying() {
        BellYards x = new BellYards();
        fillSheet(x, 0, 1, 2, 3, 4, 5);
        due("43: sheet 4", x.copy(0, 0, 4, 0, 1), -2);
        due("43: sheet -1", x.copy(-1, 0, 0, 0, 1), -2);
        due("43: s lost", x.copy(1, 0, 0, 0, 1), -11);
        due("43: t lost", x.copy(0, 0, 1, 0, 1), -11);
        x.sheet(1, 1, 5);
        due("43: unlike forms, and no items", x.copy(0, 9, 1, 0, 1), -14);
        due("43: count(8)", x.count(8), 4);
        due("43: onward", x.copy(0, 0, 0, 1, 4), 1);
        int[] onward = {1, 1, 2, 3, 4};
        for (int i = 0; i < 5; i++) {
            due("43: as they were", x.get(0, 2, i), onward[i]);
        }
        due("43: back", x.copy(0, 1, 0, 0, 4), 1);
        int[] back = {1, 2, 3, 4, 4};
        for (int i = 0; i < 5; i++) {
            due("43: as they were, back", x.get(0, 2, i), back[i]);
        }
        x.sheet(1, 2, 3);
        due("43: to another", x.copy(0, 2, 1, 0, 3), 1);
        due("43: its last", x.get(1, 2, 2), 4);
        due("43: too many for t", x.copy(0, 0, 1, 0, 4), -12);
        due("43: too many of s", x.copy(1, 1, 0, 0, 3), -12);
        due("43: i below 0", x.copy(0, -1, 1, 0, 1), -12);
        due("43: j below 0", x.copy(0, 0, 1, -1, 1), -12);
        due("43: n below 0", x.copy(0, 0, 1, 0, -1), -12);
        due("43: none at the end", x.copy(0, 5, 1, 3, 0), 1);
        due("43: none behind the end", x.copy(0, 6, 1, 3, 0), -12);
        due("43: greatest numbers", x.copy(0, Integer.MAX_VALUE, 1, Integer.MAX_VALUE, Integer.MAX_VALUE), -12);
        due("43: least numbers", x.copy(0, LEAST, 1, LEAST, LEAST), -12);
    }

    private static void writing() {
        BellYards x = withBells(3);
        due("44: lost", x.write(0, 0), -11);
        due("44: sheet 4", x.write(4, 0), -2);
        due("44: week 200", x.write(0, 200), -2);
        due("44: week -1", x.write(0, -1), -2);
        typeAll(x, "b=1800,200@4");
        for (int form = 0; form <= 2; form++) {
            x.sheet(0, form, 5);
            x.put(0, form, 3, 9);
            due("44: all bells", x.write(0, 4), 3);
            int[] want = {3, 1, 1, 9, 0};
            for (int i = 0; i < 5; i++) {
                due("44: letter", x.get(0, form, i), want[i]);
            }
        }
        x.sheet(0, 2, 2);
        due("44: as many as there are items", x.write(0, 3), 2);
        due("44: of the week told", x.get(0, 2, 1), 3);
        x.sheet(0, 2, 0);
        due("44: no items", x.write(0, 0), 0);
    }

    private static void counting() {
        BellYards x = withBells(4);
        x.parish(1);
        x.pass(7);
        toYard(x, 0);
        toYard(x, 1);
        toYard(x, 2);
        x.become(2, 4);
        x.sheet(0, 2, 5);
        x.find(0, 0, -1, 0);
        x.batch(0, 0, 0, 0, 1);
        x.claim(0, 0, 0, 0);
        x.lose(1);
        typeAll(x, "xyz");
        long[] want = {7, 2, 4, 2, 1, 1, 1, 1, 1, 3};
        for (int what = 0; what <= 9; what++) {
            due("45: count(" + what + ")", x.count(what), want[what]);
        }
        due("45: what 10", x.count(10), -2);
        due("45: what -1", x.count(-1), -2);
    }

    private static long digestOf(BellYards x) {
        long h = 17;
        for (int what : new int[] {0, 1, 2, 3, 4, 5, 6, 7, 9}) {
            h = 31 * h + x.count(what);
        }
        for (int p = 0; p < x.count(1); p++) {
            // The land is told by moving the parish and back.
            int there = x.moved(p, 0);
            int land = there == -2 ? 0 : there;
            x.moved(p, land);
            h = 31 * h + land;
            for (int what = 0; what <= 5; what++) {
                h = 31 * h + x.peal(p, what);
            }
            h = 31 * h + x.kept(p, x.count(0));
        }
        for (int b = 0; b < x.count(2); b++) {
            for (int what = 0; what <= 8; what++) {
                h = 31 * h + x.about(b, what);
            }
            for (int t = 0; t < 5; t++) {
                int v = x.tone(b, t, -1);
                x.tone(b, t, v);
                h = 31 * h + v;
            }
            h = 31 * h + x.letter(b, x.count(0));
        }
        h = 31 * h + x.fault();
        h = 31 * h + x.laying(0);
        h = 31 * h + x.laying(1);
        return 31 * h + x.sent(0);
    }

    private static void digests() {
        long h = 17;
        for (int k = 0; k < 9; k++) {
            h *= 31;
        }
        h = 31 * h - 1;
        h = h * 31 * 31 * 31;
        due("46: of a new object", new BellYards().digest(), h);
        BellYards x = withBells(4);
        x.parish(2);
        x.parish(3);
        x.pass(3);
        x.bell(1, 77, 1900, 3);
        typeAll(x, "a=1850,1;k=2@2");
        toYard(x, 0);
        toYard(x, 2);
        x.tone(0, 0, 50);
        x.tone(0, 4, 1900);
        x.tone(1, 4, 1000);
        x.list(1, 0);
        x.send(2, 1, 40);
        fillSheet(x, 0, 53, -1, -1, -1, -1);
        x.find(0, 5, 100, 9);
        due("46: of all that it tells", x.digest(), digestOf(x));
        long before = x.digest();
        x.get(3, 0, 0);
        due("46: a finding changes nothing in it", x.digest(), before);
        typeAll(x, "?");
        due("46: with a fault", x.digest(), digestOf(x));
        due("46: is not as before", x.digest() == before ? 1 : 0, 0);
    }
}
