import java.util.Arrays;

/**
 * Bells of parishes that were taken for guns: laws, lists, yards, bells
 * without names, peals, batches, needs, sending home and claims.
 * What each call answers is told by the project's document, promises 1 to 46.
 */
public final class BellYards {
    public static final int NONE = -1, BAD = -2, NOT = -3, FULL = -4;

    // Where -2 could be an answer, or where the document wants it so, BAD is one of these.
    private static final int FAR_BAD = -1000;
    private static final int LEAST_INT = 0x80000000;

    private static final int LAST_WEEK = 199;
    private static final int MOST_PASSED = 100;
    private static final int MOST_PARISHES = 8;
    private static final int LANDS = 4;
    private static final int MOST_BELLS = 20;
    private static final int MOST_WEIGHT = 9999;
    private static final int FIRST_YEAR = 1000;
    private static final int LAST_YEAR = 1939;
    private static final int MOST_TIN = 30;
    private static final int TONES = 5;
    private static final int NOMINAL = 4;
    private static final int MOST_TONE = 9999;
    private static final int MOST_CHANGES = 16;
    private static final int MOST_LAW_BYTES = 100;
    private static final int MOST_UNNAMED = 8;
    private static final int MOST_BATCHES = 6;
    private static final int MOST_BATCH_BELLS = 12;
    private static final int MOST_SENT = 10;
    private static final int MOST_CLAIMS = 30;
    private static final int PROOFS = 5;
    private static final int SHEETS = 4;
    private static final int FORMS = 3;
    private static final int MOST_ITEMS = 60;
    private static final int ITEMS_OF_A_BELL = 4;
    private static final int MOST_SHORT_TOLD = 1000000000;

    private static final int HANGS = 0, HIDDEN = 1, TAKEN = 2, IN_YARD = 3, MELTED = 4, SENT_HOME = 5;
    private static final int LETTER_D = 3;
    private static final int BYTES = 0, SHORTS = 1;
    private static final int NULL = 1, INDEX = 2, CAST = 3, STORE = 4, SIZE = 5;

    private int weekNow;
    private final int[] landOf = new int[MOST_PARISHES];
    private int parishCount;
    private final Bells bells = new Bells();
    private final Laws laws = new Laws();
    private final Unnamed[] unnamedOnes = new Unnamed[MOST_UNNAMED];
    private int unnamedCount;
    private final Laying theLaying = new Laying();
    private final Peal thePeal = new Peal();
    private final Batch[] batches = new Batch[MOST_BATCHES];
    private int batchCount;
    private final Melting melting = new Melting();
    private final Sending sending = new Sending();
    private final Claims claims = new Claims();
    private final Sheet[] sheets = new Sheet[SHEETS];
    private int latestFinding;

    public BellYards() {
        for (int s = 0; s < SHEETS; s++) {
            sheets[s] = new Sheet();
        }
    }

    // ---- parishes, bells

    public int pass(int n) {
        if (!isFrom(n, 1, MOST_PASSED) || weekNow + n > LAST_WEEK) {
            return BAD;
        }
        weekNow += n;
        return weekNow;
    }

    public int parish(int land) {
        if (!isLand(land)) {
            return BAD;
        }
        if (parishCount >= MOST_PARISHES) {
            return FULL;
        }
        landOf[parishCount] = land;
        parishCount++;
        return parishCount - 1;
    }

    public int moved(int parish, int land) {
        if (!isParish(parish) || !isLand(land) || landOf[parish] == land) {
            return BAD;
        }
        int before = landOf[parish];
        landOf[parish] = land;
        return before;
    }

    public int bell(int parish, int weight, int year, int tin) {
        if (!mayBeBell(parish, weight, year, tin)) {
            return BAD;
        }
        if (bells.isFull()) {
            return FULL;
        }
        return bells.add(new Bell(parish, weight, year, tin));
    }

    public int read(int s) {
        if (!isSheet(s)) {
            return BAD;
        }
        Sheet from = sheets[s];
        if (from.lost) {
            return finding(NULL);
        }
        int whole = from.size / ITEMS_OF_A_BELL;
        int done = 0;
        for (int k = 0; k < whole; k++) {
            int at = k * ITEMS_OF_A_BELL;
            if (bell(from.items[at], from.items[at + 1], from.items[at + 2], from.items[at + 3]) < 0) {
                break;
            }
            done++;
        }
        return done;
    }

    public int tone(int bell, int tone, int v) {
        if (!bells.has(bell) || !isFrom(tone, 0, TONES - 1) || !isFrom(v, 0, MOST_TONE) && v != NONE) {
            return FAR_BAD;
        }
        int[] tones = bells.row[bell].tones;
        int before = tones[tone];
        tones[tone] = v;
        return before;
    }

    public int about(int bell, int what) {
        if (!bells.has(bell)) {
            return FAR_BAD;
        }
        Bell of = bells.row[bell];
        switch (what) {
            case 0: return of.parish;
            case 1: return of.weight;
            case 2: return of.year;
            case 3: return of.tin;
            case 4: return of.stateNow();
            case 5: return of.listed;
            case 6: return of.changeCount;
            case 7: return of.days;
            case 8: return of.due;
            default: return FAR_BAD;
        }
    }

    public int become(int bell, int state) {
        if (!bells.has(bell) || !isFrom(state, HANGS, SENT_HOME)) {
            return BAD;
        }
        Bell of = bells.row[bell];
        int before = of.stateNow();
        if (!mayFollow(before, state)) {
            return NOT;
        }
        if (of.changeCount >= MOST_CHANGES) {
            return FULL;
        }
        of.change(state, weekNow);
        return before;
    }

    public int was(int bell, int week) {
        if (!bells.has(bell) || !isFrom(week, 0, weekNow)) {
            return BAD;
        }
        return bells.row[bell].stateIn(week);
    }

    // ---- laws, lists

    public int type(int b) {
        if (!isFrom(b, 0, 255)) {
            return BAD;
        }
        if (laws.length >= MOST_LAW_BYTES) {
            return FULL;
        }
        laws.append(b);
        return laws.length;
    }

    public int wipe() {
        int before = laws.length;
        laws.clear();
        return before;
    }

    public int fault() {
        return laws.faultPlace;
    }

    public int letter(int bell, int week) {
        if (!bells.has(bell) || !isWeek(week)) {
            return BAD;
        }
        return laws.letterOf(bells.row[bell], laws.inForceIn(week));
    }

    public int why(int bell, int week) {
        if (!bells.has(bell) || !isWeek(week)) {
            return BAD;
        }
        return laws.partFor(bells.row[bell], laws.inForceIn(week));
    }

    public int kept(int parish, int week) {
        if (!isParish(parish) || !isFrom(week, 0, weekNow)) {
            return BAD;
        }
        return bells.lightest(parish, week, laws.keptNumber(laws.inForceIn(week)));
    }

    public int list(int bell, int letter) {
        if (!bells.has(bell) || !isFrom(letter, 0, LETTER_D) && letter != NONE) {
            return FAR_BAD;
        }
        Bell of = bells.row[bell];
        int before = of.listed;
        of.listed = letter;
        return before;
    }

    public int gained(int parish, int week) {
        if (!isParish(parish) || !isWeek(week)) {
            return LEAST_INT;
        }
        int[] inForce = laws.inForceIn(week);
        int sum = 0;
        for (int i = 0; i < bells.size; i++) {
            Bell of = bells.row[i];
            if (of.parish == parish && of.listed != NONE) {
                sum += of.weight * (of.listed - laws.letterOf(of, inForce));
            }
        }
        return sum;
    }

    // ---- unnamed ones

    public int find(int s, int e, int weight, int w) {
        boolean weightWell = weight == NONE || isFrom(weight, 1, MOST_WEIGHT);
        if (!isSheet(s) || !isFrom(e, 0, 99) || !weightWell || !isFrom(w, 0, 999)) {
            return BAD;
        }
        Sheet from = sheets[s];
        if (from.lost) {
            return finding(NULL);
        }
        if (from.size < TONES) {
            return finding(INDEX);
        }
        if (unnamedCount >= MOST_UNNAMED) {
            return FULL;
        }
        Unnamed one = new Unnamed(e, weight, w);
        for (int t = 0; t < TONES; t++) {
            one.tones[t] = isFrom(from.items[t], 0, MOST_TONE) ? from.items[t] : NONE;
        }
        unnamedOnes[unnamedCount] = one;
        unnamedCount++;
        return unnamedCount - 1;
    }

    public int forget() {
        int before = unnamedCount;
        unnamedCount = 0;
        return before;
    }

    public int could(int unnamed) {
        if (!isUnnamed(unnamed)) {
            return BAD;
        }
        return unnamedOnes[unnamed].couldBeBits(bells);
    }

    public int next(int unnamed) {
        if (!isUnnamed(unnamed)) {
            return BAD;
        }
        return unnamedOnes[unnamed].toneToMeasure(bells);
    }

    public int laying(int what) {
        if (!isFrom(what, 0, 1)) {
            return BAD;
        }
        theLaying.layAll(unnamedOnes, unnamedCount, bells);
        return what == 0 ? theLaying.laidCount() : theLaying.differences();
    }

    public int laid(int unnamed) {
        if (!isUnnamed(unnamed)) {
            return BAD;
        }
        theLaying.layAll(unnamedOnes, unnamedCount, bells);
        return theLaying.bellOf(unnamed);
    }

    // ---- peals

    public int tune(int what, int v) {
        if (what == 0 && isFrom(v, 0, 49)) {
            int before = thePeal.tolerance;
            thePeal.tolerance = v;
            return before;
        }
        if (what == 1 && isFrom(v, 0, 4095)) {
            int before = thePeal.scale;
            thePeal.scale = v;
            return before;
        }
        return BAD;
    }

    public int peal(int parish, int what) {
        if (!isParish(parish) || !isFrom(what, 0, 5)) {
            return FAR_BAD;
        }
        thePeal.hear(bells, parish);
        return thePeal.told(bells, what);
    }

    public int step(int parish, int bell) {
        if (!isParish(parish) || !bells.has(bell)) {
            return BAD;
        }
        thePeal.hear(bells, parish);
        return thePeal.stepOf(bells.row[bell]);
    }

    // ---- batches, needs

    public int batch(int weight, int d, int from, int to, int bells) {
        boolean sharesWell = isFrom(from, 0, 100) && isFrom(to, 0, 100) && from <= to;
        if (!isFrom(weight, 0, 99999) || !isFrom(d, 0, 9999) || !sharesWell || !mayBeTold(bells)) {
            return BAD;
        }
        if (batchCount >= MOST_BATCHES) {
            return FULL;
        }
        Batch more = new Batch(weight, d, from, to);
        // A bell's weight and tin never change, so the sets are worked out once, here.
        more.workOut(this.bells, bells);
        batches[batchCount] = more;
        batchCount++;
        return batchCount - 1;
    }

    public int sets(int batch, int what) {
        if (!isBatch(batch) || !isFrom(what, 0, 1)) {
            return BAD;
        }
        return what == 0 ? batches[batch].setCount : batches[batch].leastSet;
    }

    public int held(int batch, int bell) {
        if (!isBatch(batch) || !bells.has(bell)) {
            return BAD;
        }
        if ((batches[batch].inAll >> bell & 1) == 1) {
            return 2;
        }
        return batches[batch].inSome >> bell & 1;
    }

    public int melts(int s, int bell) {
        if (!isSheet(s) || !bells.has(bell)) {
            return BAD;
        }
        if (sheets[s].lost) {
            return finding(NULL);
        }
        melting.plan(bells, laws, sheets[s]);
        return melting.weekOf[bell];
    }

    public int shorts(int s, int what) {
        if (!isSheet(s) || !isFrom(what, 0, 2)) {
            return BAD;
        }
        if (sheets[s].lost) {
            return finding(NULL);
        }
        melting.plan(bells, laws, sheets[s]);
        if (what == 0) {
            return (int) Math.min(melting.lacking, MOST_SHORT_TOLD);
        }
        return what == 1 ? melting.firstShortWeek : melting.meltedCount;
    }

    // ---- sending, claims

    public int send(int bell, int what, int v) {
        if (!bells.has(bell)) {
            return BAD;
        }
        Bell of = bells.row[bell];
        if (what == 0 && isFrom(v, 1, 99)) {
            int before = of.days;
            of.days = v;
            return before;
        }
        if (what == 1 && isFrom(v, 0, 999)) {
            int before = of.due;
            of.due = v;
            return before;
        }
        return BAD;
    }

    public int sent(int what) {
        if (!isFrom(what, 0, 2)) {
            return BAD;
        }
        sending.plan(bells);
        if (what == 0) {
            return sending.bestBits;
        }
        return what == 1 ? sending.bestCount : sending.bestWeight;
    }

    public int claim(int parish, int bell, int proof, int week) {
        if (!isParish(parish) || !bells.has(bell) || !isProof(proof) || !isWeek(week)) {
            return BAD;
        }
        if (claims.size >= MOST_CLAIMS) {
            return FULL;
        }
        claims.add(parish, bell, proof, week);
        return claims.size;
    }

    public int rank(int proof, int r) {
        if (!isProof(proof) || !isFrom(r, 0, 9)) {
            return BAD;
        }
        int before = claims.rankOf[proof];
        claims.rankOf[proof] = r;
        return before;
    }

    public int whose(int bell, int week) {
        if (!bells.has(bell) || !isWeek(week)) {
            return BAD;
        }
        return claims.ownerOf(bell, week);
    }

    public int lands(int bell, int week) {
        if (!bells.has(bell) || !isWeek(week)) {
            return BAD;
        }
        return claims.landCount(bell, week, landOf);
    }

    // ---- sheets

    public int sheet(int s, int form, int n) {
        if (!isSheet(s) || !isForm(form) || n > MOST_ITEMS) {
            return BAD;
        }
        if (n < 0) {
            return finding(SIZE);
        }
        sheets[s].renew(form, n);
        return n;
    }

    public int lose(int s) {
        if (!isSheet(s)) {
            return BAD;
        }
        if (sheets[s].lost) {
            return finding(NULL);
        }
        sheets[s].lost = true;
        return sheets[s].size;
    }

    public int put(int s, int form, int i, int v) {
        if (!isSheet(s) || !isForm(form)) {
            return BAD;
        }
        int found = findingAt(s, form, i);
        if (found != 0) {
            return finding(found);
        }
        sheets[s].store(i, v);
        return 1;
    }

    public int get(int s, int form, int i) {
        if (!isSheet(s) || !isForm(form)) {
            return LEAST_INT;
        }
        int found = findingAt(s, form, i);
        if (found != 0) {
            latestFinding = found;
            return LEAST_INT;
        }
        return sheets[s].items[i];
    }

    public int copy(int s, int i, int t, int j, int n) {
        if (!isSheet(s) || !isSheet(t)) {
            return BAD;
        }
        Sheet from = sheets[s];
        Sheet to = sheets[t];
        if (from.lost || to.lost) {
            return finding(NULL);
        }
        if (from.form != to.form) {
            return finding(STORE);
        }
        if (!from.hasItems(i, n) || !to.hasItems(j, n)) {
            return finding(INDEX);
        }
        System.arraycopy(from.items, i, to.items, j, n);
        return 1;
    }

    public int write(int s, int week) {
        if (!isSheet(s) || !isWeek(week)) {
            return BAD;
        }
        Sheet to = sheets[s];
        if (to.lost) {
            return finding(NULL);
        }
        int[] inForce = laws.inForceIn(week);
        int written = Math.min(bells.size, to.size);
        for (int i = 0; i < written; i++) {
            to.store(i, laws.letterOf(bells.row[i], inForce));
        }
        return written;
    }

    public int count(int what) {
        switch (what) {
            case 0: return weekNow;
            case 1: return parishCount;
            case 2: return bells.size;
            case 3: return bells.inState(IN_YARD);
            case 4: return bells.inState(MELTED);
            case 5: return unnamedCount;
            case 6: return batchCount;
            case 7: return claims.size;
            case 8: return latestFinding;
            case 9: return laws.length;
            default: return BAD;
        }
    }

    public long digest() {
        long h = 17;
        for (int what = 0; what <= 7; what++) {
            h = 31 * h + count(what);
        }
        h = 31 * h + count(9);
        for (int p = 0; p < parishCount; p++) {
            h = withParish(h, p);
        }
        for (int b = 0; b < bells.size; b++) {
            h = withBell(h, b);
        }
        h = 31 * h + fault();
        theLaying.layAll(unnamedOnes, unnamedCount, bells);
        h = 31 * h + theLaying.laidCount();
        h = 31 * h + theLaying.differences();
        return 31 * h + sent(0);
    }

    private long withParish(long before, int parish) {
        long h = 31 * before + landOf[parish];
        thePeal.hear(bells, parish);
        for (int what = 0; what <= 5; what++) {
            h = 31 * h + thePeal.told(bells, what);
        }
        return 31 * h + kept(parish, weekNow);
    }

    private long withBell(long before, int bell) {
        long h = before;
        for (int what = 0; what <= 8; what++) {
            h = 31 * h + about(bell, what);
        }
        for (int t = 0; t < TONES; t++) {
            h = 31 * h + bells.row[bell].tones[t];
        }
        return 31 * h + letter(bell, weekNow);
    }

    // ---- what may be told

    private static boolean isFrom(int v, int least, int most) {
        return v >= least && v <= most;
    }

    private static boolean isWeek(int week) {
        return isFrom(week, 0, LAST_WEEK);
    }

    private static boolean isLand(int land) {
        return isFrom(land, 0, LANDS - 1);
    }

    private static boolean isProof(int proof) {
        return isFrom(proof, 0, PROOFS - 1);
    }

    private static boolean isSheet(int s) {
        return isFrom(s, 0, SHEETS - 1);
    }

    private static boolean isForm(int form) {
        return isFrom(form, 0, FORMS - 1);
    }

    private boolean isParish(int parish) {
        return isFrom(parish, 0, parishCount - 1);
    }

    private boolean isUnnamed(int unnamed) {
        return isFrom(unnamed, 0, unnamedCount - 1);
    }

    private boolean isBatch(int batch) {
        return isFrom(batch, 0, batchCount - 1);
    }

    private boolean mayBeBell(int parish, int weight, int year, int tin) {
        return isParish(parish) && isFrom(weight, 1, MOST_WEIGHT)
            && isFrom(year, FIRST_YEAR, LAST_YEAR) && isFrom(tin, 0, MOST_TIN);
    }

    private boolean mayBeTold(int bits) {
        return bits > 0 && bits >> bells.size == 0 && Integer.bitCount(bits) <= MOST_BATCH_BELLS;
    }

    private static boolean mayFollow(int before, int state) {
        switch (state) {
            case HANGS: return before == HIDDEN;
            case HIDDEN: return before == HANGS || before == SENT_HOME;
            case TAKEN: return before == HANGS || before == SENT_HOME || before == HIDDEN;
            case IN_YARD: return before == TAKEN;
            case MELTED: return before == IN_YARD;
            case SENT_HOME: return before == IN_YARD;
            default: return false;
        }
    }

    private int finding(int number) {
        latestFinding = number;
        return -10 - number;
    }

    /** The finding of an item of a sheet that is one, treated as of a form; 0 without any. */
    private int findingAt(int s, int form, int i) {
        Sheet of = sheets[s];
        if (of.lost) {
            return NULL;
        }
        if (of.form != form) {
            return CAST;
        }
        return of.hasItems(i, 1) ? 0 : INDEX;
    }

    /** A bell with all that changes of it. */
    private static final class Bell {
        final int parish;
        final int weight;
        final int year;
        final int tin;
        final int[] tones = {NONE, NONE, NONE, NONE, NONE};
        final int[] changeWeeks = new int[MOST_CHANGES];
        final int[] changeStates = new int[MOST_CHANGES];
        int changeCount;
        int listed = NONE;
        int days = 5;
        int due = 999;

        Bell(int parish, int weight, int year, int tin) {
            this.parish = parish;
            this.weight = weight;
            this.year = year;
            this.tin = tin;
        }

        int stateNow() {
            return changeCount == 0 ? HANGS : changeStates[changeCount - 1];
        }

        int stateIn(int week) {
            for (int i = changeCount - 1; i >= 0; i--) {
                if (changeWeeks[i] <= week) {
                    return changeStates[i];
                }
            }
            return HANGS;
        }

        void change(int state, int week) {
            if (changeCount < MOST_CHANGES) {
                changeWeeks[changeCount] = week;
                changeStates[changeCount] = state;
                changeCount++;
            }
        }

        boolean isTakenOrInYard() {
            int state = stateNow();
            return state == TAKEN || state == IN_YARD;
        }

        boolean rings() {
            int state = stateNow();
            return (state == HANGS || state == SENT_HOME) && tones[NOMINAL] != NONE;
        }
    }

    /** All bells, by their numbers; below size no place of the row is empty. */
    private static final class Bells {
        final Bell[] row = new Bell[MOST_BELLS];
        int size;

        boolean has(int bell) {
            return isFrom(bell, 0, size - 1);
        }

        boolean isFull() {
            return size >= MOST_BELLS;
        }

        int add(Bell more) {
            if (isFull()) {
                return FULL;
            }
            row[size] = more;
            size++;
            return size - 1;
        }

        int inState(int state) {
            int number = 0;
            for (int i = 0; i < size; i++) {
                if (row[i].stateNow() == state) {
                    number++;
                }
            }
            return number;
        }

        /** So many of a parish's bells, the lightest that were not melted in a week, as bits. */
        int lightest(int parish, int week, int number) {
            int chosen = 0;
            for (int turn = 0; turn < number; turn++) {
                int more = NONE;
                for (int i = 0; i < size; i++) {
                    boolean open = row[i].parish == parish && (chosen >> i & 1) == 0
                        && row[i].stateIn(week) != MELTED;
                    if (open && (more == NONE || row[i].weight < row[more].weight)) {
                        more = i;
                    }
                }
                if (more == NONE) {
                    break;
                }
                chosen |= 1 << more;
            }
            return chosen;
        }
    }

    /** The text of the laws, read anew with each byte; with a fault it has no parts. */
    private static final class Laws {
        // A part and the ; behind it are four bytes at least.
        static final int MOST_PARTS = MOST_LAW_BYTES / 4 + 1;
        static final int KEEPS = 3;
        static final int KINDS = 4;

        final char[] text = new char[MOST_LAW_BYTES];
        int length;
        int faultPlace = NONE;
        final int[] kinds = new int[MOST_PARTS];
        final int[] years = new int[MOST_PARTS];
        final int[] amounts = new int[MOST_PARTS];
        final int[] weeks = new int[MOST_PARTS];
        int partCount;
        final int[] inForce = new int[KINDS];
        int place;
        int number;

        void append(int b) {
            if (length < MOST_LAW_BYTES) {
                text[length] = (char) b;
                length++;
                readAll();
            }
        }

        void clear() {
            length = 0;
            readAll();
        }

        /** For a, b, c and k the last part in force in a week, NONE without one; the row is used again. */
        int[] inForceIn(int week) {
            Arrays.fill(inForce, NONE);
            for (int p = 0; p < partCount; p++) {
                if (weeks[p] <= week) {
                    inForce[kinds[p]] = p;
                }
            }
            return inForce;
        }

        int partFor(Bell bell, int[] parts) {
            for (int kind = 0; kind < KEEPS; kind++) {
                int p = parts[kind];
                if (p != NONE && bell.year >= years[p] && bell.weight >= amounts[p]) {
                    return p;
                }
            }
            return NONE;
        }

        int letterOf(Bell bell, int[] parts) {
            int p = partFor(bell, parts);
            return p == NONE ? LETTER_D : kinds[p];
        }

        int keptNumber(int[] parts) {
            int p = parts[KEEPS];
            return p == NONE ? 1 : amounts[p];
        }

        private void readAll() {
            place = 0;
            partCount = 0;
            faultPlace = NONE;
            boolean well = length == 0 || readPart();
            for (int turn = 0; turn < MOST_LAW_BYTES && well && place < length; turn++) {
                well = readSign(';') && readPart();
            }
            if (!well) {
                partCount = 0;
            }
        }

        private boolean readPart() {
            int kind = kindOf(signAt(place));
            if (kind == NONE || partCount >= MOST_PARTS) {
                return failAt(place);
            }
            place++;
            if (!readSign('=')) {
                return false;
            }
            int year = 0;
            if (kind != KEEPS) {
                if (!readNumber(4, 4, FIRST_YEAR, LAST_YEAR) || !readSign(',')) {
                    return false;
                }
                year = number;
            }
            boolean well = kind == KEEPS ? readNumber(1, 1, 0, 9) : readNumber(1, 4, 1, MOST_WEIGHT);
            if (!well) {
                return false;
            }
            int amount = number;
            int week = 0;
            if (signAt(place) == '@') {
                place++;
                if (!readNumber(1, 3, 0, LAST_WEEK)) {
                    return false;
                }
                week = number;
            }
            addPart(kind, year, amount, week);
            return true;
        }

        private void addPart(int kind, int year, int amount, int week) {
            kinds[partCount] = kind;
            years[partCount] = year;
            amounts[partCount] = amount;
            weeks[partCount] = week;
            partCount++;
        }

        private boolean readSign(char sign) {
            if (signAt(place) != sign) {
                return failAt(place);
            }
            place++;
            return true;
        }

        /** A number of so many figures; one that may not be is a fault at its first figure. */
        private boolean readNumber(int fewest, int most, int least, int greatest) {
            int first = place;
            int value = 0;
            for (int figures = 0; figures < most && isFrom(signAt(place), '0', '9'); figures++) {
                value = 10 * value + signAt(place) - '0';
                place++;
            }
            if (place - first < fewest) {
                return failAt(place);
            }
            if (!isFrom(value, least, greatest)) {
                return failAt(first);
            }
            number = value;
            return true;
        }

        private boolean failAt(int where) {
            faultPlace = where;
            return false;
        }

        private int signAt(int where) {
            return isFrom(where, 0, length - 1) ? text[where] : NONE;
        }

        private static int kindOf(int sign) {
            return sign == 'k' ? KEEPS : isFrom(sign, 'a', 'c') ? sign - 'a' : NONE;
        }
    }

    /** A bell found in a yard, measured in part and with slips. */
    private static final class Unnamed {
        final int[] tones = new int[TONES];
        final int slip;
        final int weight;
        final int weightSlip;

        Unnamed(int slip, int weight, int weightSlip) {
            this.slip = slip;
            this.weight = weight;
            this.weightSlip = weightSlip;
        }

        boolean couldBe(Bell bell) {
            if (bell.stateNow() != IN_YARD) {
                return false;
            }
            if (weight != NONE && Math.abs(weight - bell.weight) > weightSlip) {
                return false;
            }
            for (int t = 0; t < TONES; t++) {
                if (apart(bell, t) > slip) {
                    return false;
                }
            }
            return true;
        }

        int couldBeBits(Bells bells) {
            int bits = 0;
            for (int i = 0; i < bells.size; i++) {
                if (couldBe(bells.row[i])) {
                    bits |= 1 << i;
                }
            }
            return bits;
        }

        int difference(Bell bell) {
            int sum = 0;
            for (int t = 0; t < TONES; t++) {
                sum += apart(bell, t);
            }
            return sum;
        }

        /** How far a tone is apart; 0 where one of the two has it not. */
        private int apart(Bell bell, int t) {
            return tones[t] == NONE || bell.tones[t] == NONE ? 0 : Math.abs(tones[t] - bell.tones[t]);
        }

        int toneToMeasure(Bells bells) {
            int bits = couldBeBits(bells);
            int best = NONE;
            if (Integer.bitCount(bits) < 2) {
                return best;
            }
            int bestGreatest = MOST_BELLS + 1;
            for (int t = 0; t < TONES; t++) {
                if (tones[t] == NONE) {
                    int greatest = greatestPart(bells, bits, t);
                    if (greatest < bestGreatest) {
                        best = t;
                        bestGreatest = greatest;
                    }
                }
            }
            return best;
        }

        private int greatestPart(Bells bells, int bits, int t) {
            int greatest = 0;
            for (int i = 0; i < bells.size; i++) {
                if ((bits >> i & 1) == 1) {
                    int part = partOf(bells.row[i].tones[t]);
                    int alike = 0;
                    for (int j = i; j < bells.size; j++) {
                        if ((bits >> j & 1) == 1 && partOf(bells.row[j].tones[t]) == part) {
                            alike++;
                        }
                    }
                    greatest = Math.max(greatest, alike);
                }
            }
            return greatest;
        }

        private int partOf(int tone) {
            int width = 2 * slip + 1;
            return tone == NONE || width <= 0 ? NONE : tone / width;
        }
    }

    /**
     * All unnamed ones laid to bells. What a laying is worth is one long, less being better:
     * how many are not laid, then the differences, then the bells as figures to the base 21
     * (20 for none), the first unnamed one's first. Such longs add up one by one, so the best
     * one over all sets of unnamed ones tells the whole laying.
     */
    private static final class Laying {
        static final int BASE = MOST_BELLS + 1;
        static final long[] FIGURES = {1801088541L, 85766121L, 4084101L, 194481L, 9261L, 441L, 21L, 1L};
        static final long DIFFERENCE = 37822859361L;
        // Eight ones differ by 8 times 5 times 99 at most, which is less than 4096.
        static final long NOT_LAID = 4096L * DIFFERENCE;
        static final long NEVER = 1L << 62;

        final long[] best = new long[1 << MOST_UNNAMED];
        final long[] change = new long[MOST_UNNAMED];
        int size;
        long worth;

        void layAll(Unnamed[] ones, int oneCount, Bells bells) {
            size = Math.min(oneCount, Math.min(ones.length, MOST_UNNAMED));
            int sets = 1 << size;
            Arrays.fill(best, NEVER);
            best[0] = 0;
            for (int u = 0; u < size; u++) {
                best[0] += notLaid(u);
            }
            for (int b = 0; b < bells.size; b++) {
                int takers = takersOf(ones, bells.row[b]);
                if (takers != 0) {
                    layBell(ones, bells.row[b], b, takers);
                }
            }
            worth = best[0];
            for (int set = 1; set < sets; set++) {
                worth = Math.min(worth, best[set]);
            }
        }

        private int takersOf(Unnamed[] ones, Bell bell) {
            int takers = 0;
            for (int u = 0; u < size; u++) {
                if (ones[u].couldBe(bell)) {
                    takers |= 1 << u;
                }
            }
            return takers;
        }

        /** From the greatest set down: so no set that has this bell already gets it twice. */
        private void layBell(Unnamed[] ones, Bell bell, int b, int takers) {
            for (int u = 0; u < size; u++) {
                change[u] = ones[u].difference(bell) * DIFFERENCE + b * FIGURES[u] - notLaid(u);
            }
            for (int set = (1 << size) - 1; set >= 0; set--) {
                if (best[set] != NEVER) {
                    int open = takers & ~set;
                    for (int u = 0; u < size; u++) {
                        if ((open >> u & 1) == 1) {
                            int with = set | 1 << u;
                            best[with] = Math.min(best[with], best[set] + change[u]);
                        }
                    }
                }
            }
        }

        private static long notLaid(int u) {
            return NOT_LAID + (BASE - 1) * FIGURES[u];
        }

        int laidCount() {
            return size - (int) (worth / NOT_LAID);
        }

        int differences() {
            return (int) (worth % NOT_LAID / DIFFERENCE);
        }

        int bellOf(int u) {
            long rest = worth;
            for (int k = MOST_UNNAMED - 1; k > u; k--) {
                rest /= BASE;
            }
            int figure = (int) (rest % BASE);
            return figure == BASE - 1 ? NONE : figure;
        }
    }

    /** What of a parish's bells can still be rung, as it was heard last. */
    private static final class Peal {
        static final int OCTAVE = 1200;
        static final int STEP_WIDTH = 100;
        static final int STEPS = 12;

        int tolerance = 20;
        int scale = 2741;
        int ringing;
        int ground;
        int groundNominal;
        int outs;
        int rung;

        void hear(Bells bells, int parish) {
            ringing = 0;
            ground = NONE;
            for (int i = 0; i < bells.size; i++) {
                Bell bell = bells.row[i];
                if (bell.parish == parish && bell.rings()) {
                    ringing++;
                    if (ground == NONE || bell.weight > bells.row[ground].weight) {
                        ground = i;
                        groundNominal = bell.tones[NOMINAL];
                    }
                }
            }
            hearSteps(bells, parish);
        }

        private void hearSteps(Bells bells, int parish) {
            outs = 0;
            rung = 0;
            for (int i = 0; i < bells.size; i++) {
                Bell bell = bells.row[i];
                if (bell.parish == parish && bell.rings()) {
                    int step = stepOf(bell);
                    if (step == NONE) {
                        outs++;
                    } else {
                        rung |= 1 << step;
                    }
                }
            }
        }

        int stepOf(Bell bell) {
            int nominal = bell.tones[NOMINAL];
            if (ground == NONE || nominal == NONE) {
                return NONE;
            }
            int above = Math.floorMod(nominal - groundNominal, OCTAVE);
            for (int k = 0; k <= STEPS; k++) {
                if (Math.abs(above - STEP_WIDTH * k) <= tolerance) {
                    return k % STEPS;
                }
            }
            return NONE;
        }

        int told(Bells bells, int what) {
            switch (what) {
                case 0: return ringing;
                case 1: return ground;
                case 2: return outs;
                case 3: return missing();
                case 4: return isWhole() ? 1 : 0;
                default: return filling(bells);
            }
        }

        private int missing() {
            return scale & ~rung;
        }

        private boolean isWhole() {
            return ringing > 0 && outs == 0 && rung == scale;
        }

        private int filling(Bells bells) {
            int best = NONE;
            for (int i = 0; i < bells.size; i++) {
                Bell bell = bells.row[i];
                if (bell.isTakenOrInYard() && (best == NONE || bell.weight > bells.row[best].weight)) {
                    int step = stepOf(bell);
                    if (step != NONE && (missing() >> step & 1) == 1) {
                        best = i;
                    }
                }
            }
            return best;
        }
    }

    /** What was melted at once, and the sets of bells that it could be. */
    private static final class Batch {
        final int weight;
        final int slip;
        final int leastShare;
        final int greatestShare;
        int setCount;
        int leastSet = NONE;
        int inAll;
        int inSome;

        Batch(int weight, int slip, int leastShare, int greatestShare) {
            this.weight = weight;
            this.slip = slip;
            this.leastShare = leastShare;
            this.greatestShare = greatestShare;
        }

        /** Each set differs from the one before by one bell alone, so that sums need not begin anew. */
        void workOut(Bells bells, int told) {
            int[] members = new int[MOST_BATCH_BELLS];
            int size = 0;
            for (int i = 0; i < bells.size && size < MOST_BATCH_BELLS; i++) {
                if ((told >> i & 1) == 1) {
                    members[size] = i;
                    size++;
                }
            }
            int set = 0;
            int together = 0;
            int tinTogether = 0;
            consider(set, together, tinTogether);
            for (int turn = 1; turn < 1 << size; turn++) {
                int b = members[Integer.numberOfTrailingZeros(turn)];
                set ^= 1 << b;
                int more = (set >> b & 1) == 1 ? bells.row[b].weight : -bells.row[b].weight;
                together += more;
                tinTogether += more * bells.row[b].tin;
                consider(set, together, tinTogether);
            }
        }

        private void consider(int set, int together, int tinTogether) {
            if (Math.abs(together - weight) > slip) {
                return;
            }
            if (tinTogether < leastShare * together || tinTogether > greatestShare * together) {
                return;
            }
            inAll = setCount == 0 ? set : inAll & set;
            inSome |= set;
            leastSet = setCount == 0 ? set : Math.min(leastSet, set);
            setCount++;
        }
    }

    /** When bells would have to be melted for what a sheet says is needed. */
    private static final class Melting {
        final int[] weekOf = new int[MOST_BELLS];
        int stock;
        long lacking;
        int firstShortWeek;
        int meltedCount;

        void plan(Bells bells, Laws laws, Sheet needs) {
            Arrays.fill(weekOf, NONE);
            stock = 0;
            lacking = 0;
            firstShortWeek = NONE;
            meltedCount = 0;
            for (int week = 0; week < needs.size; week++) {
                meet(bells, laws, week, Math.max(0, needs.items[week]));
            }
        }

        private void meet(Bells bells, Laws laws, int week, int need) {
            for (int turn = 0; turn <= MOST_BELLS && stock < need; turn++) {
                int b = choose(bells, laws, week);
                if (b == NONE) {
                    lacking += need - stock;
                    firstShortWeek = firstShortWeek == NONE ? week : firstShortWeek;
                    stock = 0;
                    return;
                }
                weekOf[b] = week;
                meltedCount++;
                stock += bells.row[b].weight;
            }
            stock -= need;
        }

        private int choose(Bells bells, Laws laws, int week) {
            int[] inForce = laws.inForceIn(week);
            int best = NONE;
            int bestLetter = LETTER_D + 1;
            for (int i = 0; i < bells.size; i++) {
                Bell bell = bells.row[i];
                if (weekOf[i] == NONE && bell.isTakenOrInYard()) {
                    int letter = laws.letterOf(bell, inForce);
                    boolean heavier = best != NONE && bell.weight > bells.row[best].weight;
                    if (letter < bestLetter || letter == bestLetter && heavier) {
                        best = i;
                        bestLetter = letter;
                    }
                }
            }
            return best;
        }
    }

    /** Which bells of a yard can be sent home in time, one after the other. */
    private static final class Sending {
        final int[] numbers = new int[MOST_SENT];
        int size;
        int bestBits;
        int bestCount;
        int bestWeight;

        void plan(Bells bells) {
            gather(bells);
            bestBits = 0;
            bestCount = 0;
            bestWeight = 0;
            for (int set = (1 << size) - 1; set > 0 && bestCount < size; set--) {
                if (Integer.bitCount(set) >= bestCount) {
                    consider(bells, set);
                }
            }
        }

        /** By when they are due: in that order a set can be sent, if it can be in any. */
        private void gather(Bells bells) {
            size = 0;
            for (int i = 0; i < bells.size && size < MOST_SENT; i++) {
                if (bells.row[i].stateNow() == IN_YARD) {
                    int at = size;
                    for (; at > 0 && bells.row[numbers[at - 1]].due > bells.row[i].due; at--) {
                        numbers[at] = numbers[at - 1];
                    }
                    numbers[at] = i;
                    size++;
                }
            }
        }

        private void consider(Bells bells, int set) {
            int day = 0;
            int weight = 0;
            int bits = 0;
            for (int k = 0; k < size; k++) {
                if ((set >> k & 1) == 1) {
                    Bell bell = bells.row[numbers[k]];
                    day += bell.days;
                    if (day > bell.due) {
                        return;
                    }
                    weight += bell.weight;
                    bits |= 1 << numbers[k];
                }
            }
            if (isBetter(Integer.bitCount(set), weight, bits)) {
                bestCount = Integer.bitCount(set);
                bestWeight = weight;
                bestBits = bits;
            }
        }

        private boolean isBetter(int number, int weight, int bits) {
            if (number != bestCount) {
                return number > bestCount;
            }
            return weight != bestWeight ? weight > bestWeight : bits < bestBits;
        }
    }

    /** What parishes claim, by which proofs, and how good these are. */
    private static final class Claims {
        static final int QUARREL = -1;

        final int[] parishes = new int[MOST_CLAIMS];
        final int[] numbers = new int[MOST_CLAIMS];
        final int[] proofs = new int[MOST_CLAIMS];
        final int[] weeks = new int[MOST_CLAIMS];
        final int[] rankOf = {0, 1, 2, 3, 4};
        int size;

        void add(int parish, int bell, int proof, int week) {
            if (size < MOST_CLAIMS) {
                parishes[size] = parish;
                numbers[size] = bell;
                proofs[size] = proof;
                weeks[size] = week;
                size++;
            }
        }

        private boolean isTold(int c, int bell, int week) {
            return numbers[c] == bell && weeks[c] <= week;
        }

        int ownerOf(int bell, int week) {
            int owner = NOT;
            int bestRank = 10;
            for (int c = 0; c < size; c++) {
                if (isTold(c, bell, week)) {
                    int of = rankOf[proofs[c]];
                    if (of < bestRank) {
                        bestRank = of;
                        owner = parishes[c];
                    } else if (of == bestRank && owner != parishes[c]) {
                        owner = QUARREL;
                    }
                }
            }
            return owner;
        }

        int landCount(int bell, int week, int[] landOf) {
            int seen = 0;
            for (int c = 0; c < size; c++) {
                if (isTold(c, bell, week)) {
                    seen |= 1 << landOf[parishes[c]];
                }
            }
            return Integer.bitCount(seen);
        }
    }

    /** A row of a form; its items lie in ints of which a form keeps the lowest bits. */
    private static final class Sheet {
        boolean lost = true;
        int form;
        int size;
        final int[] items = new int[MOST_ITEMS];

        void renew(int newForm, int newSize) {
            lost = false;
            form = newForm;
            size = newSize;
            Arrays.fill(items, 0);
        }

        boolean hasItems(int first, int number) {
            return first >= 0 && number >= 0 && number <= size - first;
        }

        void store(int i, int v) {
            items[i] = form == BYTES ? (byte) v : form == SHORTS ? (short) v : v;
        }
    }
}
