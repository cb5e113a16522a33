import java.util.Arrays;

/**
 * Holds a talk: forms with places to fill, words for their values, rows that read what is said,
 * and what to ask next. The promises are told in the project's document.
 */
public final class TalkKeeper {
    public static final int NONE = -1, BAD = -2, STATE = -3, FULL = -4;

    private static final int MAX_FORMS = 3;
    private static final int MAX_PLACES = 5;
    private static final int MIN_VALUES = 2;
    private static final int MAX_VALUES = 4;
    private static final int MAX_RULES = 6;
    private static final int MAX_WORDS = 64;
    private static final int MAX_ROWS = 20;
    private static final int MAX_ITEMS = 4;
    private static final int MAX_COST = 9;
    private static final int MAX_LINE = 8;
    private static final int MAX_KEPT = 10;
    private static final int MAX_READINGS = 1000000;

    private static final int PLAIN = 0;
    private static final int WORKED = 1;
    private static final int SECRET = 2;

    private static final int BAR = 0;
    private static final int NEED = 1;

    private static final int ITEM_WORD = 0;
    private static final int ITEM_PLACE = 1;
    private static final int ITEM_STAR = 2;

    private static final int FILL = 0;
    private static final int YES = 1;
    private static final int NO = 2;

    private static final int CONFIRM = 100;
    private static final int ASK = 200;

    private static final int PASS_COST = 6;
    private static final int NOT_HEARD = 100;
    private static final int HOPELESS = 100;
    private static final int MISSES_TO_HAND = 3;

    private final Form[] forms = new Form[MAX_FORMS];
    private int formCount = 0;
    private final RowBook rows = new RowBook();
    private final int[] pile = new int[MAX_FORMS];
    private int pileSize = 0;
    private final int[] line = new int[MAX_LINE];
    private int lineLength = 0;
    private final Reader reader = new Reader();
    private final Planner planner = new Planner();
    private final History history = new History();
    private int misses = 0;
    private int brokenRule = NONE;
    private int confirmPlace = NONE;
    private int confirmValue = NONE;

    public TalkKeeper() {
    }

    // ---- forms

    public int form() {
        if (formCount >= MAX_FORMS) {
            return FULL;
        }
        forms[formCount] = new Form();
        formCount++;
        return formCount - 1;
    }

    public int place(int f, int kind, int n) {
        Form form = formAt(f);
        if (form == null) {
            return NONE;
        }
        if ((kind != PLAIN && kind != SECRET) || !isSize(n)) {
            return BAD;
        }
        if (isInTalk(f)) {
            return STATE;
        }
        return form.addPlace(kind, n, 0, 0);
    }

    public int worked(int f, int n, int a, int b) {
        Form form = formAt(f);
        if (form == null || !form.hasPlace(a) || !form.hasPlace(b)) {
            return NONE;
        }
        if (!isSize(n) || form.isWorked(a) || form.isWorked(b)) {
            return BAD;
        }
        if (isInTalk(f)) {
            return STATE;
        }
        return form.addPlace(WORKED, n, a, b);
    }

    public int bar(int f, int a, int v, int b, int w) {
        Form form = formAt(f);
        if (form == null || !form.hasValue(a, v) || !form.hasValue(b, w)) {
            return NONE;
        }
        if (a == b) {
            return BAD;
        }
        if (isInTalk(f)) {
            return STATE;
        }
        return form.addRule(BAR, a, v, b, w);
    }

    public int need(int f, int a, int v, int b) {
        Form form = formAt(f);
        if (form == null || !form.hasValue(a, v) || !form.hasPlace(b)) {
            return NONE;
        }
        if (a == b || form.isWorked(b)) {
            return BAD;
        }
        if (isInTalk(f)) {
            return STATE;
        }
        return form.addRule(NEED, a, v, b, 0);
    }

    public int word(int f, int place, int v, int word) {
        Form form = formAt(f);
        if (form == null || !form.hasValue(place, v) || !isWord(word)) {
            return NONE;
        }
        if (form.isWorked(place)) {
            return BAD;
        }
        if (form.placeSaidBy(word) != NONE) {
            return STATE;
        }
        form.teach(word, place, v);
        return 0;
    }

    public int item(int what, int k) {
        if (!isItem(what, k)) {
            return BAD;
        }
        return rows.addItem(what, k);
    }

    public int row(int f, int cost, int act) {
        Form form = formAt(f);
        if (form == null || rows.itemsLackPlace(form)) {
            return NONE;
        }
        if (cost < 1 || cost > MAX_COST || act < FILL || act > NO) {
            return BAD;
        }
        if (rows.itemsNameWorked(form) || (act != FILL && rows.itemsNamePlace())) {
            return BAD;
        }
        return rows.addRow(f, cost, act);
    }

    // ---- the talk

    public int open(int f) {
        Form form = formAt(f);
        if (form == null) {
            return NONE;
        }
        if (isInTalk(f) || pileSize >= MAX_FORMS) {
            return STATE;
        }
        form.empty();
        pile[pileSize] = f;
        pileSize++;
        turnPage();
        return pileSize;
    }

    public int close() {
        if (pileSize <= 0) {
            return STATE;
        }
        pileSize--;
        turnPage();
        return pile[pileSize];
    }

    public int say(int word) {
        if (!isWord(word)) {
            return NONE;
        }
        if (lineLength >= MAX_LINE) {
            return FULL;
        }
        line[lineLength] = word;
        lineLength++;
        return lineLength;
    }

    public int hear() {
        Form form = formAt(uppermost());
        if (lineLength <= 0 || form == null) {
            return STATE;
        }
        reader.read(form, uppermost(), rows, line, lineLength);
        lineLength = 0;
        brokenRule = NONE;
        if (!reader.isHeard()) {
            misses = Math.min(MISSES_TO_HAND, misses + 1);
            return NOT_HEARD + reader.leastCost();
        }
        misses = 0;
        history.keep(forms);
        brokenRule = takeLine(form);
        forgetConfirm();
        return reader.leastCost();
    }

    public int back() {
        if (history.size() <= 0) {
            return STATE;
        }
        history.restore(forms);
        forgetConfirm();
        return history.size();
    }

    public int act() {
        Form form = formAt(uppermost());
        if (form == null) {
            return STATE;
        }
        forgetConfirm();
        if (form.questions() == 0) {
            return 0;
        }
        int doubtful = form.placeToConfirm();
        if (doubtful != NONE) {
            confirmPlace = doubtful;
            confirmValue = form.leastValue(doubtful);
            return CONFIRM + 10 * confirmPlace + confirmValue;
        }
        return ASK + 10 * planner.placeToAsk(form);
    }

    public int worst() {
        Form form = formAt(uppermost());
        if (form == null) {
            return STATE;
        }
        return planner.fewestQuestions(form);
    }

    // ---- looking

    public int about(int f, int place, int what) {
        Form form = formAt(f);
        if (form == null || !form.hasPlace(place)) {
            return NONE;
        }
        switch (what) {
            case 0:
                return form.setOf(place);
            case 1:
                return asNumber(form.sureValue(place) != NONE);
            case 2:
                return asNumber(form.isWanted(place));
            case 3:
                return form.kindOf(place);
            case 4:
                return form.sizeOf(place);
            default:
                return NONE;
        }
    }

    public int said(int f, int place, int v) {
        Form form = formAt(f);
        if (form == null || !form.hasValue(place, v)) {
            return NONE;
        }
        return form.leastWord(place, v);
    }

    public int heard(int what) {
        switch (what) {
            case 0:
                return reader.leastCost();
            case 1:
                return asNumber(reader.isHeard());
            case 2:
                return reader.mostPassed();
            case 3:
                return reader.leastReadings();
            case 4:
                return brokenRule;
            default:
                return NONE;
        }
    }

    public int count(int what) {
        switch (what) {
            case 0:
                return pileSize;
            case 1:
                return uppermost();
            case 2:
                return asNumber(misses >= MISSES_TO_HAND);
            case 3:
                return history.size();
            case 4:
                return lineLength;
            case 5:
                return rows.itemCount();
            case 6:
                return formCount;
            case 7:
                return rows.rowCount();
            default:
                return NONE;
        }
    }

    // ---- helpers

    private static int asNumber(boolean flag) {
        return flag ? 1 : 0;
    }

    private static boolean isSize(int n) {
        return n >= MIN_VALUES && n <= MAX_VALUES;
    }

    private static boolean isWord(int word) {
        return word >= 0 && word < MAX_WORDS;
    }

    private static boolean isItem(int what, int k) {
        switch (what) {
            case ITEM_WORD:
                return isWord(k);
            case ITEM_PLACE:
                return k >= 0 && k < MAX_PLACES;
            case ITEM_STAR:
                return k == 0;
            default:
                return false;
        }
    }

    private Form formAt(int f) {
        return f >= 0 && f < formCount && f < MAX_FORMS ? forms[f] : null;
    }

    private boolean isInTalk(int f) {
        for (int i = 0; i < pileSize; i++) {
            if (pile[i] == f) {
                return true;
            }
        }
        return false;
    }

    private int uppermost() {
        return pileSize > 0 ? pile[pileSize - 1] : NONE;
    }

    /** Another form is spoken of: no line of before can be taken back, no question answered. */
    private void turnPage() {
        history.clear();
        forgetConfirm();
    }

    private void forgetConfirm() {
        confirmPlace = NONE;
        confirmValue = NONE;
    }

    /** Changes the form as the line that was read says; answers the broken rule. */
    private int takeLine(Form form) {
        int answer = reader.answer();
        if (confirmPlace == NONE || (answer != YES && answer != NO)) {
            return fillPlaces(form);
        }
        if (answer == YES) {
            return form.settle(confirmPlace, 1 << confirmValue, confirmValue);
        }
        form.strike(confirmPlace, confirmValue);
        return NONE;
    }

    private int fillPlaces(Form form) {
        int firstBroken = NONE;
        for (int p = 0; p < form.placeCount(); p++) {
            int broken = fillPlace(form, p);
            if (firstBroken == NONE) {
                firstBroken = broken;
            }
        }
        return firstBroken;
    }

    private int fillPlace(Form form, int p) {
        int values = reader.valuesFor(p);
        if (form.isWorked(p) || values == 0) {
            return NONE;
        }
        if (reader.mayLeave(p)) {
            return form.settle(p, values | form.setOf(p), NONE);
        }
        return form.settle(p, values, onlyValue(values));
    }

    /** The value of a set that holds just one, else NONE. */
    private static int onlyValue(int values) {
        for (int v = 0; v < MAX_VALUES; v++) {
            if (values == 1 << v) {
                return v;
            }
        }
        return NONE;
    }

    /** A form: its places and what they hold, its rules, and what its words say. */
    private static final class Form {
        private int places = 0;
        private final int[] kinds = new int[MAX_PLACES];
        private final int[] sizes = new int[MAX_PLACES];
        private final int[] firstParts = new int[MAX_PLACES];
        private final int[] secondParts = new int[MAX_PLACES];
        private final int[] sets = new int[MAX_PLACES];
        private final int[] sureValues = new int[MAX_PLACES];
        private int rules = 0;
        private final int[] ruleKinds = new int[MAX_RULES];
        private final int[] leftPlaces = new int[MAX_RULES];
        private final int[] leftValues = new int[MAX_RULES];
        private final int[] rightPlaces = new int[MAX_RULES];
        private final int[] rightValues = new int[MAX_RULES];
        private final int[] wordPlaces = new int[MAX_WORDS];
        private final int[] wordValues = new int[MAX_WORDS];

        Form() {
            Arrays.fill(sureValues, NONE);
            Arrays.fill(wordPlaces, NONE);
            Arrays.fill(wordValues, NONE);
        }

        int placeCount() {
            return places;
        }

        boolean hasPlace(int p) {
            return p >= 0 && p < places && p < MAX_PLACES;
        }

        boolean hasValue(int p, int v) {
            return hasPlace(p) && v >= 0 && v < sizes[p];
        }

        boolean isWorked(int p) {
            return hasPlace(p) && kinds[p] == WORKED;
        }

        int kindOf(int p) {
            return hasPlace(p) ? kinds[p] : NONE;
        }

        int sizeOf(int p) {
            return hasPlace(p) ? sizes[p] : 0;
        }

        int addPlace(int kind, int n, int a, int b) {
            if (places >= MAX_PLACES) {
                return FULL;
            }
            kinds[places] = kind;
            sizes[places] = n;
            firstParts[places] = a;
            secondParts[places] = b;
            places++;
            return places - 1;
        }

        int addRule(int kind, int a, int v, int b, int w) {
            if (rules >= MAX_RULES) {
                return FULL;
            }
            ruleKinds[rules] = kind;
            leftPlaces[rules] = a;
            leftValues[rules] = v;
            rightPlaces[rules] = b;
            rightValues[rules] = w;
            rules++;
            return rules - 1;
        }

        void teach(int word, int p, int v) {
            if (isWord(word)) {
                wordPlaces[word] = p;
                wordValues[word] = v;
            }
        }

        int placeSaidBy(int word) {
            return isWord(word) ? wordPlaces[word] : NONE;
        }

        int valueSaidBy(int word) {
            return isWord(word) ? wordValues[word] : NONE;
        }

        int leastWord(int p, int v) {
            for (int word = 0; word < MAX_WORDS; word++) {
                if (wordPlaces[word] == p && wordValues[word] == v) {
                    return word;
                }
            }
            return NONE;
        }

        void empty() {
            Arrays.fill(sets, 0);
            Arrays.fill(sureValues, NONE);
        }

        /** The value of which a place is sure, a worked one too, or NONE. */
        int sureValue(int p) {
            if (!hasPlace(p)) {
                return NONE;
            }
            if (kinds[p] != WORKED) {
                return sureValues[p];
            }
            int a = firstParts[p];
            int b = secondParts[p];
            if (!hasPlace(a) || !hasPlace(b) || sizes[p] <= 0) {
                return NONE;
            }
            if (sureValues[a] == NONE || sureValues[b] == NONE) {
                return NONE;
            }
            return (sureValues[a] + sureValues[b]) % sizes[p];
        }

        int setOf(int p) {
            if (!isWorked(p)) {
                return hasPlace(p) ? sets[p] : 0;
            }
            int v = sureValue(p);
            return v == NONE ? 0 : 1 << v;
        }

        int leastValue(int p) {
            int values = setOf(p);
            for (int v = 0; v < MAX_VALUES; v++) {
                if ((values >> v & 1) != 0) {
                    return v;
                }
            }
            return NONE;
        }

        boolean isWanted(int p) {
            if (!hasPlace(p) || kinds[p] == WORKED) {
                return false;
            }
            boolean free = true;
            for (int r = 0; r < rules; r++) {
                if (ruleKinds[r] == NEED && rightPlaces[r] == p) {
                    if (sureValue(leftPlaces[r]) == leftValues[r]) {
                        return true;
                    }
                    free = false;
                }
            }
            return free;
        }

        /** The places that are wanted and not sure, as bits. */
        int questions() {
            int found = 0;
            for (int p = 0; p < places; p++) {
                if (sureValue(p) == NONE && isWanted(p)) {
                    found |= 1 << p;
                }
            }
            return found;
        }

        /** The least place in doubt of which the talk may speak, or NONE. */
        int placeToConfirm() {
            int questions = questions();
            for (int p = 0; p < places; p++) {
                if ((questions >> p & 1) != 0 && sets[p] != 0 && kinds[p] != SECRET) {
                    return p;
                }
            }
            return NONE;
        }

        int firstBrokenBar() {
            for (int r = 0; r < rules; r++) {
                if (ruleKinds[r] == BAR && sureValue(leftPlaces[r]) == leftValues[r]
                        && sureValue(rightPlaces[r]) == rightValues[r]) {
                    return r;
                }
            }
            return NONE;
        }

        /** Puts what a place holds, with no look at the bars. */
        void put(int p, int values, int sureOf) {
            if (hasPlace(p)) {
                sets[p] = values;
                sureValues[p] = sureOf;
            }
        }

        /** Puts what a place holds unless that breaks a bar: the first such bar, or NONE. */
        int settle(int p, int values, int sureOf) {
            int oldSet = setOf(p);
            int oldSure = sureValue(p);
            put(p, values, sureOf);
            int broken = firstBrokenBar();
            if (broken != NONE) {
                put(p, oldSet, oldSure);
            }
            return broken;
        }

        void strike(int p, int v) {
            if (hasValue(p, v)) {
                put(p, sets[p] & ~(1 << v), NONE);
            }
        }

        /** Copies what the places hold to the rows of a history. */
        void copyTo(int[] setRow, int[] sureRow, int at) {
            if (holdsForm(setRow, at) && holdsForm(sureRow, at)) {
                System.arraycopy(sets, 0, setRow, at, MAX_PLACES);
                System.arraycopy(sureValues, 0, sureRow, at, MAX_PLACES);
            }
        }

        void copyFrom(int[] setRow, int[] sureRow, int at) {
            if (holdsForm(setRow, at) && holdsForm(sureRow, at)) {
                System.arraycopy(setRow, at, sets, 0, MAX_PLACES);
                System.arraycopy(sureRow, at, sureValues, 0, MAX_PLACES);
            }
        }

        private static boolean holdsForm(int[] row, int at) {
            return row != null && at >= 0 && at <= row.length - MAX_PLACES;
        }
    }

    /** All rows; the items that wait lie already where the next row keeps its own. */
    private static final class RowBook {
        private int rowCount = 0;
        private int waiting = 0;
        private final int[] rowForms = new int[MAX_ROWS];
        private final int[] costs = new int[MAX_ROWS];
        private final int[] acts = new int[MAX_ROWS];
        private final int[] lengths = new int[MAX_ROWS];
        private final int[] kinds = new int[(MAX_ROWS + 1) * MAX_ITEMS];
        private final int[] keys = new int[(MAX_ROWS + 1) * MAX_ITEMS];

        int rowCount() {
            return rowCount;
        }

        int itemCount() {
            return waiting;
        }

        int addItem(int kind, int key) {
            if (waiting >= MAX_ITEMS) {
                return FULL;
            }
            kinds[rowCount * MAX_ITEMS + waiting] = kind;
            keys[rowCount * MAX_ITEMS + waiting] = key;
            waiting++;
            return waiting;
        }

        boolean itemsNamePlace() {
            for (int i = 0; i < waiting; i++) {
                if (kinds[rowCount * MAX_ITEMS + i] == ITEM_PLACE) {
                    return true;
                }
            }
            return false;
        }

        boolean itemsLackPlace(Form form) {
            for (int i = 0; i < waiting; i++) {
                int at = rowCount * MAX_ITEMS + i;
                if (kinds[at] == ITEM_PLACE && !form.hasPlace(keys[at])) {
                    return true;
                }
            }
            return false;
        }

        boolean itemsNameWorked(Form form) {
            for (int i = 0; i < waiting; i++) {
                int at = rowCount * MAX_ITEMS + i;
                if (kinds[at] == ITEM_PLACE && form.isWorked(keys[at])) {
                    return true;
                }
            }
            return false;
        }

        int addRow(int f, int cost, int act) {
            if (waiting <= 0) {
                return STATE;
            }
            if (rowCount >= MAX_ROWS) {
                return FULL;
            }
            rowForms[rowCount] = f;
            costs[rowCount] = cost;
            acts[rowCount] = act;
            lengths[rowCount] = waiting;
            waiting = 0;
            rowCount++;
            return rowCount - 1;
        }

        boolean isOfForm(int r, int f) {
            return isRow(r) && rowForms[r] == f;
        }

        int costOf(int r) {
            return isRow(r) ? costs[r] : 0;
        }

        int actOf(int r) {
            return isRow(r) ? acts[r] : NONE;
        }

        int lengthOf(int r) {
            return isRow(r) ? lengths[r] : 0;
        }

        int kindOfItem(int r, int i) {
            return isItemOf(r, i) ? kinds[r * MAX_ITEMS + i] : NONE;
        }

        int keyOfItem(int r, int i) {
            return isItemOf(r, i) ? keys[r * MAX_ITEMS + i] : NONE;
        }

        private boolean isRow(int r) {
            return r >= 0 && r < rowCount && r < MAX_ROWS;
        }

        private boolean isItemOf(int r, int i) {
            return isRow(r) && i >= 0 && i < lengths[r];
        }
    }

    /**
     * Reads a line from its end on: for each position, what holds of the least readings of the
     * words from there to the end. So no reading is ever made one by one.
     */
    private static final class Reader {
        /** Stands in a set of fillings for a reading that leaves the place as it is. */
        private static final int LEFT = 1 << MAX_VALUES;
        private static final int VALUES = LEFT - 1;

        private final int[] words = new int[MAX_LINE];
        private int length = 0;
        private final int[] costs = new int[MAX_LINE + 1];
        private final int[] ways = new int[MAX_LINE + 1];
        private final int[] passed = new int[MAX_LINE + 1];
        private final boolean[] usesRow = new boolean[MAX_LINE + 1];
        private final int[] fillings = new int[(MAX_LINE + 1) * MAX_PLACES];
        private int answer = NONE;

        int leastCost() {
            return costs[0];
        }

        boolean isHeard() {
            return usesRow[0];
        }

        int mostPassed() {
            return passed[0];
        }

        int leastReadings() {
            return ways[0];
        }

        /** The act of all least readings if each is one row for the whole line, else NONE. */
        int answer() {
            return answer;
        }

        int valuesFor(int p) {
            return p >= 0 && p < MAX_PLACES ? fillings[p] & VALUES : 0;
        }

        boolean mayLeave(int p) {
            return p >= 0 && p < MAX_PLACES && (fillings[p] & LEFT) != 0;
        }

        void read(Form form, int f, RowBook rows, int[] line, int count) {
            length = Math.min(count, Math.min(line.length, MAX_LINE));
            for (int i = 0; i < length; i++) {
                words[i] = line[i];
            }
            startAtEnd();
            for (int at = length - 1; at >= 0; at--) {
                passWord(at);
                for (int r = 0; r < rows.rowCount(); r++) {
                    if (rows.isOfForm(r, f) && fits(form, rows, r, at)) {
                        useRow(form, rows, r, at);
                    }
                }
            }
            answer = commonAnswer(form, f, rows);
        }

        private void startAtEnd() {
            costs[length] = 0;
            ways[length] = 1;
            passed[length] = 0;
            usesRow[length] = false;
            for (int p = 0; p < MAX_PLACES; p++) {
                fillings[length * MAX_PLACES + p] = LEFT;
            }
        }

        private void passWord(int at) {
            costs[at] = PASS_COST + costs[at + 1];
            ways[at] = ways[at + 1];
            passed[at] = 1 + passed[at + 1];
            usesRow[at] = usesRow[at + 1];
            for (int p = 0; p < MAX_PLACES; p++) {
                fillings[at * MAX_PLACES + p] = fillings[(at + 1) * MAX_PLACES + p];
            }
        }

        private void useRow(Form form, RowBook rows, int r, int at) {
            int next = at + rows.lengthOf(r);
            int cost = rows.costOf(r) + costs[next];
            if (cost > costs[at]) {
                return;
            }
            if (cost < costs[at]) {
                clearAt(at, cost);
            }
            ways[at] = Math.min(MAX_READINGS, ways[at] + ways[next]);
            passed[at] = Math.max(passed[at], passed[next]);
            usesRow[at] = true;
            for (int p = 0; p < MAX_PLACES; p++) {
                int later = fillings[next * MAX_PLACES + p];
                int gained = later & VALUES;
                if ((later & LEFT) != 0) {
                    gained |= fillingByRow(form, rows, r, at, p);
                }
                fillings[at * MAX_PLACES + p] |= gained;
            }
        }

        private void clearAt(int at, int cost) {
            costs[at] = cost;
            ways[at] = 0;
            passed[at] = 0;
            for (int p = 0; p < MAX_PLACES; p++) {
                fillings[at * MAX_PLACES + p] = 0;
            }
        }

        /** What the row's last item of a place said, as a bit, or LEFT. */
        private int fillingByRow(Form form, RowBook rows, int r, int at, int p) {
            for (int i = rows.lengthOf(r) - 1; i >= 0; i--) {
                if (rows.kindOfItem(r, i) == ITEM_PLACE && rows.keyOfItem(r, i) == p) {
                    return 1 << form.valueSaidBy(words[at + i]);
                }
            }
            return LEFT;
        }

        private boolean fits(Form form, RowBook rows, int r, int at) {
            int items = rows.lengthOf(r);
            if (items <= 0 || at + items > length) {
                return false;
            }
            for (int i = 0; i < items; i++) {
                if (!itemFits(form, rows.kindOfItem(r, i), rows.keyOfItem(r, i), words[at + i])) {
                    return false;
                }
            }
            return true;
        }

        private static boolean itemFits(Form form, int kind, int key, int word) {
            switch (kind) {
                case ITEM_WORD:
                    return word == key;
                case ITEM_PLACE:
                    return form.placeSaidBy(word) == key;
                case ITEM_STAR:
                    return true;
                default:
                    return false;
            }
        }

        private int commonAnswer(Form form, int f, RowBook rows) {
            if (length <= 0 || costs[0] == PASS_COST + costs[1]) {
                return NONE;
            }
            int common = NONE;
            for (int r = 0; r < rows.rowCount(); r++) {
                if (rows.isOfForm(r, f) && fits(form, rows, r, 0)
                        && rows.costOf(r) + costs[rows.lengthOf(r)] == costs[0]) {
                    boolean differs = common != NONE && common != rows.actOf(r);
                    if (differs || rows.lengthOf(r) != length) {
                        return NONE;
                    }
                    common = rows.actOf(r);
                }
            }
            return common;
        }
    }

    /** Finds the order of asking by which the worst number of questions is least. */
    private static final class Planner {
        /** So many ways there are in which 5 places of 4 values are answered or not. */
        private static final int MAX_STATES = 3125;
        private static final int UNKNOWN = -1;

        /** The answers found already: without them the same state is met by every order of asking. */
        private final int[] found = new int[MAX_STATES];
        private final int[] weights = new int[MAX_PLACES];

        /** WORST of a form. */
        int fewestQuestions(Form form) {
            startFrom(form);
            return fewest(form, 0, 0);
        }

        /** The place to ask for; one that can't be asked counts as hopeless. */
        int placeToAsk(Form form) {
            startFrom(form);
            int questions = form.questions();
            int best = NONE;
            int least = 0;
            for (int p = 0; p < MAX_PLACES; p++) {
                if ((questions >> p & 1) != 0) {
                    int number = fewestBy(form, p, 0, 0);
                    if (best == NONE || number < least) {
                        best = p;
                        least = number;
                    }
                }
            }
            return best;
        }

        /** Gives each place that may be asked a digit of its own in the number of a state. */
        private void startFrom(Form form) {
            int states = 1;
            for (int p = 0; p < MAX_PLACES; p++) {
                weights[p] = states;
                if (form.hasPlace(p) && !form.isWorked(p) && form.sureValue(p) == NONE) {
                    states *= form.sizeOf(p) + 1;
                }
            }
            for (int i = 0; i < states && i < MAX_STATES; i++) {
                found[i] = UNKNOWN;
            }
        }

        private int fewest(Form form, int state, int depth) {
            if (state < 0 || state >= MAX_STATES) {
                return HOPELESS;
            }
            if (found[state] != UNKNOWN) {
                return found[state];
            }
            int questions = form.questions();
            int number = Integer.bitCount(questions);
            int least = number == 0 ? 0 : HOPELESS;
            // What is wanted stays so till it is sure: no order needs fewer than these.
            for (int p = 0; p < MAX_PLACES && least > number; p++) {
                if ((questions >> p & 1) != 0) {
                    least = Math.min(least, fewestBy(form, p, state, depth));
                }
            }
            found[state] = least;
            return least;
        }

        private int fewestBy(Form form, int p, int state, int depth) {
            if (depth >= MAX_PLACES || p < 0 || p >= MAX_PLACES) {
                return HOPELESS;
            }
            int oldSet = form.setOf(p);
            int greatest = NONE;
            for (int v = 0; v < form.sizeOf(p) && greatest < HOPELESS; v++) {
                form.put(p, 1 << v, v);
                if (form.firstBrokenBar() == NONE) {
                    int behind = fewest(form, state + weights[p] * (v + 1), depth + 1);
                    greatest = Math.max(greatest, behind);
                }
            }
            form.put(p, oldSet, NONE);
            return greatest == NONE ? HOPELESS : Math.min(HOPELESS, greatest + 1);
        }
    }

    /** What all places of all forms held ahead of the latest lines, as a ring. */
    private static final class History {
        private static final int CELLS = MAX_FORMS * MAX_PLACES;

        private final int[] sets = new int[MAX_KEPT * CELLS];
        private final int[] sureValues = new int[MAX_KEPT * CELLS];
        private int next = 0;
        private int size = 0;

        /** A form that comes behind a line finds itself EMPTY in what was kept ahead of it. */
        History() {
            Arrays.fill(sureValues, NONE);
        }

        int size() {
            return size;
        }

        void clear() {
            size = 0;
        }

        void keep(Form[] forms) {
            for (int f = 0; f < forms.length && f < MAX_FORMS; f++) {
                if (forms[f] != null) {
                    forms[f].copyTo(sets, sureValues, next * CELLS + f * MAX_PLACES);
                }
            }
            next = (next + 1) % MAX_KEPT;
            size = Math.min(MAX_KEPT, size + 1);
        }

        void restore(Form[] forms) {
            next = (next + MAX_KEPT - 1) % MAX_KEPT;
            size = Math.max(0, size - 1);
            for (int f = 0; f < forms.length && f < MAX_FORMS; f++) {
                if (forms[f] != null) {
                    forms[f].copyFrom(sets, sureValues, next * CELLS + f * MAX_PLACES);
                }
            }
        }
    }
}
