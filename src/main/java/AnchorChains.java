/**
 * Two rows of signs lined up by words that occur once in both: anchors, the longest chain of anchors that fit, and
 * gaps between them that are closed at least cost.
 */
public final class AnchorChains {
    public static final int NONE = -1;

    private static final int MOST_SIGNS = 24;
    private static final int KINDS_OF_SIGNS = 4;
    private static final int MOST_CODES = 60;
    private static final int MOST_SAVED = 6;

    private static final int WORD_LENGTH = 0;
    private static final int UNLIKE_COST = 1;
    private static final int LEFT_OUT_COST = 2;
    private static final int BAND = 3;
    private static final int SETTINGS = 4;
    private static final int LEAST_WORD = 2;
    private static final int MOST_WORD = 5;

    private static final int ANCHOR_PROPERTIES = 4;
    private static final int TURNED_PROPERTIES = 3;
    private static final int GAP_PROPERTIES = 5;
    private static final int DOUBLED_PROPERTIES = 3;
    private static final int NUMBERS = 15;

    private static final long DIGEST_START = 2609L;

    private final State now = new State();
    private final State trial = new State();
    private final State firstSnapshot = new State();
    private final State secondSnapshot = new State();
    private boolean firstTaken = false;
    private boolean secondTaken = false;
    private final History history = new History();
    private final Text text = new Text();
    private final Lineup lineup = new Lineup();
    private final Lineup trialLineup = new Lineup();
    private final Turnings turnings = new Turnings();
    private boolean stale = true;

    public AnchorChains() {
    }

    // ---- rows

    public int put(int row, int place, int sign)
            throws IndexOutOfBoundsException, IllegalArgumentException, IllegalStateException {
        if (!isRow(row) || place < 0 || place > now.rowOf(row).size()) {
            throw new IndexOutOfBoundsException("there is no such row or place");
        }
        if (!isSign(sign)) {
            throw new IllegalArgumentException("a sign is 0 to 3");
        }
        if (now.rowOf(row).size() >= MOST_SIGNS) {
            throw new IllegalStateException("the row is full");
        }
        saveState();
        now.rowOf(row).insert(place, sign);
        return now.rowOf(row).size();
    }

    public int take(int row, int place, int many) throws IndexOutOfBoundsException, IllegalArgumentException {
        if (!isPlace(row, place)) {
            throw new IndexOutOfBoundsException("there is no such row or place");
        }
        if (many < 1 || many > now.rowOf(row).size() - place) {
            throw new IllegalArgumentException("there are not so many signs from this place on");
        }
        saveState();
        now.rowOf(row).remove(place, many);
        return now.rowOf(row).size();
    }

    public int change(int row, int place, int sign) throws IndexOutOfBoundsException, IllegalArgumentException {
        if (!isPlace(row, place)) {
            throw new IndexOutOfBoundsException("there is no such row or place");
        }
        if (!isSign(sign)) {
            throw new IllegalArgumentException("a sign is 0 to 3");
        }
        saveState();
        int previous = now.rowOf(row).signAt(place);
        now.rowOf(row).write(place, sign);
        return previous;
    }

    public int turn(int row, int from, int to) throws IndexOutOfBoundsException, IllegalArgumentException {
        if (!isPlace(row, from) || !isPlace(row, to)) {
            throw new IndexOutOfBoundsException("there is no such row or place");
        }
        if (to < from) {
            throw new IllegalArgumentException("the last place is ahead of the first one");
        }
        saveState();
        return now.rowOf(row).reverse(from, to);
    }

    public int copy(int row, int from, int to, int goal)
            throws IndexOutOfBoundsException, IllegalArgumentException, IllegalStateException {
        if (!isRow(goal) || !isPlace(row, from) || !isPlace(row, to)) {
            throw new IndexOutOfBoundsException("there is no such row or place");
        }
        if (to < from) {
            throw new IllegalArgumentException("the last place is ahead of the first one");
        }
        if (now.rowOf(goal).size() + to - from + 1 > MOST_SIGNS) {
            throw new IllegalStateException("the row would have too many signs");
        }
        saveState();
        for (int place = from; place <= to; place++) {
            now.rowOf(goal).extend(now.rowOf(row).signAt(place));
        }
        return now.rowOf(goal).size();
    }

    public int exchange() {
        saveState();
        now.exchangeRows();
        refresh();
        return lineup.anchors.many;
    }

    public int set(int setting, int value) throws IndexOutOfBoundsException, IllegalArgumentException {
        if (!isSetting(setting)) {
            throw new IndexOutOfBoundsException("there is no such setting");
        }
        if (!isValueOf(setting, value)) {
            throw new IllegalArgumentException("the setting can't have this value");
        }
        saveState();
        int previous = now.settings.at(setting);
        now.settings.store(setting, value);
        return previous;
    }

    // ---- texts, snapshots

    public int append(int code) throws IllegalArgumentException, IllegalStateException {
        if (code < 33 || code > 126) {
            throw new IllegalArgumentException("a character code is 33 to 126");
        }
        if (text.size() >= MOST_CODES) {
            throw new IllegalStateException("the buffer is full");
        }
        text.add(code);
        return text.size();
    }

    public int clearBuffer() {
        int size = text.size();
        text.clear();
        return size;
    }

    public int firstError() {
        return text.faultPlace();
    }

    public int read() throws IllegalArgumentException {
        if (!text.isPairOfRows()) {
            throw new IllegalArgumentException("the buffer is not a complete pair of rows");
        }
        saveState();
        text.writeRows(now);
        text.clear();
        refresh();
        return lineup.anchors.many;
    }

    public int keep(int snapshot) throws IndexOutOfBoundsException {
        if (!isSnapshot(snapshot)) {
            throw new IndexOutOfBoundsException("there is no such snapshot");
        }
        snapshotOf(snapshot).takeRows(now);
        firstTaken = firstTaken || snapshot == 0;
        secondTaken = secondTaken || snapshot == 1;
        return now.signs();
    }

    public int restore(int snapshot) throws IndexOutOfBoundsException, IllegalStateException {
        if (!isSnapshot(snapshot)) {
            throw new IndexOutOfBoundsException("there is no such snapshot");
        }
        if (!(snapshot == 0 ? firstTaken : secondTaken)) {
            throw new IllegalStateException("the snapshot was not taken");
        }
        saveState();
        now.takeRows(snapshotOf(snapshot));
        return now.signs();
    }

    public int undo() throws IllegalStateException {
        if (history.size() == 0) {
            throw new IllegalStateException("there is no saved state");
        }
        history.giveBack(now);
        stale = true;
        return history.size();
    }

    // ---- looks; nothing is changed

    public int sign(int row, int place) throws IndexOutOfBoundsException {
        if (!isPlace(row, place)) {
            throw new IndexOutOfBoundsException("there is no such row or place");
        }
        return now.rowOf(row).signAt(place);
    }

    public int anchor(int anchor, int what) throws IndexOutOfBoundsException, IllegalArgumentException {
        refresh();
        if (anchor < 0 || anchor >= lineup.anchors.many) {
            throw new IndexOutOfBoundsException("there is no such anchor");
        }
        if (what < 0 || what >= ANCHOR_PROPERTIES) {
            throw new IllegalArgumentException("there is no such property");
        }
        return lineup.anchorProperty(anchor, what);
    }

    public int turned(int anchor, int what) throws IndexOutOfBoundsException, IllegalArgumentException {
        refresh();
        if (anchor < 0 || anchor >= turnings.anchors.many) {
            throw new IndexOutOfBoundsException("there is no such turned anchor");
        }
        if (what < 0 || what >= TURNED_PROPERTIES) {
            throw new IllegalArgumentException("there is no such property");
        }
        return turnings.property(anchor, what);
    }

    public int gap(int gap, int what) throws IllegalArgumentException {
        if (gap < 0) {
            throw new IllegalArgumentException("gaps are numbered from 0");
        }
        if (what < 0 || what >= GAP_PROPERTIES) {
            throw new IllegalArgumentException("there is no such property");
        }
        refresh();
        return lineup.gapProperty(gap, what);
    }

    public int partner(int row, int place) throws IndexOutOfBoundsException {
        if (!isPlace(row, place)) {
            throw new IndexOutOfBoundsException("there is no such row or place");
        }
        refresh();
        return lineup.partnersOf(row).at(place);
    }

    public int doubled(int row, int what) throws IndexOutOfBoundsException, IllegalArgumentException {
        if (!isRow(row)) {
            throw new IndexOutOfBoundsException("there is no such row");
        }
        if (what < 0 || what >= DOUBLED_PROPERTIES) {
            throw new IllegalArgumentException("there is no such property");
        }
        return now.rowOf(row).stretchProperty(what);
    }

    public int count(int what) throws IllegalArgumentException {
        if (what < 0 || what >= NUMBERS) {
            throw new IllegalArgumentException("there is no such number");
        }
        refresh();
        return numberOf(what);
    }

    public int setting(int setting) throws IndexOutOfBoundsException {
        if (!isSetting(setting)) {
            throw new IndexOutOfBoundsException("there is no such setting");
        }
        return now.settings.at(setting);
    }

    // ---- what would be; nothing is changed

    public int ifSet(int setting, int value) throws IndexOutOfBoundsException, IllegalArgumentException {
        if (!isSetting(setting)) {
            throw new IndexOutOfBoundsException("there is no such setting");
        }
        if (!isValueOf(setting, value)) {
            throw new IllegalArgumentException("the setting can't have this value");
        }
        return costWithSetting(setting, value);
    }

    public int ifChanged(int row, int place, int sign) throws IndexOutOfBoundsException, IllegalArgumentException {
        if (!isPlace(row, place)) {
            throw new IndexOutOfBoundsException("there is no such row or place");
        }
        if (!isSign(sign)) {
            throw new IllegalArgumentException("a sign is 0 to 3");
        }
        return costWithSign(row, place, sign);
    }

    public int bestLength() {
        return bestWordLength();
    }

    public double likeShare() {
        refresh();
        return shareOfLikeSigns();
    }

    public long digest() {
        refresh();
        long hash = DIGEST_START;
        for (int what = 0; what < NUMBERS; what++) {
            hash = fold(hash, numberOf(what));
        }
        for (int setting = 0; setting < SETTINGS; setting++) {
            hash = fold(hash, now.settings.at(setting));
        }
        hash = foldRow(hash, 0);
        hash = foldRow(hash, 1);
        hash = foldAnchors(hash);
        hash = foldGaps(hash);
        hash = fold(hash, costWithSetting(WORD_LENGTH, 2));
        hash = fold(hash, costWithSetting(BAND, 0));
        if (now.upper.has(0)) {
            hash = fold(hash, costWithSign(0, 0, 0));
        }
        hash = fold(hash, bestWordLength());
        hash = fold(hash, bitsOfShare(shareOfLikeSigns()));
        return foldText(hash);
    }

    // ---- what a call may ask for

    private static boolean isRow(int row) {
        return row == 0 || row == 1;
    }

    private boolean isPlace(int row, int place) {
        return isRow(row) && now.rowOf(row).has(place);
    }

    private static boolean isSign(int sign) {
        return sign >= 0 && sign < KINDS_OF_SIGNS;
    }

    private static boolean isSetting(int setting) {
        return setting >= 0 && setting < SETTINGS;
    }

    private static boolean isValueOf(int setting, int value) {
        switch (setting) {
            case WORD_LENGTH:
                return value >= LEAST_WORD && value <= MOST_WORD;
            case UNLIKE_COST:
            case LEFT_OUT_COST:
                return value >= 0 && value <= 9;
            case BAND:
                return value >= 0 && value <= MOST_SIGNS;
            default:
                return false;
        }
    }

    private static boolean isSnapshot(int snapshot) {
        return snapshot == 0 || snapshot == 1;
    }

    // ---- the state and what follows from it

    private State snapshotOf(int snapshot) {
        return snapshot == 0 ? firstSnapshot : secondSnapshot;
    }

    private void saveState() {
        history.save(now);
        stale = true;
    }

    /** Looks come in rows between changes, so what follows from the state is worked out once a change. */
    private void refresh() {
        if (stale) {
            lineup.build(now);
            turnings.find(now);
            stale = false;
        }
    }

    private int numberOf(int what) {
        switch (what) {
            case 0: return now.upper.size();
            case 1: return now.lower.size();
            case 2: return lineup.anchors.many;
            case 3: return turnings.anchors.many;
            case 4: return lineup.chain.many;
            case 5: return lineup.gaps;
            case 6: return lineup.cost;
            case 7: return lineup.freeCost(now);
            case 8: return turnings.stretches;
            case 9: return turnings.longest;
            case 10: return lineup.likePairs(now);
            case 11: return lineup.leftOut(0, now.upper.size());
            case 12: return lineup.leftOut(1, now.lower.size());
            case 13: return (firstTaken ? 1 : 0) + (secondTaken ? 1 : 0);
            case 14: return history.size();
            default: return NONE;
        }
    }

    private double shareOfLikeSigns() {
        int signs = now.signs();
        if (signs == 0) {
            return 1.0;
        }
        return (double) lineup.likePairs(now) * 2.0 / (double) signs;
    }

    private int costWithSetting(int setting, int value) {
        trial.takeAll(now);
        trial.settings.store(setting, value);
        return trialLineup.build(trial);
    }

    private int costWithSign(int row, int place, int sign) {
        trial.takeAll(now);
        trial.rowOf(row).write(place, sign);
        return trialLineup.build(trial);
    }

    private int bestWordLength() {
        trial.takeAll(now);
        int best = NONE;
        int bestCost = 0;
        for (int length = MOST_WORD; length >= LEAST_WORD; length--) {
            trial.settings.store(WORD_LENGTH, length);
            int cost = trialLineup.build(trial);
            if (best == NONE || cost < bestCost) {
                best = length;
                bestCost = cost;
            }
        }
        return best;
    }

    // ---- the digest

    private static long fold(long hash, long value) {
        return 31L * hash + value;
    }

    private long foldRow(long start, int row) {
        long hash = start;
        int size = now.rowOf(row).size();
        for (int place = 0; place < size; place++) {
            hash = fold(hash, now.rowOf(row).signAt(place));
        }
        for (int place = 0; place < size; place++) {
            hash = fold(hash, lineup.partnersOf(row).at(place));
        }
        for (int what = 0; what < DOUBLED_PROPERTIES; what++) {
            hash = fold(hash, now.rowOf(row).stretchProperty(what));
        }
        return hash;
    }

    private long foldAnchors(long start) {
        long hash = start;
        for (int anchor = 0; anchor < lineup.anchors.many; anchor++) {
            for (int what = 0; what < ANCHOR_PROPERTIES; what++) {
                hash = fold(hash, lineup.anchorProperty(anchor, what));
            }
        }
        for (int anchor = 0; anchor < turnings.anchors.many; anchor++) {
            for (int what = 0; what < TURNED_PROPERTIES; what++) {
                hash = fold(hash, turnings.property(anchor, what));
            }
        }
        return hash;
    }

    private long foldGaps(long start) {
        long hash = start;
        for (int gap = 0; gap < lineup.gaps; gap++) {
            for (int what = 0; what < GAP_PROPERTIES; what++) {
                hash = fold(hash, lineup.gapProperty(gap, what));
            }
        }
        return hash;
    }

    private long foldText(long start) {
        long hash = fold(start, text.size());
        for (int i = 0; i < text.size(); i++) {
            hash = fold(hash, text.codeAt(i));
        }
        return hash;
    }

    /**
     * The bits of a double from 0.0 to 1.0, worked out by exact steps, as the language of this file has no library
     * call for them.
     */
    private static long bitsOfShare(double share) {
        if (share <= 0.0) {
            return 0L;
        }
        double fraction = share;
        long exponent = 1023L;
        for (int step = 0; step < 64 && fraction < 1.0; step++) {
            fraction = fraction * 2.0;
            exponent = exponent - 1L;
        }
        long mantissa = (long) ((fraction - 1.0) * 4503599627370496.0);
        return (exponent << 52) + mantissa;
    }

    /** Numbers in a list of fixed length. Each index is tested here, so that no caller can make the machine throw. */
    private static final class Cells {
        private final int[] numbers;

        Cells(int length) {
            numbers = new int[length < 0 ? 0 : length];
        }

        int at(int index) {
            return index >= 0 && index < numbers.length ? numbers[index] : NONE;
        }

        void store(int index, int number) {
            if (index >= 0 && index < numbers.length) {
                numbers[index] = number;
            }
        }
    }

    private static final class Row {
        private final int[] signs = new int[MOST_SIGNS];
        private int many = 0;

        int size() {
            return many;
        }

        boolean has(int place) {
            return place >= 0 && place < many;
        }

        int signAt(int place) {
            return place >= 0 && place < signs.length ? signs[place] : NONE;
        }

        void write(int place, int sign) {
            if (place >= 0 && place < signs.length) {
                signs[place] = sign;
            }
        }

        void clear() {
            many = 0;
        }

        void extend(int sign) {
            if (many < MOST_SIGNS) {
                write(many, sign);
                many++;
            }
        }

        void insert(int place, int sign) {
            if (place < 0 || place > many || many >= MOST_SIGNS) {
                return;
            }
            for (int i = many; i > place; i--) {
                write(i, signAt(i - 1));
            }
            write(place, sign);
            many++;
        }

        void remove(int place, int removed) {
            if (!has(place) || removed < 1 || removed > many - place) {
                return;
            }
            many -= removed;
            for (int i = place; i < many; i++) {
                write(i, signAt(i + removed));
            }
        }

        int reverse(int from, int to) {
            int others = 0;
            for (int i = from, j = to; i < j; i++, j--) {
                int first = signAt(i);
                int last = signAt(j);
                others += first == last ? 0 : 2;
                write(i, last);
                write(j, first);
            }
            return others;
        }

        void takeRow(Row other) {
            many = other.many;
            for (int place = 0; place < MOST_SIGNS; place++) {
                write(place, other.signAt(place));
            }
        }

        /** A word is told as one number, so that words of the same length are compared at once. */
        int wordAt(int place, int length, boolean backwards) {
            int word = 0;
            for (int i = 0; i < length; i++) {
                int from = backwards ? place + length - 1 - i : place + i;
                word = word * KINDS_OF_SIGNS + signAt(from);
            }
            return word;
        }

        int listWords(Cells words, int length, boolean backwards) {
            int places = Math.max(0, many - length + 1);
            for (int place = 0; place < places; place++) {
                words.store(place, wordAt(place, length, backwards));
            }
            return places;
        }

        private int alikeFrom(int first, int second) {
            int alike = 0;
            for (int i = 0; i < many - second && signAt(first + i) == signAt(second + i); i++) {
                alike++;
            }
            return alike;
        }

        private int againLength(int place) {
            int longest = 0;
            for (int later = place + 1; later < many; later++) {
                longest = Math.max(longest, alikeFrom(place, later));
            }
            return longest;
        }

        int stretchProperty(int what) {
            int longest = 0;
            int first = NONE;
            for (int place = 0; place < many; place++) {
                int length = againLength(place);
                if (length > longest) {
                    longest = length;
                    first = place;
                }
            }
            switch (what) {
                case 0: return longest;
                case 1: return first;
                default: return first == NONE ? NONE : placesOfStretch(first, longest);
            }
        }

        /** The search begins at the first place, as a longest stretch that stood ahead of it would be the one told. */
        private int placesOfStretch(int first, int length) {
            int places = 0;
            for (int place = first; place < many; place++) {
                if (alikeFrom(first, place) >= length) {
                    places++;
                }
            }
            return places;
        }
    }

    private static final class State {
        static final int SIZE = 2 + 2 * MOST_SIGNS + SETTINGS;

        final Row upper = new Row();
        final Row lower = new Row();
        final Cells settings = new Cells(SETTINGS);

        State() {
            settings.store(WORD_LENGTH, 3);
            settings.store(UNLIKE_COST, 2);
            settings.store(LEFT_OUT_COST, 3);
            settings.store(BAND, 4);
        }

        Row rowOf(int row) {
            return row == 0 ? upper : lower;
        }

        int signs() {
            return upper.size() + lower.size();
        }

        void exchangeRows() {
            int size = upper.many;
            upper.many = lower.many;
            lower.many = size;
            for (int place = 0; place < MOST_SIGNS; place++) {
                int sign = upper.signAt(place);
                upper.write(place, lower.signAt(place));
                lower.write(place, sign);
            }
        }

        void takeRows(State other) {
            upper.takeRow(other.upper);
            lower.takeRow(other.lower);
        }

        void takeAll(State other) {
            takeRows(other);
            for (int setting = 0; setting < SETTINGS; setting++) {
                settings.store(setting, other.settings.at(setting));
            }
        }

        void writeTo(Cells cells, int from) {
            cells.store(from, upper.many);
            cells.store(from + 1, lower.many);
            for (int place = 0; place < MOST_SIGNS; place++) {
                cells.store(from + 2 + place, upper.signAt(place));
                cells.store(from + 2 + MOST_SIGNS + place, lower.signAt(place));
            }
            for (int setting = 0; setting < SETTINGS; setting++) {
                cells.store(from + 2 + 2 * MOST_SIGNS + setting, settings.at(setting));
            }
        }

        void readFrom(Cells cells, int from) {
            upper.many = cells.at(from);
            lower.many = cells.at(from + 1);
            for (int place = 0; place < MOST_SIGNS; place++) {
                upper.write(place, cells.at(from + 2 + place));
                lower.write(place, cells.at(from + 2 + MOST_SIGNS + place));
            }
            for (int setting = 0; setting < SETTINGS; setting++) {
                settings.store(setting, cells.at(from + 2 + 2 * MOST_SIGNS + setting));
            }
        }
    }

    /** The saved states stand one behind another in one list, the oldest one first, so that a call makes no object. */
    private static final class History {
        private final Cells cells = new Cells(MOST_SAVED * State.SIZE);
        private int many = 0;

        int size() {
            return many;
        }

        void save(State state) {
            if (many >= MOST_SAVED) {
                dropOldest();
            }
            state.writeTo(cells, many * State.SIZE);
            many++;
        }

        private void dropOldest() {
            many--;
            for (int i = 0; i < many * State.SIZE; i++) {
                cells.store(i, cells.at(i + State.SIZE));
            }
        }

        void giveBack(State state) {
            if (many > 0) {
                many--;
                state.readFrom(cells, many * State.SIZE);
            }
        }
    }

    private static final class Text {
        private final Cells codes = new Cells(MOST_CODES);
        private int many = 0;

        int size() {
            return many;
        }

        int codeAt(int index) {
            return codes.at(index);
        }

        void add(int code) {
            if (many < MOST_CODES) {
                codes.store(many, code);
                many++;
            }
        }

        void clear() {
            many = 0;
        }

        private static boolean isLetter(int code) {
            return code >= 'a' && code <= 'd';
        }

        private static boolean isNumber(int code) {
            return code >= '2' && code <= '9';
        }

        /** Each beginning without a fault can be ended within the buffer, so one look from left to right will do. */
        int faultPlace() {
            int signs = 0;
            boolean upper = true;
            boolean letterBefore = false;
            for (int i = 0; i < many; i++) {
                int code = codes.at(i);
                if (isLetter(code) && signs < MOST_SIGNS) {
                    signs++;
                    letterBefore = true;
                } else if (isNumber(code) && letterBefore && signs - 1 + code - '0' <= MOST_SIGNS) {
                    signs += code - '0' - 1;
                    letterBefore = false;
                } else if (code == '/' && upper) {
                    signs = 0;
                    upper = false;
                    letterBefore = false;
                } else {
                    return i;
                }
            }
            return many;
        }

        boolean isPairOfRows() {
            boolean parted = false;
            for (int i = 0; i < many; i++) {
                parted = parted || codes.at(i) == '/';
            }
            return parted && faultPlace() == many;
        }

        void writeRows(State state) {
            state.upper.clear();
            state.lower.clear();
            Row row = state.upper;
            for (int i = 0; i < many; i++) {
                int code = codes.at(i);
                if (isLetter(code)) {
                    row.extend(code - 'a');
                } else if (isNumber(code)) {
                    repeatLast(row, code - '0' - 1);
                } else {
                    row = state.lower;
                }
            }
        }

        private static void repeatLast(Row row, int times) {
            int sign = row.signAt(row.size() - 1);
            for (int i = 0; i < times; i++) {
                row.extend(sign);
            }
        }
    }

    /** Anchors, or turned ones: these are found alike, if the words of the lower row are read backwards. */
    private static final class Anchors {
        final Cells upperPlaces = new Cells(MOST_SIGNS);
        final Cells lowerPlaces = new Cells(MOST_SIGNS);
        int many = 0;
        int wordLength = 0;
        private final Cells upperWords = new Cells(MOST_SIGNS);
        private final Cells lowerWords = new Cells(MOST_SIGNS);

        void find(State state, boolean turnedAround) {
            wordLength = state.settings.at(WORD_LENGTH);
            int above = state.upper.listWords(upperWords, wordLength, false);
            int below = state.lower.listWords(lowerWords, wordLength, turnedAround);
            many = 0;
            for (int place = 0; place < above; place++) {
                int word = upperWords.at(place);
                boolean fails = turnedAround && word == state.upper.wordAt(place, wordLength, true);
                if (!fails && times(upperWords, above, word) == 1 && times(lowerWords, below, word) == 1) {
                    upperPlaces.store(many, place);
                    lowerPlaces.store(many, firstPlace(lowerWords, below, word));
                    many++;
                }
            }
        }

        private static int times(Cells words, int size, int word) {
            int times = 0;
            for (int place = 0; place < size; place++) {
                if (words.at(place) == word) {
                    times++;
                }
            }
            return times;
        }

        private static int firstPlace(Cells words, int size, int word) {
            for (int place = 0; place < size; place++) {
                if (words.at(place) == word) {
                    return place;
                }
            }
            return NONE;
        }

        boolean fit(int first, int second) {
            int upperStep = upperPlaces.at(second) - upperPlaces.at(first);
            int lowerStep = lowerPlaces.at(second) - lowerPlaces.at(first);
            if (upperStep <= 0 || lowerStep <= 0) {
                return false;
            }
            return upperStep == lowerStep || (upperStep >= wordLength && lowerStep >= wordLength);
        }
    }

    private static final class Chain {
        final Cells members = new Cells(MOST_SIGNS);
        final Cells placeInChain = new Cells(MOST_SIGNS);
        final Cells mostUpTo = new Cells(MOST_SIGNS);
        private final Cells mostFrom = new Cells(MOST_SIGNS);
        int many = 0;

        void find(Anchors anchors) {
            countUpTo(anchors);
            countFrom(anchors);
            pick(anchors);
        }

        private void countUpTo(Anchors anchors) {
            for (int anchor = 0; anchor < anchors.many; anchor++) {
                int most = 0;
                for (int before = 0; before < anchor; before++) {
                    if (anchors.fit(before, anchor)) {
                        most = Math.max(most, mostUpTo.at(before));
                    }
                }
                mostUpTo.store(anchor, most + 1);
            }
        }

        private void countFrom(Anchors anchors) {
            for (int anchor = anchors.many - 1; anchor >= 0; anchor--) {
                int most = 0;
                for (int behind = anchor + 1; behind < anchors.many; behind++) {
                    if (anchors.fit(anchor, behind)) {
                        most = Math.max(most, mostFrom.at(behind));
                    }
                }
                mostFrom.store(anchor, most + 1);
            }
        }

        private int mostOfAll(Anchors anchors) {
            int most = 0;
            for (int anchor = 0; anchor < anchors.many; anchor++) {
                most = Math.max(most, mostFrom.at(anchor));
            }
            return most;
        }

        /** Takes each lowest number that a longest chain can go on with, as of several chains that one is asked for. */
        private void pick(Anchors anchors) {
            int most = mostOfAll(anchors);
            int last = NONE;
            many = 0;
            for (int anchor = 0; anchor < anchors.many; anchor++) {
                boolean picked = mostFrom.at(anchor) == most - many && (last == NONE || anchors.fit(last, anchor));
                placeInChain.store(anchor, picked ? many : NONE);
                if (picked) {
                    members.store(many, anchor);
                    many++;
                    last = anchor;
                }
            }
        }
    }

    /** A step is kept beside each cost, as of several ways with this cost just one is told. */
    private static final class Grid {
        static final int PAIR = 0;
        static final int LEAVE_UPPER = 1;
        static final int LEAVE_LOWER = 2;
        private static final int WIDTH = MOST_SIGNS + 1;
        /** Far above each cost that can be: no way leads here. */
        private static final int NO_WAY = 1000000;

        private final int[] costs = new int[WIDTH * WIDTH];
        private final int[] steps = new int[WIDTH * WIDTH];
        int upperFrom = 0;
        int upperMany = 0;
        int lowerFrom = 0;
        int lowerMany = 0;

        void layParts(int upperPlace, int upperSigns, int lowerPlace, int lowerSigns) {
            upperFrom = upperPlace;
            upperMany = upperSigns;
            lowerFrom = lowerPlace;
            lowerMany = lowerSigns;
        }

        private int costAt(int above, int below) {
            if (above < 0 || above >= WIDTH || below < 0 || below >= WIDTH) {
                return NO_WAY;
            }
            return costs[above * WIDTH + below];
        }

        int stepAt(int above, int below) {
            if (above < 0 || above >= WIDTH || below < 0 || below >= WIDTH) {
                return NONE;
            }
            return steps[above * WIDTH + below];
        }

        private void store(int above, int below, int cost, int step) {
            if (above >= 0 && above < WIDTH && below >= 0 && below < WIDTH) {
                costs[above * WIDTH + below] = cost;
                steps[above * WIDTH + below] = step;
            }
        }

        int fill(State state, int band) {
            for (int above = 0; above <= upperMany; above++) {
                for (int below = 0; below <= lowerMany; below++) {
                    if (Math.abs(above - below) > band) {
                        store(above, below, NO_WAY, NONE);
                    } else if (above == 0 && below == 0) {
                        store(above, below, 0, NONE);
                    } else {
                        fillCell(state, above, below);
                    }
                }
            }
            return costAt(upperMany, lowerMany);
        }

        private void fillCell(State state, int above, int below) {
            int leftOut = state.settings.at(LEFT_OUT_COST);
            boolean alike = state.upper.signAt(upperFrom + above - 1) == state.lower.signAt(lowerFrom + below - 1);
            int pairCost = costAt(above - 1, below - 1) + (alike ? 0 : state.settings.at(UNLIKE_COST));
            int upperCost = costAt(above - 1, below) + leftOut;
            int lowerCost = costAt(above, below - 1) + leftOut;
            int least = Math.min(pairCost, Math.min(upperCost, lowerCost));
            if (pairCost == least) {
                store(above, below, least, PAIR);
            } else {
                store(above, below, least, upperCost == least ? LEAVE_UPPER : LEAVE_LOWER);
            }
        }
    }

    private static final class Lineup {
        final Anchors anchors = new Anchors();
        final Chain chain = new Chain();
        int gaps = 0;
        int cost = 0;
        private final Grid grid = new Grid();
        private final Cells gapProperties = new Cells((MOST_SIGNS + 1) * GAP_PROPERTIES);
        private final Cells upperPartners = new Cells(MOST_SIGNS);
        private final Cells lowerPartners = new Cells(MOST_SIGNS);

        int build(State state) {
            anchors.find(state, false);
            chain.find(anchors);
            forget();
            int upperDone = 0;
            int lowerDone = 0;
            for (int i = 0; i < chain.many; i++) {
                int upper = anchors.upperPlaces.at(chain.members.at(i));
                int lower = anchors.lowerPlaces.at(chain.members.at(i));
                if (i == 0 || upper > upperDone || lower > lowerDone) {
                    closeGap(state, upperDone, upper, lowerDone, lower);
                }
                pairWord(upper, lower);
                upperDone = upper + anchors.wordLength;
                lowerDone = lower + anchors.wordLength;
            }
            closeGap(state, upperDone, state.upper.size(), lowerDone, state.lower.size());
            return cost;
        }

        private void forget() {
            gaps = 0;
            cost = 0;
            for (int place = 0; place < MOST_SIGNS; place++) {
                upperPartners.store(place, NONE);
                lowerPartners.store(place, NONE);
            }
        }

        private void pairPlaces(int upper, int lower) {
            upperPartners.store(upper, lower);
            lowerPartners.store(lower, upper);
        }

        private void pairWord(int upper, int lower) {
            for (int i = 0; i < anchors.wordLength; i++) {
                pairPlaces(upper + i, lower + i);
            }
        }

        private void closeGap(State state, int upperFrom, int upperTo, int lowerFrom, int lowerTo) {
            int upperMany = upperTo - upperFrom;
            int lowerMany = lowerTo - lowerFrom;
            grid.layParts(upperFrom, upperMany, lowerFrom, lowerMany);
            int band = Math.max(state.settings.at(BAND), Math.abs(upperMany - lowerMany));
            int gapCost = grid.fill(state, band);
            pairGap();
            int first = gaps * GAP_PROPERTIES;
            gapProperties.store(first, upperFrom);
            gapProperties.store(first + 1, upperMany);
            gapProperties.store(first + 2, lowerFrom);
            gapProperties.store(first + 3, lowerMany);
            gapProperties.store(first + 4, gapCost);
            gaps++;
            cost += gapCost;
        }

        private void pairGap() {
            int above = grid.upperMany;
            int below = grid.lowerMany;
            for (int left = above + below; left > 0 && above > 0 && below > 0; left--) {
                int step = grid.stepAt(above, below);
                above -= step == Grid.LEAVE_LOWER ? 0 : 1;
                below -= step == Grid.LEAVE_UPPER ? 0 : 1;
                if (step == Grid.PAIR) {
                    pairPlaces(grid.upperFrom + above, grid.lowerFrom + below);
                }
            }
        }

        int freeCost(State state) {
            grid.layParts(0, state.upper.size(), 0, state.lower.size());
            return grid.fill(state, MOST_SIGNS);
        }

        Cells partnersOf(int row) {
            return row == 0 ? upperPartners : lowerPartners;
        }

        int anchorProperty(int anchor, int what) {
            switch (what) {
                case 0: return anchors.upperPlaces.at(anchor);
                case 1: return anchors.lowerPlaces.at(anchor);
                case 2: return chain.placeInChain.at(anchor);
                default: return chain.mostUpTo.at(anchor);
            }
        }

        int gapProperty(int gap, int what) {
            return gap < gaps ? gapProperties.at(gap * GAP_PROPERTIES + what) : NONE;
        }

        int likePairs(State state) {
            int pairs = 0;
            for (int place = 0; place < state.upper.size(); place++) {
                int other = upperPartners.at(place);
                if (other != NONE && state.upper.signAt(place) == state.lower.signAt(other)) {
                    pairs++;
                }
            }
            return pairs;
        }

        int leftOut(int row, int size) {
            int signs = 0;
            for (int place = 0; place < size; place++) {
                if (partnersOf(row).at(place) == NONE) {
                    signs++;
                }
            }
            return signs;
        }
    }

    private static final class Turnings {
        final Anchors anchors = new Anchors();
        int stretches = 0;
        int longest = 0;
        private final Cells stretchOf = new Cells(MOST_SIGNS);

        void find(State state) {
            anchors.find(state, true);
            stretches = 0;
            longest = 0;
            int size = 0;
            for (int anchor = 0; anchor < anchors.many; anchor++) {
                boolean goesOn = anchor > 0 && anchors.lowerPlaces.at(anchor) < anchors.lowerPlaces.at(anchor - 1);
                size = goesOn ? size + 1 : 1;
                stretches += goesOn ? 0 : 1;
                longest = Math.max(longest, size);
                stretchOf.store(anchor, stretches - 1);
            }
        }

        int property(int anchor, int what) {
            switch (what) {
                case 0: return anchors.upperPlaces.at(anchor);
                case 1: return anchors.lowerPlaces.at(anchor);
                default: return stretchOf.at(anchor);
            }
        }
    }
}
