import java.util.ArrayList;
import java.util.Arrays;

/** A tree of pages for likeness; ../shared/DOC.md says what each call answers. */
public final class LikePages {
    public static final int NONE = -1;

    private static final int NO_SUCH = -2;
    private static final int MOST_THINGS = 40;
    private static final int MOST_LETTERS = 6;
    private static final int BASE = 9;
    private static final int GREATEST_WORD = 531440;
    private static final int MOST_TOLD = 16;
    private static final int GREATEST_FAR = 99;
    private static final int LEAST_CAP = 2;
    private static final int GREATEST_CAP = 6;
    private static final int FIRST_CAP = 4;
    // A page holds one entry too many for as long as it waits to be split.
    private static final int MOST_ENTRIES = GREATEST_CAP + 1;
    // Every level but the root's comes from a leaf that was split, and no two leaves share a thing.
    private static final int MOST_LEVELS = MOST_THINGS;
    private static final int MOST_STEPS = 20;
    private static final int MOST_BYTES = 300;
    // The shortest command has four bytes.
    private static final int MOST_COMMANDS = MOST_BYTES / 4;
    private static final int MOST_REPLY_BYTES = 400;

    private static final int EDIT = 0;
    private static final int PLACE = 1;
    private static final int SUM = 2;
    private static final int HEAD = 3;

    private static final int DO_PUT = 0;
    private static final int DO_DROP = 1;
    private static final int DO_NEAR = 2;
    private static final int DO_WITHIN = 3;
    private static final int DO_MEASURE = 4;
    private static final int DO_CAP = 5;
    private static final int DO_FAR = 6;
    private static final int DO_SIZE = 7;

    private final State state;
    private final Measures measures;
    private final Fars fars;
    private final Tree tree;
    private final Walk walk;
    private final Search search;
    private final Survey survey;
    private final Past past;
    private final Commands commands;
    private final Replies replies;

    public LikePages() {
        state = new State();
        measures = new Measures();
        fars = new Fars(measures);
        tree = new Tree(state, fars);
        walk = new Walk(state, fars);
        search = new Search(state, fars, measures);
        survey = new Survey(state, fars);
        past = new Past();
        commands = new Commands();
        replies = new Replies();
    }

    // ---- what changes things

    public int put(int word) {
        if (!canAdd(word)) {
            return NONE;
        }
        past.keep(state);
        return bringIn(state.freeNumber(), word);
    }

    public boolean drop(int thing) {
        if (!state.has(thing)) {
            return false;
        }
        past.keep(state);
        if (takeOut(thing)) {
            tree.buildAnew();
        }
        return true;
    }

    public boolean measure(int measure) {
        if (measure < EDIT || measure > HEAD) {
            return false;
        }
        past.keep(state);
        state.measure = measure;
        fars.follow(state);
        tree.buildAnew();
        return true;
    }

    public boolean cap(int cap) {
        if (!isCap(cap)) {
            return false;
        }
        past.keep(state);
        state.cap = cap;
        tree.buildAnew();
        return true;
    }

    public int tell(int from, int to, int far) {
        if (!state.has(from) || !state.has(to) || from == to || !isFar(far)) {
            return NONE;
        }
        int at = state.toldAt(from, to);
        if (at == NONE && state.told >= MOST_TOLD) {
            return NONE;
        }
        past.keep(state);
        state.noteTold(at, from, to, far);
        fars.follow(state);
        tree.buildAnew();
        return state.told;
    }

    public int wipe() {
        past.keep(state);
        int were = state.told;
        state.told = 0;
        fars.follow(state);
        tree.buildAnew();
        return were;
    }

    public int build() {
        past.keep(state);
        tree.buildAnew();
        return state.used;
    }

    public boolean spell(int thing, int word) {
        if (!state.has(thing) || measures.lettersIn(word) == NONE || state.numberOf(word) != NONE) {
            return false;
        }
        past.keep(state);
        if (takeOut(thing)) {
            tree.buildAnew();
        }
        bringIn(thing, word);
        return true;
    }

    public int tight() {
        past.keep(state);
        return walk.tighten();
    }

    public int feed(int a, int b, int c, int d, int e) {
        if (!commands.hasRoom()) {
            return NONE;
        }
        commands.addFour(a);
        commands.addFour(b);
        commands.addFour(c);
        commands.addFour(d);
        commands.addFour(e);
        return commands.length;
    }

    public int end(int n) {
        if (n < 0 || n > commands.length) {
            return NONE;
        }
        commands.length = n;
        return n;
    }

    public int perform() {
        replies.count = 0;
        commands.read();
        commands.length = 0;
        if (commands.fault != NONE) {
            return NONE;
        }
        past.keep(state);
        for (int n = 0; n < commands.count; n++) {
            if (n > 0) {
                replies.addByte(';');
            }
            act(commands.kind[n], commands.first[n], commands.second[n]);
        }
        return commands.count;
    }

    public int fault() {
        return commands.fault;
    }

    public int reply(int i) {
        if (i == NONE) {
            return replies.count;
        }
        return i >= 0 && i < replies.count ? replies.bytes[i] : NONE;
    }

    public int undo() {
        if (past.countSteps() == 0) {
            return NONE;
        }
        past.takeBack(state);
        fars.follow(state);
        return past.countSteps();
    }

    // ---- what is there

    public int is(int what) {
        switch (what) {
            case 0: return state.things;
            case 1: return state.used;
            case 2: return tree.countLeaves();
            case 3: return tree.countLevels();
            case 4: return state.measure;
            case 5: return state.cap;
            case 6: return state.told;
            case 7: return tree.countEntries();
            case 8: return tree.countOverlaps();
            case 9: return tree.sumReaches();
            default: return NONE;
        }
    }

    public int word(int thing) {
        return state.has(thing) ? state.words[thing] : NONE;
    }

    public int thing(int word) {
        return measures.lettersIn(word) == NONE ? NONE : state.numberOf(word);
    }

    public int letters(int word) {
        return measures.lettersIn(word);
    }

    public int apart(int word, int other) {
        if (measures.lettersIn(word) == NONE || measures.lettersIn(other) == NONE) {
            return NONE;
        }
        return measures.between(state.measure, word, other);
    }

    public int far(int from, int to) {
        return state.has(from) && state.has(to) ? fars.of(from, to) : NONE;
    }

    public int page(int i, int what) {
        Page page = walk.pageAt(i);
        if (page == null) {
            return NO_SUCH;
        }
        switch (what) {
            case 0: return page.leaf ? 1 : 0;
            case 1: return page.count;
            case 2: return page.centre;
            case 3: return page.reachAbove;
            case 4: return page.depth;
            case 5: return page.thingsBelow;
            default: return NO_SUCH;
        }
    }

    public int entry(int i, int k, int what) {
        Page page = walk.pageAt(i);
        if (page == null || k < 0 || k >= page.count) {
            return NO_SUCH;
        }
        switch (what) {
            case 0: return page.thing[k];
            case 1: return page.reach[k];
            case 2: return fars.wayOf(page, k);
            case 3: return page.leaf ? NONE : state.at(page.below[k]).place;
            default: return NO_SUCH;
        }
    }

    public int leafOf(int thing) {
        return state.has(thing) ? walk.placeOfLeaf(thing) : NONE;
    }

    // ---- who is near and who is far

    public int within(int word, int r, int i) {
        if (measures.lettersIn(word) == NONE || !isFar(r)) {
            return NONE;
        }
        search.run(Search.WITHIN, word, NONE, r);
        return search.answer(i);
    }

    public int around(int thing, int r, int i) {
        if (!state.has(thing) || !isFar(r)) {
            return NONE;
        }
        search.run(Search.WITHIN, state.words[thing], thing, r);
        return search.answer(i);
    }

    public int near(int word, int k, int i) {
        if (measures.lettersIn(word) == NONE || !isHowMany(k)) {
            return NONE;
        }
        search.run(Search.NEAREST, word, NONE, k);
        return search.answer(i);
    }

    public int beside(int thing, int k, int i) {
        if (!state.has(thing) || !isHowMany(k)) {
            return NONE;
        }
        search.run(Search.NEAREST, state.words[thing], thing, k);
        return search.answer(i);
    }

    public int farthest(int word, int k, int i) {
        if (measures.lettersIn(word) == NONE || !isHowMany(k)) {
            return NONE;
        }
        search.run(Search.FARTHEST, word, NONE, k);
        return search.answer(i);
    }

    public int cost(int what) {
        if (!search.asked) {
            return NONE;
        }
        switch (what) {
            case 0: return search.paid;
            case 1: return search.spared;
            case 2: return search.looked;
            case 3: return search.count;
            default: return NONE;
        }
    }

    public int scan(int word, int r) {
        if (measures.lettersIn(word) == NONE || !isFar(r)) {
            return NONE;
        }
        int count = 0;
        for (int thing = 0; thing < MOST_THINGS; thing++) {
            if (state.has(thing) && measures.between(state.measure, word, state.words[thing]) <= r) {
                count++;
            }
        }
        return count;
    }

    // ---- all distances together

    public boolean broken(int what) {
        return survey.findBreak(what);
    }

    public int breaks(int what, int which) {
        if (!survey.findBreak(what)) {
            return NONE;
        }
        switch (which) {
            case 0: return survey.breakA;
            case 1: return survey.breakB;
            case 2: return survey.breakC;
            default: return NONE;
        }
    }

    public boolean covers() {
        return walk.reachesCover();
    }

    public int pair(int what) {
        return what == 0 || what == 1 ? survey.extremePair(what == 1) : NONE;
    }

    public int couple(int r, int i) {
        if (!isFar(r)) {
            return NONE;
        }
        return i == NONE ? survey.countPairs(0, r) : survey.coupleAt(r, i);
    }

    public int spaced(int far) {
        return survey.countPairs(far, far);
    }

    public int lonely() {
        return survey.findLonely();
    }

    public int pivot(int i) {
        return i < 0 || i >= state.things ? NONE : survey.pivotAt(i);
    }

    public int letter(int thing, int i) {
        if (!state.has(thing)) {
            return NONE;
        }
        return measures.letterAt(state.words[thing], i);
    }

    public int middle() {
        return survey.findMiddle();
    }

    public int groups(int r, int thing) {
        if (!isFar(r) || (thing != NONE && !state.has(thing))) {
            return NONE;
        }
        int count = survey.join(r);
        return thing == NONE ? count : survey.sizeOfGroup(thing);
    }

    public int chain(int thing, int i) {
        if (!state.has(thing) || i < 0 || i >= state.things) {
            return NONE;
        }
        survey.linkFrom(thing);
        return survey.links[i];
    }

    public int chainLong(int thing) {
        return state.has(thing) ? survey.linkFrom(thing) : NONE;
    }

    public int mean() {
        int pairs = state.things * (state.things - 1) / 2;
        if (pairs <= 0) {
            return 0;
        }
        return bitsOf((float) survey.sumOfPairs() / (float) pairs);
    }

    // ---- going back

    public int image() {
        past.setImage(state);
        return state.things;
    }

    public int back() {
        past.goBack(state);
        fars.follow(state);
        return state.things;
    }

    public int steps() {
        return past.countSteps();
    }

    // ---- what calls and commands share

    private static boolean isFar(int far) {
        return far >= 0 && far <= GREATEST_FAR;
    }

    private static boolean isHowMany(int k) {
        return k >= 1 && k <= MOST_THINGS;
    }

    private static boolean isCap(int cap) {
        return cap >= LEAST_CAP && cap <= GREATEST_CAP;
    }

    private boolean canAdd(int word) {
        return measures.lettersIn(word) != NONE && state.things < MOST_THINGS
                && state.numberOf(word) == NONE;
    }

    private int bringIn(int thing, int word) {
        state.setWord(thing, word);
        fars.follow(state);
        tree.insert(thing);
        return thing;
    }

    /** Whether the tree is to be built anew, which is left to the caller: calls must not go too deep. */
    private boolean takeOut(int thing) {
        state.forget(thing);
        fars.follow(state);
        if (tree.hasCentre(thing)) {
            return true;
        }
        tree.takeFromLeaf(thing);
        return false;
    }

    private void act(int kind, int first, int second) {
        switch (kind) {
            case DO_PUT:
                replies.addNumberOrNo(canAdd(first) ? bringIn(state.freeNumber(), first) : NONE);
                break;
            case DO_DROP:
                int thing = state.numberOf(first);
                if (thing != NONE && takeOut(thing)) {
                    tree.buildAnew();
                }
                replies.addNumberOrNo(thing);
                break;
            case DO_NEAR:
                replies.addNumbers(isHowMany(second) ? search.run(Search.NEAREST, first, NONE, second) : NONE, search.found);
                break;
            case DO_WITHIN:
                replies.addNumbers(isFar(second) ? search.run(Search.WITHIN, first, NONE, second) : NONE, search.found);
                break;
            case DO_MEASURE:
                state.measure = first;
                fars.follow(state);
                tree.buildAnew();
                replies.addOk(true);
                break;
            case DO_CAP:
                if (isCap(first)) {
                    state.cap = first;
                    tree.buildAnew();
                }
                replies.addOk(isCap(first));
                break;
            case DO_FAR:
                replies.addNumber(measures.between(state.measure, first, second));
                break;
            case DO_SIZE:
                replies.addNumber(state.things);
                break;
            default:
                break;
        }
    }

    /** The bits of a float that is 0 or well inside the ordinary floats; each step here is exact. */
    private static int bitsOf(float value) {
        if (value <= 0) {
            return 0;
        }
        float rest = value;
        int exponent = 127;
        for (int n = 0; n < 127 && rest >= 2; n++) {
            rest = rest / 2;
            exponent++;
        }
        for (int n = 0; n < 126 && rest < 1; n++) {
            rest = rest * 2;
            exponent--;
        }
        return (exponent << 23) + (int) ((rest - 1) * 8388608);
    }

    /** A page of the tree; pages name each other by their numbers in State, so that a copy of a state is whole. */
    private static final class Page {
        boolean leaf = true;
        int centre = NONE;
        int count;
        final int[] thing = new int[MOST_ENTRIES];
        final int[] reach = new int[MOST_ENTRIES];
        final int[] below = new int[MOST_ENTRIES];
        // Walk's, good till the tree changes.
        int place;
        int span;
        int depth;
        int reachAbove;
        int thingsBelow;
        // Search's, good for one search.
        boolean waits;
        int bound;
        int came;

        void empty(boolean asLeaf) {
            leaf = asLeaf;
            centre = NONE;
            count = 0;
        }

        void insertEntry(int k, int itsThing, int itsReach, int itsBelow) {
            if (count >= MOST_ENTRIES || k < 0 || k > count) {
                return;
            }
            System.arraycopy(thing, k, thing, k + 1, count - k);
            System.arraycopy(reach, k, reach, k + 1, count - k);
            System.arraycopy(below, k, below, k + 1, count - k);
            thing[k] = itsThing;
            reach[k] = itsReach;
            below[k] = itsBelow;
            count++;
        }

        void setEntry(int k, int itsThing, int itsReach, int itsBelow) {
            thing[k] = itsThing;
            reach[k] = itsReach;
            below[k] = itsBelow;
        }

        void removeEntry(int k) {
            if (k < 0 || k >= count) {
                return;
            }
            System.arraycopy(thing, k + 1, thing, k, count - k - 1);
            System.arraycopy(reach, k + 1, reach, k, count - k - 1);
            System.arraycopy(below, k + 1, below, k, count - k - 1);
            count--;
        }

        int placeIn(int itsThing) {
            for (int k = 0; k < count; k++) {
                if (thing[k] == itsThing) {
                    return k;
                }
            }
            return NONE;
        }

        void copyFrom(Page other) {
            leaf = other.leaf;
            centre = other.centre;
            count = other.count;
            System.arraycopy(other.thing, 0, thing, 0, count);
            System.arraycopy(other.reach, 0, reach, 0, count);
            System.arraycopy(other.below, 0, below, 0, count);
        }
    }

    /** All that a step or an image brings back. */
    private static final class State {
        // 0 where the number is free: no word is 0.
        final int[] words = new int[MOST_THINGS];
        int things;
        final int[] toldFrom = new int[MOST_TOLD];
        final int[] toldTo = new int[MOST_TOLD];
        final int[] toldFar = new int[MOST_TOLD];
        int told;
        int measure = EDIT;
        int cap = FIRST_CAP;
        // Pages beyond the used ones are kept to be used again.
        final ArrayList<Page> pages = new ArrayList<Page>();
        int used = 1;
        int root;
        // Past's marks: a state with neither may be written over.
        boolean inSteps;
        boolean inImage;

        State() {
            pages.add(new Page());
        }

        boolean has(int thing) {
            return thing >= 0 && thing < MOST_THINGS && words[thing] != 0;
        }

        int numberOf(int word) {
            for (int thing = 0; thing < MOST_THINGS; thing++) {
                if (words[thing] == word) {
                    return thing;
                }
            }
            return NONE;
        }

        int freeNumber() {
            return numberOf(0);
        }

        void setWord(int thing, int word) {
            if (thing >= 0 && thing < MOST_THINGS) {
                words[thing] = word;
                things++;
            }
        }

        void forget(int thing) {
            words[thing] = 0;
            things--;
            int kept = 0;
            for (int n = 0; n < told; n++) {
                if (toldFrom[n] != thing && toldTo[n] != thing) {
                    setTold(kept, toldFrom[n], toldTo[n], toldFar[n]);
                    kept++;
                }
            }
            told = kept;
        }

        int toldAt(int from, int to) {
            for (int n = 0; n < told; n++) {
                if (toldFrom[n] == from && toldTo[n] == to) {
                    return n;
                }
            }
            return NONE;
        }

        void noteTold(int at, int from, int to, int far) {
            if (at != NONE) {
                setTold(at, from, to, far);
            } else if (told < MOST_TOLD) {
                setTold(told, from, to, far);
                told++;
            }
        }

        private void setTold(int at, int from, int to, int far) {
            toldFrom[at] = from;
            toldTo[at] = to;
            toldFar[at] = far;
        }

        Page at(int id) {
            return pages.get(id >= 0 && id < used ? id : root);
        }

        int takePage(boolean asLeaf) {
            if (used >= pages.size()) {
                pages.add(new Page());
            }
            int id = used;
            used++;
            at(id).empty(asLeaf);
            return id;
        }

        void clearPages() {
            used = 0;
            root = takePage(true);
        }

        void copyFrom(State other) {
            System.arraycopy(other.words, 0, words, 0, MOST_THINGS);
            things = other.things;
            System.arraycopy(other.toldFrom, 0, toldFrom, 0, other.told);
            System.arraycopy(other.toldTo, 0, toldTo, 0, other.told);
            System.arraycopy(other.toldFar, 0, toldFar, 0, other.told);
            told = other.told;
            measure = other.measure;
            cap = other.cap;
            used = 0;
            for (int id = 0; id < other.used; id++) {
                takePage(true);
                at(id).copyFrom(other.at(id));
            }
            root = other.root;
        }
    }

    /** Words and the four measures between them. */
    private static final class Measures {
        // The letters of both words, 0 behind the last one.
        private final int[] one = new int[MOST_LETTERS];
        private final int[] two = new int[MOST_LETTERS];
        private int[] row = new int[MOST_LETTERS + 1];
        private int[] nextRow = new int[MOST_LETTERS + 1];

        int lettersIn(int word) {
            if (word < 1 || word > GREATEST_WORD) {
                return NONE;
            }
            int count = 0;
            int rest = word;
            for (int n = 0; n < MOST_LETTERS && rest > 0; n++) {
                if (rest % BASE == 0) {
                    return NONE;
                }
                rest = rest / BASE;
                count++;
            }
            return count;
        }

        int letterAt(int word, int i) {
            int count = spellOut(word, one);
            return i >= 0 && i < count ? one[i] : NONE;
        }

        int between(int measure, int word, int other) {
            if (word == other) {
                return 0;
            }
            int length = spellOut(word, one);
            int otherLength = spellOut(other, two);
            switch (measure) {
                case EDIT: return byEdit(length, otherLength);
                case PLACE: return byPlace();
                case SUM: return bySum();
                default: return byHead();
            }
        }

        private static int spellOut(int word, int[] letters) {
            int count = 0;
            for (int power = 1; count < MOST_LETTERS && power <= word; power *= BASE) {
                count++;
            }
            int rest = word;
            for (int n = MOST_LETTERS - 1; n >= 0; n--) {
                if (n < count) {
                    letters[n] = rest % BASE;
                    rest = rest / BASE;
                } else {
                    letters[n] = 0;
                }
            }
            return count;
        }

        private int byEdit(int length, int otherLength) {
            for (int j = 0; j <= otherLength; j++) {
                row[j] = j;
            }
            for (int i = 1; i <= length; i++) {
                nextRow[0] = i;
                for (int j = 1; j <= otherLength; j++) {
                    int least = row[j - 1] + (one[i - 1] == two[j - 1] ? 0 : 1);
                    least = row[j] + 1 < least ? row[j] + 1 : least;
                    nextRow[j] = nextRow[j - 1] + 1 < least ? nextRow[j - 1] + 1 : least;
                }
                int[] done = row;
                row = nextRow;
                nextRow = done;
            }
            return otherLength >= 0 && otherLength <= MOST_LETTERS ? row[otherLength] : 0;
        }

        private int byPlace() {
            int sum = 0;
            for (int n = 0; n < MOST_LETTERS; n++) {
                sum += one[n] == two[n] ? 0 : 1;
            }
            return sum;
        }

        private int bySum() {
            int sum = 0;
            for (int n = 0; n < MOST_LETTERS; n++) {
                sum += one[n] < two[n] ? two[n] - one[n] : one[n] - two[n];
            }
            return sum;
        }

        /** Called for unlike words alone, which are unlike at some place ahead of the last end. */
        private int byHead() {
            for (int n = 0; n < MOST_LETTERS; n++) {
                if (one[n] != two[n]) {
                    return MOST_LETTERS + 1 - n;
                }
            }
            return 0;
        }
    }

    /** FAR of all things that are there; kept, for the tree and the surveys ask for the same ones again and again. */
    private static final class Fars {
        private static final int UNKNOWN = -1;

        private final Measures measures;
        private final int[] cells = new int[MOST_THINGS * MOST_THINGS];
        private final int[] knownWords = new int[MOST_THINGS];
        private int knownMeasure = EDIT;
        private final int[] toldCells = new int[MOST_TOLD];
        private int toldCount;

        Fars(Measures itsMeasures) {
            measures = itsMeasures;
            Arrays.fill(cells, UNKNOWN);
        }

        int of(int from, int to) {
            return cells[from * MOST_THINGS + to];
        }

        int wayOf(Page page, int k) {
            return page.centre == NONE ? 0 : of(page.centre, page.thing[k]);
        }

        /** Brings the distances up to a state whose words, measure or told ones may have changed. */
        void follow(State state) {
            for (int n = 0; n < toldCount; n++) {
                cells[toldCells[n]] = UNKNOWN;
            }
            if (knownMeasure != state.measure) {
                Arrays.fill(cells, UNKNOWN);
                knownMeasure = state.measure;
            }
            for (int thing = 0; thing < MOST_THINGS; thing++) {
                if (knownWords[thing] != state.words[thing]) {
                    unlearn(thing);
                    knownWords[thing] = state.words[thing];
                }
            }
            learnUnknown();
            toldCount = state.told;
            for (int n = 0; n < toldCount; n++) {
                toldCells[n] = state.toldFrom[n] * MOST_THINGS + state.toldTo[n];
                cells[toldCells[n]] = state.toldFar[n];
            }
        }

        private void unlearn(int thing) {
            for (int other = 0; other < MOST_THINGS; other++) {
                cells[thing * MOST_THINGS + other] = UNKNOWN;
                cells[other * MOST_THINGS + thing] = UNKNOWN;
            }
        }

        private void learnUnknown() {
            for (int a = 0; a < MOST_THINGS; a++) {
                if (knownWords[a] == 0) {
                    continue;
                }
                for (int b = 0; b <= a; b++) {
                    int there = a * MOST_THINGS + b;
                    int back = b * MOST_THINGS + a;
                    if (knownWords[b] != 0 && (cells[there] == UNKNOWN || cells[back] == UNKNOWN)) {
                        cells[there] = measures.between(knownMeasure, knownWords[a], knownWords[b]);
                        cells[back] = cells[there];
                    }
                }
            }
        }
    }

    /** Puts, splits and takes out, and what is counted over all pages in any order. */
    private static final class Tree {
        private final State state;
        private final Fars fars;
        private final int[] pathPage = new int[MOST_LEVELS];
        private final int[] pathEntry = new int[MOST_LEVELS];
        // What the latest two that were weighed, or split by, come to.
        private final boolean[] toSecond = new boolean[MOST_ENTRIES];
        private int firstReach;
        private int secondReach;
        private int firstThing;
        private int secondThing;
        private int secondPage;

        Tree(State itsState, Fars itsFars) {
            state = itsState;
            fars = itsFars;
        }

        void buildAnew() {
            state.clearPages();
            for (int thing = 0; thing < MOST_THINGS; thing++) {
                if (state.words[thing] != 0) {
                    insert(thing);
                }
            }
        }

        void insert(int thing) {
            int id = state.root;
            Page page = state.at(id);
            int level = 0;
            for (int n = 0; n < MOST_LEVELS && !page.leaf; n++) {
                int k = entryFor(page, thing);
                int far = fars.of(page.thing[k], thing);
                page.reach[k] = far > page.reach[k] ? far : page.reach[k];
                pathPage[n] = id;
                pathEntry[n] = k;
                level = n + 1;
                id = page.below[k];
                page = state.at(id);
            }
            page.insertEntry(page.count, thing, 0, NONE);
            for (int n = level - 1; n >= 0 && page.count > state.cap; n--) {
                Page above = state.at(pathPage[n]);
                split(page);
                above.setEntry(pathEntry[n], firstThing, firstReach, id);
                above.insertEntry(pathEntry[n] + 1, secondThing, secondReach, secondPage);
                id = pathPage[n];
                page = above;
            }
            if (page.count > state.cap) {
                split(page);
                makeRoot(id);
            }
        }

        /** The entry whose page takes a thing: one that reaches it goes ahead of all that do not. */
        private int entryFor(Page page, int thing) {
            int best = 0;
            int bestBy = 0;
            boolean bestReaches = false;
            for (int k = 0; k < page.count; k++) {
                int far = fars.of(page.thing[k], thing);
                boolean reaches = far <= page.reach[k];
                int by = reaches ? far : far - page.reach[k];
                boolean better = reaches == bestReaches ? by < bestBy : reaches;
                if (k == 0 || better) {
                    best = k;
                    bestBy = by;
                    bestReaches = reaches;
                }
            }
            return best;
        }

        private void makeRoot(int id) {
            state.root = state.takePage(false);
            Page root = state.at(state.root);
            root.insertEntry(0, firstThing, firstReach, id);
            root.insertEntry(1, secondThing, secondReach, secondPage);
        }

        private void split(Page page) {
            int bestI = 0;
            int bestJ = 1;
            int best = weigh(page, 0, 1);
            for (int i = 0; i < page.count; i++) {
                for (int j = i + 1; j < page.count; j++) {
                    int greater = weigh(page, i, j);
                    if (greater < best) {
                        best = greater;
                        bestI = i;
                        bestJ = j;
                    }
                }
            }
            weigh(page, bestI, bestJ);
            firstThing = page.thing[bestI];
            secondThing = page.thing[bestJ];
            secondPage = state.takePage(page.leaf);
            part(page, state.at(secondPage));
        }

        /** The greater reach, if entries i and j of a page were its centres; a thing is always 0 from itself. */
        private int weigh(Page page, int i, int j) {
            firstReach = 0;
            secondReach = 0;
            for (int k = 0; k < page.count; k++) {
                int toI = fars.of(page.thing[i], page.thing[k]);
                int toJ = fars.of(page.thing[j], page.thing[k]);
                toSecond[k] = k == j || (k != i && toI > toJ);
                int together = page.reach[k] + (toSecond[k] ? toJ : toI);
                if (toSecond[k]) {
                    secondReach = together > secondReach ? together : secondReach;
                } else {
                    firstReach = together > firstReach ? together : firstReach;
                }
            }
            return firstReach > secondReach ? firstReach : secondReach;
        }

        private void part(Page page, Page other) {
            int kept = 0;
            for (int k = 0; k < page.count; k++) {
                if (toSecond[k]) {
                    other.insertEntry(other.count, page.thing[k], page.reach[k], page.below[k]);
                } else {
                    page.setEntry(kept, page.thing[k], page.reach[k], page.below[k]);
                    kept++;
                }
            }
            page.count = kept;
            page.centre = firstThing;
            other.centre = secondThing;
        }

        boolean hasCentre(int thing) {
            for (int id = 0; id < state.used; id++) {
                Page page = state.at(id);
                if (!page.leaf && page.placeIn(thing) != NONE) {
                    return true;
                }
            }
            return false;
        }

        /**
         * For things that are no centres. A page below another one holds its own centre somewhere, so none but
         * the root can be left without entries here, and no inner root can be left with one.
         */
        void takeFromLeaf(int thing) {
            for (int id = 0; id < state.used; id++) {
                Page page = state.at(id);
                int k = page.leaf ? page.placeIn(thing) : NONE;
                if (k != NONE) {
                    page.removeEntry(k);
                    return;
                }
            }
        }

        int countLeaves() {
            int count = 0;
            for (int id = 0; id < state.used; id++) {
                count += state.at(id).leaf ? 1 : 0;
            }
            return count;
        }

        int countLevels() {
            Page page = state.at(state.root);
            int levels = 1;
            for (int n = 1; n < MOST_LEVELS && !page.leaf; n++) {
                page = state.at(page.below[0]);
                levels++;
            }
            return levels;
        }

        int countEntries() {
            int count = 0;
            for (int id = 0; id < state.used; id++) {
                count += state.at(id).count;
            }
            return count;
        }

        int sumReaches() {
            int sum = 0;
            for (int id = 0; id < state.used; id++) {
                Page page = state.at(id);
                for (int k = 0; k < page.count; k++) {
                    sum += page.reach[k];
                }
            }
            return sum;
        }

        int countOverlaps() {
            int count = 0;
            for (int id = 0; id < state.used; id++) {
                Page page = state.at(id);
                count += page.leaf ? 0 : overlapsIn(page);
            }
            return count;
        }

        private int overlapsIn(Page page) {
            int count = 0;
            for (int i = 0; i < page.count; i++) {
                for (int j = i + 1; j < page.count; j++) {
                    if (fars.of(page.thing[i], page.thing[j]) <= page.reach[i] + page.reach[j]) {
                        count++;
                    }
                }
            }
            return count;
        }
    }

    /** The pages in their order from the root on, and what needs that order. */
    private static final class Walk {
        private final State state;
        private final Fars fars;
        private final ArrayList<Page> order = new ArrayList<Page>();

        Walk(State itsState, Fars itsFars) {
            state = itsState;
            fars = itsFars;
        }

        Page pageAt(int i) {
            if (i < 0 || i >= state.used) {
                return null;
            }
            renew();
            return i < order.size() ? order.get(i) : null;
        }

        int placeOfLeaf(int thing) {
            renew();
            for (int n = 0; n < order.size(); n++) {
                Page page = order.get(n);
                if (page.leaf && page.placeIn(thing) != NONE) {
                    return n;
                }
            }
            return NONE;
        }

        boolean reachesCover() {
            renew();
            for (int n = 0; n < order.size(); n++) {
                Page page = order.get(n);
                for (int k = 0; k < page.count; k++) {
                    if (!page.leaf && page.reach[k] < greatestBelow(page, k)) {
                        return false;
                    }
                }
            }
            return true;
        }

        /** By how much the reaches are less, together; told distances may make some of them more. */
        int tighten() {
            renew();
            int less = 0;
            for (int n = 0; n < order.size(); n++) {
                Page page = order.get(n);
                for (int k = 0; k < page.count && !page.leaf; k++) {
                    int greatest = greatestBelow(page, k);
                    less += page.reach[k] - greatest;
                    page.reach[k] = greatest;
                }
            }
            return less;
        }

        private int greatestBelow(Page page, int k) {
            Page top = state.at(page.below[k]);
            int greatest = 0;
            for (int n = top.place; n < top.place + top.span && n < order.size(); n++) {
                Page leaf = order.get(n);
                for (int m = 0; m < leaf.count && leaf.leaf; m++) {
                    int far = fars.of(page.thing[k], leaf.thing[m]);
                    greatest = far > greatest ? far : greatest;
                }
            }
            return greatest;
        }

        private void renew() {
            order.clear();
            Page root = state.at(state.root);
            root.depth = 0;
            root.reachAbove = NONE;
            order.add(root);
            for (int n = 0; n < state.used && n < order.size(); n++) {
                Page page = order.get(n);
                page.place = n;
                lineUpBelow(page);
            }
            for (int n = order.size() - 1; n >= 0; n--) {
                gatherFromBelow(order.get(n));
            }
        }

        /** Those below come right behind their page, and so ahead of all that had been behind it. */
        private void lineUpBelow(Page page) {
            for (int k = 0; k < page.count && !page.leaf; k++) {
                Page below = state.at(page.below[k]);
                below.depth = page.depth + 1;
                below.reachAbove = page.reach[k];
                order.add(page.place + 1 + k, below);
            }
        }

        private void gatherFromBelow(Page page) {
            page.span = 1;
            page.thingsBelow = page.leaf ? page.count : 0;
            for (int k = 0; k < page.count && !page.leaf; k++) {
                Page below = state.at(page.below[k]);
                page.span += below.span;
                page.thingsBelow += below.thingsBelow;
            }
        }
    }

    /**
     * All three searches are one: pages wait by a bound, the least first, against a limit. The farthest are
     * sought with all distances below 0. For those within, the limit stays, so it is all one in which order
     * pages are gone into.
     */
    private static final class Search {
        static final int WITHIN = 0;
        static final int NEAREST = 1;
        static final int FARTHEST = 2;
        private static final int UNKNOWN = -1;
        private static final int ROOT_FARTHEST = -1000;

        private final State state;
        private final Fars fars;
        private final Measures measures;
        private int fromWord;
        private int fromThing = NONE;
        private boolean farthestFirst;
        private boolean limitStays;
        private int limit;
        private int most;
        private int arrivals;
        private final int[] known = new int[MOST_THINGS];
        private final int[] ranks = new int[MOST_THINGS];
        final int[] found = new int[MOST_THINGS];
        int count;
        int paid;
        int spared;
        int looked;
        boolean asked;

        Search(State itsState, Fars itsFars, Measures itsMeasures) {
            state = itsState;
            fars = itsFars;
            measures = itsMeasures;
        }

        int answer(int i) {
            if (i == NONE) {
                return count;
            }
            return i >= 0 && i < count ? found[i] : NONE;
        }

        /** From a thing or, where that is NONE, from a word; the number is how far or how many: how many are found. */
        int run(int sort, int word, int thing, int number) {
            fromWord = word;
            fromThing = thing;
            farthestFirst = sort == FARTHEST;
            limitStays = sort == WITHIN;
            limit = number;
            most = limitStays ? MOST_THINGS : number;
            asked = true;
            count = 0;
            paid = 0;
            spared = 0;
            looked = 0;
            arrivals = 0;
            Arrays.fill(known, UNKNOWN);
            for (int id = 0; id < state.used; id++) {
                state.at(id).waits = false;
            }
            letWait(state.at(state.root), farthestFirst ? ROOT_FARTHEST : 0);
            for (int n = 0; n < state.used; n++) {
                Page page = nextPage();
                if (page == null || isBeyond(page.bound)) {
                    break;
                }
                page.waits = false;
                looked++;
                goInto(page);
            }
            return count;
        }

        private boolean isBeyond(int rank) {
            return (limitStays || count >= most) && rank > limit;
        }

        private void letWait(Page page, int bound) {
            page.waits = true;
            page.bound = bound;
            page.came = arrivals;
            arrivals++;
        }

        private Page nextPage() {
            Page next = null;
            for (int id = 0; id < state.used; id++) {
                Page page = state.at(id);
                if (page.waits && (next == null || page.bound < next.bound
                        || (page.bound == next.bound && page.came < next.came))) {
                    next = page;
                }
            }
            return next;
        }

        private void goInto(Page page) {
            for (int k = 0; k < page.count; k++) {
                if (page.centre != NONE && isBeyond(leastRank(page, k))) {
                    spared++;
                    continue;
                }
                int far = farTo(page.thing[k]);
                if (page.leaf) {
                    take(page.thing[k], farthestFirst ? -far : far);
                    continue;
                }
                int bound = boundBelow(far, page.reach[k]);
                if (!isBeyond(bound)) {
                    letWait(state.at(page.below[k]), bound);
                }
            }
        }

        /** What an entry's rank can be at the least, seen from its page's centre, which was measured above. */
        private int leastRank(Page page, int k) {
            int toCentre = known[page.centre];
            int way = fars.of(page.centre, page.thing[k]);
            if (farthestFirst) {
                return -(toCentre + way + page.reach[k]);
            }
            return (toCentre > way ? toCentre - way : way - toCentre) - page.reach[k];
        }

        private int boundBelow(int far, int reach) {
            if (farthestFirst) {
                return -(far + reach);
            }
            return far > reach ? far - reach : 0;
        }

        private int farTo(int thing) {
            if (known[thing] == UNKNOWN) {
                paid++;
                known[thing] = fromThing != NONE ? fars.of(fromThing, thing)
                        : measures.between(state.measure, fromWord, state.words[thing]);
            }
            return known[thing];
        }

        private void take(int thing, int rank) {
            if (limitStays && rank > limit) {
                return;
            }
            int at = count;
            for (int n = count - 1; n >= 0 && isAhead(rank, thing, n); n--) {
                at = n;
            }
            if (at >= most) {
                return;
            }
            count = count < most ? count + 1 : most;
            for (int n = count - 1; n > at; n--) {
                found[n] = found[n - 1];
                ranks[n] = ranks[n - 1];
            }
            found[at] = thing;
            ranks[at] = rank;
            if (!limitStays) {
                limit = ranks[count - 1];
            }
        }

        private boolean isAhead(int rank, int thing, int n) {
            return rank < ranks[n] || (rank == ranks[n] && thing < found[n]);
        }
    }

    /** What is told of all things and the distances between them, without the tree. */
    private static final class Survey {
        private final State state;
        private final Fars fars;
        int breakA;
        int breakB;
        int breakC;
        final int[] links = new int[MOST_THINGS];
        private final int[] labels = new int[MOST_THINGS];
        private final int[] least = new int[MOST_THINGS];
        private final int[] chosen = new int[MOST_THINGS];

        Survey(State itsState, Fars itsFars) {
            state = itsState;
            fars = itsFars;
        }

        /** Whether there is a break of a kind; the first one is then in breakA, breakB, breakC. */
        boolean findBreak(int what) {
            breakA = NONE;
            breakB = NONE;
            breakC = NONE;
            if (what < 0 || what > 3) {
                return false;
            }
            for (int a = 0; a < MOST_THINGS; a++) {
                if (state.has(a) && breaksFrom(what, a)) {
                    breakA = a;
                    return true;
                }
            }
            return false;
        }

        private boolean breaksFrom(int what, int a) {
            if (what == 0) {
                return fars.of(a, a) != 0;
            }
            for (int b = 0; b < MOST_THINGS; b++) {
                if (b != a && state.has(b) && breaksBetween(what, a, b)) {
                    breakB = b;
                    return true;
                }
            }
            return false;
        }

        private boolean breaksBetween(int what, int a, int b) {
            if (what == 1) {
                return fars.of(a, b) == 0;
            }
            if (what == 2) {
                return a < b && fars.of(a, b) != fars.of(b, a);
            }
            int first = fars.of(a, b);
            for (int c = 0; c < MOST_THINGS; c++) {
                if (c != a && c != b && state.has(c) && fars.of(a, c) > first + fars.of(b, c)) {
                    breakC = c;
                    return true;
                }
            }
            return false;
        }

        private boolean isPair(int a, int b) {
            return a < b && state.has(a) && state.has(b);
        }

        int extremePair(boolean greatest) {
            int best = NONE;
            int bestFar = 0;
            for (int a = 0; a < MOST_THINGS; a++) {
                for (int b = a + 1; b < MOST_THINGS; b++) {
                    if (!isPair(a, b)) {
                        continue;
                    }
                    int far = fars.of(a, b);
                    if (best == NONE || (greatest ? far > bestFar : far < bestFar)) {
                        best = a * MOST_THINGS + b;
                        bestFar = far;
                    }
                }
            }
            return best;
        }

        int countPairs(int from, int to) {
            int count = 0;
            for (int a = 0; a < MOST_THINGS; a++) {
                for (int b = a + 1; b < MOST_THINGS; b++) {
                    if (isPair(a, b) && fars.of(a, b) >= from && fars.of(a, b) <= to) {
                        count++;
                    }
                }
            }
            return count;
        }

        int coupleAt(int r, int i) {
            int count = 0;
            for (int a = 0; a < MOST_THINGS; a++) {
                for (int b = a + 1; b < MOST_THINGS; b++) {
                    if (!isPair(a, b) || fars.of(a, b) > r) {
                        continue;
                    }
                    if (count == i) {
                        return a * MOST_THINGS + b;
                    }
                    count++;
                }
            }
            return NONE;
        }

        int sumOfPairs() {
            int sum = 0;
            for (int a = 0; a < MOST_THINGS; a++) {
                for (int b = a + 1; b < MOST_THINGS; b++) {
                    sum += isPair(a, b) ? fars.of(a, b) : 0;
                }
            }
            return sum;
        }

        int findLonely() {
            if (state.things < 2) {
                return NONE;
            }
            int best = NONE;
            int bestLeast = 0;
            for (int thing = 0; thing < MOST_THINGS; thing++) {
                int its = state.has(thing) ? leastFrom(thing) : NONE;
                if (its != NONE && (best == NONE || its > bestLeast)) {
                    best = thing;
                    bestLeast = its;
                }
            }
            return best;
        }

        private int leastFrom(int thing) {
            int its = NONE;
            for (int other = 0; other < MOST_THINGS; other++) {
                if (other != thing && state.has(other) && (its == NONE || fars.of(thing, other) < its)) {
                    its = fars.of(thing, other);
                }
            }
            return its;
        }

        int findMiddle() {
            int best = NONE;
            int bestSum = 0;
            for (int thing = 0; thing < MOST_THINGS; thing++) {
                if (!state.has(thing)) {
                    continue;
                }
                int sum = sumFrom(thing);
                if (best == NONE || sum < bestSum) {
                    best = thing;
                    bestSum = sum;
                }
            }
            return best;
        }

        private int sumFrom(int thing) {
            int sum = 0;
            for (int other = 0; other < MOST_THINGS; other++) {
                sum += state.has(other) ? fars.of(thing, other) : 0;
            }
            return sum;
        }

        int pivotAt(int i) {
            Arrays.fill(chosen, 0);
            Arrays.fill(least, GREATEST_FAR);
            int pivot = findMiddle();
            for (int n = 0; n < i && n < MOST_THINGS && pivot != NONE; n++) {
                chosen[pivot] = 1;
                pivot = pivotAfter(pivot);
            }
            return pivot;
        }

        private int pivotAfter(int pivot) {
            int best = NONE;
            for (int thing = 0; thing < MOST_THINGS; thing++) {
                if (!state.has(thing) || chosen[thing] != 0) {
                    continue;
                }
                int far = fars.of(pivot, thing);
                least[thing] = far < least[thing] ? far : least[thing];
                if (best == NONE || least[thing] > least[best]) {
                    best = thing;
                }
            }
            return best;
        }

        /** Joins groups by their labels: how many are left. */
        int join(int r) {
            int count = state.things;
            for (int thing = 0; thing < MOST_THINGS; thing++) {
                labels[thing] = thing;
            }
            for (int a = 0; a < MOST_THINGS; a++) {
                for (int b = a + 1; b < MOST_THINGS; b++) {
                    if (isPair(a, b) && fars.of(a, b) <= r && labels[a] != labels[b]) {
                        relabel(labels[b], labels[a]);
                        count--;
                    }
                }
            }
            return count;
        }

        private void relabel(int from, int to) {
            for (int thing = 0; thing < MOST_THINGS; thing++) {
                labels[thing] = labels[thing] == from ? to : labels[thing];
            }
        }

        int sizeOfGroup(int thing) {
            int count = 0;
            for (int other = 0; other < MOST_THINGS; other++) {
                count += state.has(other) && labels[other] == labels[thing] ? 1 : 0;
            }
            return count;
        }

        /** Fills the links of a chain: how far it is along them. */
        int linkFrom(int thing) {
            Arrays.fill(chosen, 0);
            int sum = 0;
            int last = thing;
            for (int n = 0; n < state.things && n < MOST_THINGS && last != NONE; n++) {
                links[n] = last;
                chosen[last] = 1;
                int next = nearestUnchosen(last);
                sum += next == NONE ? 0 : fars.of(last, next);
                last = next;
            }
            return sum;
        }

        private int nearestUnchosen(int from) {
            int best = NONE;
            for (int thing = 0; thing < MOST_THINGS; thing++) {
                if (state.has(thing) && chosen[thing] == 0
                        && (best == NONE || fars.of(from, thing) < fars.of(from, best))) {
                    best = thing;
                }
            }
            return best;
        }
    }

    /**
     * The states ahead of the latest steps, and the image with the steps that it had. A state that is held as a
     * step never changes, so both may share it; one that neither holds any more is written over.
     */
    private static final class Past {
        private final ArrayList<State> kept = new ArrayList<State>();
        private final ArrayList<State> steps = new ArrayList<State>();
        private final ArrayList<State> imageSteps = new ArrayList<State>();
        private final State image = new State();

        int countSteps() {
            return steps.size();
        }

        void keep(State now) {
            if (steps.size() >= MOST_STEPS) {
                steps.get(0).inSteps = false;
                steps.remove(0);
            }
            State copy = freeState();
            copy.copyFrom(now);
            copy.inSteps = true;
            steps.add(copy);
        }

        void takeBack(State now) {
            int last = steps.size() - 1;
            if (last < 0) {
                return;
            }
            now.copyFrom(steps.get(last));
            steps.get(last).inSteps = false;
            steps.remove(last);
        }

        void setImage(State now) {
            image.copyFrom(now);
            for (int n = 0; n < imageSteps.size(); n++) {
                imageSteps.get(n).inImage = false;
            }
            imageSteps.clear();
            for (int n = 0; n < steps.size(); n++) {
                steps.get(n).inImage = true;
                imageSteps.add(steps.get(n));
            }
        }

        void goBack(State now) {
            now.copyFrom(image);
            for (int n = 0; n < steps.size(); n++) {
                steps.get(n).inSteps = false;
            }
            steps.clear();
            for (int n = 0; n < imageSteps.size(); n++) {
                imageSteps.get(n).inSteps = true;
                steps.add(imageSteps.get(n));
            }
        }

        private State freeState() {
            for (int n = 0; n < kept.size(); n++) {
                State state = kept.get(n);
                if (!state.inSteps && !state.inImage) {
                    return state;
                }
            }
            State state = new State();
            kept.add(state);
            return state;
        }
    }

    /** The sheet, and the commands that were read from it latest. */
    private static final class Commands {
        private static final int END = 0;
        private static final int WORD = 1;
        private static final int NUMBER = 2;
        private static final int SIGN = 3;
        private static final int MOST_DIGITS = 3;
        private static final int FED_AT_ONCE = 20;

        private final int[] sheet = new int[MOST_BYTES];
        int length;
        final int[] kind = new int[MOST_COMMANDS];
        final int[] first = new int[MOST_COMMANDS];
        final int[] second = new int[MOST_COMMANDS];
        int count;
        int fault = NONE;
        // The part of the text that is read now.
        private int sort;
        private int from;
        private int to;

        boolean hasRoom() {
            return length + FED_AT_ONCE <= MOST_BYTES;
        }

        void addFour(int four) {
            for (int shift = 24; shift >= 0 && length < MOST_BYTES; shift -= 8) {
                sheet[length] = (four >>> shift) & 255;
                length++;
            }
        }

        void read() {
            count = 0;
            fault = NONE;
            to = 0;
            for (int n = 0; n < MOST_COMMANDS; n++) {
                readCommand(n);
                if (fault != NONE) {
                    return;
                }
                count++;
                goOn();
                if (sort == END) {
                    return;
                }
                if (sort != SIGN || sheet[from] != ';') {
                    fault = from;
                    return;
                }
            }
        }

        private void readCommand(int n) {
            goOn();
            kind[n] = sort == WORD ? commandNamed() : NONE;
            switch (kind[n]) {
                case DO_PUT:
                case DO_DROP:
                    first[n] = readWord();
                    break;
                case DO_NEAR:
                case DO_WITHIN:
                    first[n] = readWord();
                    second[n] = readNumber();
                    break;
                case DO_MEASURE:
                    first[n] = readMeasure();
                    break;
                case DO_CAP:
                    first[n] = readNumber();
                    break;
                case DO_FAR:
                    first[n] = readWord();
                    second[n] = readWord();
                    break;
                case DO_SIZE:
                    break;
                default:
                    fault = from;
                    break;
            }
        }

        private int commandNamed() {
            if (reads("put")) {
                return DO_PUT;
            }
            if (reads("drop")) {
                return DO_DROP;
            }
            if (reads("near")) {
                return DO_NEAR;
            }
            if (reads("within")) {
                return DO_WITHIN;
            }
            if (reads("measure")) {
                return DO_MEASURE;
            }
            if (reads("cap")) {
                return DO_CAP;
            }
            if (reads("far")) {
                return DO_FAR;
            }
            return reads("size") ? DO_SIZE : NONE;
        }

        private int measureNamed() {
            if (reads("edit")) {
                return EDIT;
            }
            if (reads("place")) {
                return PLACE;
            }
            if (reads("sum")) {
                return SUM;
            }
            return reads("head") ? HEAD : NONE;
        }

        private boolean reads(String name) {
            if (to - from != name.length()) {
                return false;
            }
            for (int n = 0; n < name.length(); n++) {
                if (sheet[from + n] != name.charAt(n)) {
                    return false;
                }
            }
            return true;
        }

        /** Each reader leaves all as it is behind a fault, so that the first one stays. */
        private int readWord() {
            if (fault != NONE) {
                return NONE;
            }
            goOn();
            boolean good = sort == WORD && to - from <= MOST_LETTERS;
            int word = 0;
            for (int n = from; n < to && good; n++) {
                word = word * BASE + sheet[n] - 'a' + 1;
                good = sheet[n] <= 'h';
            }
            fault = good ? NONE : from;
            return word;
        }

        private int readNumber() {
            if (fault != NONE) {
                return NONE;
            }
            goOn();
            boolean good = sort == NUMBER && to - from <= MOST_DIGITS;
            int number = 0;
            for (int n = from; n < to && good; n++) {
                number = number * 10 + sheet[n] - '0';
            }
            fault = good ? NONE : from;
            return number;
        }

        private int readMeasure() {
            goOn();
            int measure = sort == WORD ? measureNamed() : NONE;
            fault = measure == NONE ? from : NONE;
            return measure;
        }

        /** On to the next part of the text: its sort, from where and (that byte not with it) to where it goes. */
        private void goOn() {
            from = to;
            while (from < length && sheet[from] == ' ') {
                from++;
            }
            to = from;
            if (from >= length) {
                sort = END;
                return;
            }
            sort = sortOf(sheet[from]);
            to++;
            while (to < length && sort != SIGN && sortOf(sheet[to]) == sort) {
                to++;
            }
        }

        private static int sortOf(int sign) {
            if (sign >= 'a' && sign <= 'z') {
                return WORD;
            }
            return sign >= '0' && sign <= '9' ? NUMBER : SIGN;
        }
    }

    /** The text of the replies; what is beyond its end is lost. */
    private static final class Replies {
        final int[] bytes = new int[MOST_REPLY_BYTES];
        int count;

        void addByte(int sign) {
            if (count < MOST_REPLY_BYTES) {
                bytes[count] = sign;
                count++;
            }
        }

        /** Numbers here have two digits at most: things, how many they are, and distances by a measure. */
        void addNumber(int number) {
            if (number >= 10) {
                addByte('0' + number / 10 % 10);
            }
            addByte('0' + number % 10);
        }

        void addNumberOrNo(int number) {
            if (number == NONE) {
                addOk(false);
            } else {
                addNumber(number);
            }
        }

        void addOk(boolean ok) {
            addByte(ok ? 'o' : 'n');
            addByte(ok ? 'k' : 'o');
        }

        /** How many of the numbers there are: NONE, if they could not be asked for. */
        void addNumbers(int many, int[] numbers) {
            if (many == NONE) {
                addOk(false);
            }
            for (int n = 0; n < many && n < numbers.length; n++) {
                if (n > 0) {
                    addByte(',');
                }
                addNumber(numbers[n]);
            }
            if (many == 0) {
                addByte('-');
            }
        }
    }
}
