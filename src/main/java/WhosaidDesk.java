import java.util.Arrays;
import java.util.NoSuchElementException;

/** Sayings, the documents that are versions of them, and who said them first. */
public final class WhosaidDesk {
    private static final int FIRST_YEAR = 1000;
    private static final int LAST_YEAR = 2100;
    private static final int LAST_CONCEPT = 30;
    private static final int LAST_TONGUE = 3;
    private static final int LAST_OUTLET = 9;

    private static final int MOST_WORDS = 40;
    private static final int MOST_SAID = 10;
    private static final int MOST_LETTERS = 10;
    private static final int MOST_PEOPLE = 12;
    private static final int MOST_DOCUMENTS = 30;
    private static final int MOST_SEARCHES = 20;
    private static final int MOST_COLLECTIONS = 5;
    private static final int MOST_ENTRIES = 8;
    private static final int MOST_QUOTES = 20;
    private static final int MOST_FOR_ALL_HISTORIES = 5;

    private static final int MOST_FAME = 20;
    private static final int MOST_TRUST = 9;
    private static final int MOST_DEPTH = 100;
    private static final int MOST_GAP = 9;

    private static final int NONE = -1;
    private static final int BOOK = 0;
    private static final int PAPER = 1;
    private static final int LETTER = 2;
    private static final int TALK = 3;
    private static final int NOTES = 4;
    private static final int DENIAL = 5;
    private static final int KINDS_OF_VERSIONS = 5;

    private final Lexicon lexicon;
    private final Draft draft;
    private final People people;
    private final Papers papers;
    private final Differences differences;
    private final Ways ways;
    private final Finder finder;
    private final Judge judge;
    private final Shelves shelves;
    private final Quotes quotes;

    public WhosaidDesk() {
        lexicon = new Lexicon();
        draft = new Draft();
        people = new People();
        papers = new Papers(lexicon);
        differences = new Differences(lexicon, papers);
        ways = new Ways(people, papers, differences);
        finder = new Finder(lexicon, papers);
        judge = new Judge(people, papers, differences, ways);
        shelves = new Shelves(papers, judge);
        quotes = new Quotes(judge);
    }

    public int word(int concept, int tongue, int since) throws IllegalArgumentException, IllegalStateException {
        needWithin(concept, 0, LAST_CONCEPT);
        needWithin(tongue, 0, LAST_TONGUE);
        needYear(since);
        needRoom(lexicon.count, MOST_WORDS);
        return lexicon.add(concept, tongue, since);
    }

    public int say(int word) throws IndexOutOfBoundsException, IllegalStateException {
        needOneOf(word, lexicon.count);
        needRoom(draft.length, MOST_SAID);
        return draft.addWord(word);
    }

    public int wipe() {
        int had = draft.length;
        draft.empty();
        return had;
    }

    public int letter(char letter) throws IllegalArgumentException, IllegalStateException {
        needWithin(letter, 'a', 'z');
        needRoom(draft.typed, MOST_LETTERS);
        return draft.addLetter(letter);
    }

    public int person(int born, int died) throws IllegalArgumentException, IllegalStateException {
        needYears(born, died);
        needRoom(people.count, MOST_PEOPLE);
        return people.add(born, died);
    }

    public int setFame(int person, int fame, int growth, int from)
            throws IndexOutOfBoundsException, IllegalArgumentException {
        needPerson(person);
        needWithin(fame, 0, MOST_FAME);
        needWithin(growth, 0, MOST_FAME);
        needYear(from);
        int before = people.tellFame(person, fame, growth, from);
        ways.findAnew();
        return before;
    }

    public int fame(int person, int year) throws IndexOutOfBoundsException, IllegalArgumentException {
        needPerson(person);
        needYear(year);
        return people.fameIn(person, year);
    }

    public int document(int year, int trust, int author, int said, int hidden) throws IndexOutOfBoundsException,
            IllegalArgumentException, UnsupportedOperationException, IllegalStateException {
        needPersonOrNone(author);
        needPersonOrNone(said);
        needYear(year);
        needWithin(trust, 0, MOST_TRUST);
        needWithin(hidden, 0, MOST_DEPTH);
        int kind = neededKind();
        needText();
        needTrue(kind != DENIAL || said != NONE);
        needRoom(papers.count, MOST_DOCUMENTS);
        int added = papers.add(draft, kind, year, trust, hidden);
        papers.credit(added, author, said);
        draft.empty();
        differences.measure(added);
        ways.findAnew();
        return added;
    }

    public int search(int from, int to, int depth, int gap)
            throws IllegalArgumentException, UnsupportedOperationException, IllegalStateException {
        needYears(from, to);
        needWithin(depth, 1, MOST_DEPTH);
        needWithin(gap, 0, MOST_GAP);
        int kind = neededKind();
        needText();
        needRoom(finder.logged, MOST_SEARCHES);
        int entry = finder.enterLog(kind, from, to, depth);
        draft.emptyName();
        int found = finder.revealAll(entry, draft, gap);
        ways.findAnew();
        return found;
    }

    public int searches() {
        return finder.logged;
    }

    public boolean isKnown(int document) throws IndexOutOfBoundsException {
        needDocument(document);
        return papers.isOpen[document];
    }

    public int moved() {
        return ways.movedCount;
    }

    public int distance(int document, int other) throws IndexOutOfBoundsException {
        needDocument(document);
        needDocument(other);
        return differences.between[document][other];
    }

    public int steps(int document, int other) throws IndexOutOfBoundsException {
        needDocument(document);
        needDocument(other);
        differences.trace(document, other);
        return differences.pathLength;
    }

    public char stepAt(int document, int other, int index) throws IndexOutOfBoundsException {
        needDocument(document);
        needDocument(other);
        differences.trace(document, other);
        needOneOf(index, differences.pathLength);
        return differences.pathFromStart(index);
    }

    public int source(int document)
            throws IndexOutOfBoundsException, UnsupportedOperationException, NoSuchElementException {
        needVersion(document);
        needPresent(ways.copyOf[document]);
        return ways.copyOf[document];
    }

    public int cost(int document) throws IndexOutOfBoundsException, UnsupportedOperationException {
        needVersion(document);
        return ways.price[document];
    }

    public int rootOf(int document) throws IndexOutOfBoundsException, UnsupportedOperationException {
        needVersion(document);
        return ways.root[document];
    }

    public int chain(int document) throws IndexOutOfBoundsException, UnsupportedOperationException {
        needVersion(document);
        return ways.chainLength[document];
    }

    public int versions(int document) throws IndexOutOfBoundsException, UnsupportedOperationException {
        needVersion(document);
        return ways.treeSize(document);
    }

    public int versionAt(int document, int index)
            throws IndexOutOfBoundsException, UnsupportedOperationException, NoSuchElementException {
        needVersion(document);
        int at = ways.memberAt(document, index);
        needPresent(at);
        return at;
    }

    public int below(int document) throws IndexOutOfBoundsException, UnsupportedOperationException {
        needVersion(document);
        return ways.under[document];
    }

    public boolean couldSay(int document, int person) throws IndexOutOfBoundsException {
        needDocument(document);
        needPerson(person);
        return judge.isAble(person, document);
    }

    public boolean isPossible(int document) throws IndexOutOfBoundsException {
        needDocument(document);
        return papers.hasWordsBy(document, papers.year[document]);
    }

    public char verdict(int document, int person) throws IndexOutOfBoundsException, UnsupportedOperationException {
        needVersionAndPerson(document, person);
        return judge.judgement(document, person);
    }

    public int since(int document, int person)
            throws IndexOutOfBoundsException, UnsupportedOperationException, NoSuchElementException {
        needVersionAndPerson(document, person);
        int first = judge.firstThatNames(document, person);
        needPresent(first);
        return papers.year[first];
    }

    public int sure(int document) throws IndexOutOfBoundsException, UnsupportedOperationException {
        needVersion(document);
        return finder.thoroughness(papers.year[ways.root[document]]);
    }

    public boolean areParallel(int document, int other)
            throws IndexOutOfBoundsException, UnsupportedOperationException {
        needDocument(document);
        needDocument(other);
        needVersion(document);
        needVersion(other);
        int root = ways.root[document];
        int otherRoot = ways.root[other];
        return root != otherRoot && differences.areNear(root, otherRoot);
    }

    public boolean isProverb(int document) throws IndexOutOfBoundsException, UnsupportedOperationException {
        needVersion(document);
        return judge.isFromManyMouths(ways.root[document]);
    }

    public int collection(int year) throws IllegalArgumentException, IllegalStateException {
        needYear(year);
        needRoom(shelves.count, MOST_COLLECTIONS);
        return shelves.add(year);
    }

    public int enter(int collection, int document)
            throws IndexOutOfBoundsException, UnsupportedOperationException, IllegalStateException {
        needOneOf(collection, shelves.count);
        needVersion(document);
        needTrue(shelves.placeOf(collection, document) == NONE);
        needRoom(shelves.size[collection], MOST_ENTRIES);
        return shelves.append(collection, document);
    }

    public int slips(int collection) throws IndexOutOfBoundsException {
        needOneOf(collection, shelves.count);
        return shelves.countSlips(collection);
    }

    public int common(int collection, int other) throws IndexOutOfBoundsException {
        needOneOf(collection, shelves.count);
        needOneOf(other, shelves.count);
        return shelves.shared(collection, other);
    }

    public int copiedFrom(int collection) throws IndexOutOfBoundsException, NoSuchElementException {
        needOneOf(collection, shelves.count);
        int model = shelves.modelOf(collection);
        needPresent(model);
        return model;
    }

    public int quote(int outlet, int document, int person) throws IndexOutOfBoundsException,
            IllegalArgumentException, UnsupportedOperationException, IllegalStateException {
        needDocument(document);
        needPerson(person);
        needOutlet(outlet);
        needVersion(document);
        needRoom(quotes.count, MOST_QUOTES);
        return quotes.add(outlet, document, person);
    }

    public int pushes() {
        return quotes.countWaiting();
    }

    public int push() {
        return quotes.correctAll();
    }

    public int pushedTo(int outlet) throws IllegalArgumentException {
        needOutlet(outlet);
        return quotes.countCorrected(outlet);
    }

    public int totalCost() {
        return ways.sumOfPrices();
    }

    public int leastOfAll() throws UnsupportedOperationException {
        needTrue(ways.count <= MOST_FOR_ALL_HISTORIES);
        return ways.leastOfHistories();
    }

    public int documents() {
        return papers.count;
    }

    public int known() {
        return ways.count;
    }

    public long checksum() {
        long sum = 3;
        for (int each = 0; each < papers.count; each++) {
            sum = 31 * sum + papers.year[each] + 7 * ways.copyOf[each] + (papers.isOpen[each] ? 1 : 0);
        }
        return sum;
    }

    public float originShare() throws NoSuchElementException {
        needPresent(ways.count - 1);
        return (float) ways.countOrigins() / (float) ways.count;
    }

    public double meanChain() throws NoSuchElementException {
        needPresent(ways.count - 1);
        return (double) ways.sumOfChains() / (double) ways.count;
    }

    public boolean isSound() {
        return ways.areAllFair()
                && (ways.count > MOST_FOR_ALL_HISTORIES || ways.leastOfHistories() >= ways.sumOfPrices());
    }

    private static void needWithin(int number, int least, int most) {
        if (number < least || number > most) {
            throw new IllegalArgumentException("a number is out of range");
        }
    }

    private static void needYear(int year) {
        needWithin(year, FIRST_YEAR, LAST_YEAR);
    }

    private static void needYears(int first, int last) {
        needYear(first);
        needWithin(last, first, LAST_YEAR);
    }

    private static void needOutlet(int outlet) {
        needWithin(outlet, 0, LAST_OUTLET);
    }

    private static void needOneOf(int number, int count) {
        if (number < 0 || number >= count) {
            throw new IndexOutOfBoundsException("there is no such one");
        }
    }

    private static void needRoom(int count, int most) {
        if (count >= most) {
            throw new IllegalStateException("there is no room for one more");
        }
    }

    private static void needTrue(boolean holds) {
        if (!holds) {
            throw new UnsupportedOperationException("that does not go with this one");
        }
    }

    private static void needPresent(int number) {
        if (number < 0) {
            throw new NoSuchElementException("there is none");
        }
    }

    private void needPerson(int person) {
        needOneOf(person, people.count);
    }

    private void needPersonOrNone(int person) {
        if (person != NONE) {
            needPerson(person);
        }
    }

    private void needDocument(int document) {
        needOneOf(document, papers.count);
    }

    private void needVersion(int document) {
        needDocument(document);
        needTrue(papers.isVersion(document));
    }

    private void needVersionAndPerson(int document, int person) {
        needDocument(document);
        needPerson(person);
        needVersion(document);
    }

    private void needText() {
        needTrue(draft.length > 0);
    }

    private int neededKind() {
        int kind = draft.kindOfName();
        needWithin(kind, BOOK, DENIAL);
        return kind;
    }

    /** All words that were added. */
    private static final class Lexicon {
        private final int[] concept = new int[MOST_WORDS];
        private final int[] tongue = new int[MOST_WORDS];
        private final int[] year = new int[MOST_WORDS];
        private int count;

        int add(int itsConcept, int itsTongue, int itsYear) {
            int added = count;
            concept[added] = itsConcept;
            tongue[added] = itsTongue;
            year[added] = itsYear;
            count++;
            return added;
        }

        char stepOfPair(int one, int other) {
            if (one == other) {
                return '=';
            }
            if (concept[one] != concept[other]) {
                return 'w';
            }
            return tongue[one] == tongue[other] ? 's' : 't';
        }
    }

    /** The buffer's words and the letters of the name. */
    private static final class Draft {
        private final int[] words = new int[MOST_SAID];
        private final char[] letters = new char[MOST_LETTERS];
        private int length;
        private int typed;

        int addWord(int word) {
            words[length] = word;
            length++;
            return length;
        }

        int addLetter(char letter) {
            letters[typed] = letter;
            typed++;
            return typed;
        }

        void emptyName() {
            typed = 0;
        }

        void empty() {
            length = 0;
            typed = 0;
        }

        int kindOfName() {
            if (isNamed("book")) {
                return BOOK;
            }
            if (isNamed("paper")) {
                return PAPER;
            }
            if (isNamed("letter")) {
                return LETTER;
            }
            if (isNamed("talk")) {
                return TALK;
            }
            if (isNamed("notes")) {
                return NOTES;
            }
            return isNamed("denial") ? DENIAL : NONE;
        }

        private boolean isNamed(String name) {
            if (name.length() != typed) {
                return false;
            }
            for (int place = 0; place < typed; place++) {
                if (letters[place] != name.charAt(place)) {
                    return false;
                }
            }
            return true;
        }
    }

    /** All people with the years of their lives and their fame. */
    private static final class People {
        private static final int FIRST_SPEECH = 10;
        private static final int LATEST_PRINT = 5;
        private static final int YEARS_OF_GROWTH = 10;

        private final int[] born = new int[MOST_PEOPLE];
        private final int[] died = new int[MOST_PEOPLE];
        private final int[] toldFame = new int[MOST_PEOPLE];
        private final int[] growth = new int[MOST_PEOPLE];
        private final int[] famousFrom = new int[MOST_PEOPLE];
        private int count;

        int add(int birth, int death) {
            int added = count;
            born[added] = birth;
            died[added] = death;
            count++;
            tellFame(added, 0, 0, FIRST_YEAR);
            return added;
        }

        int tellFame(int person, int itsFame, int itsGrowth, int from) {
            int before = toldFame[person];
            toldFame[person] = itsFame;
            growth[person] = itsGrowth;
            famousFrom[person] = from;
            return before;
        }

        int fameIn(int person, int year) {
            if (year < famousFrom[person]) {
                return 0;
            }
            int more = growth[person] * (year - famousFrom[person]) / YEARS_OF_GROWTH;
            return Math.min(MOST_FAME, toldFame[person] + more);
        }

        boolean speaksBy(int person, int year) {
            return year >= born[person] + FIRST_SPEECH;
        }

        boolean isOfTime(int person, int year) {
            return speaksBy(person, year) && year <= died[person] + LATEST_PRINT;
        }
    }

    /** All documents as they were added, and which of them are known. */
    private static final class Papers {
        private final Lexicon lexicon;
        private final int[] year = new int[MOST_DOCUMENTS];
        private final int[] kind = new int[MOST_DOCUMENTS];
        private final int[] trust = new int[MOST_DOCUMENTS];
        private final int[] author = new int[MOST_DOCUMENTS];
        private final int[] named = new int[MOST_DOCUMENTS];
        private final int[] depth = new int[MOST_DOCUMENTS];
        private final int[] length = new int[MOST_DOCUMENTS];
        private final int[][] text = new int[MOST_DOCUMENTS][MOST_SAID];
        private final boolean[] isOpen = new boolean[MOST_DOCUMENTS];
        private int count;

        Papers(Lexicon lexicon) {
            this.lexicon = lexicon;
        }

        int add(Draft draft, int itsKind, int itsYear, int itsTrust, int itsDepth) {
            int added = count;
            year[added] = itsYear;
            kind[added] = itsKind;
            trust[added] = itsTrust;
            depth[added] = itsDepth;
            isOpen[added] = itsDepth == 0;
            length[added] = draft.length;
            for (int place = 0; place < draft.length; place++) {
                text[added][place] = draft.words[place];
            }
            count++;
            return added;
        }

        void credit(int document, int itsAuthor, int itsNamed) {
            author[document] = itsAuthor;
            named[document] = itsNamed;
        }

        boolean isVersion(int document) {
            return isOpen[document] && kind[document] != DENIAL;
        }

        boolean isKnownDenial(int document) {
            return isOpen[document] && kind[document] == DENIAL;
        }

        boolean isAhead(int one, int other) {
            return year[one] < year[other] || year[one] == year[other] && one < other;
        }

        boolean hasWordsBy(int document, int latest) {
            for (int place = 0; place < length[document]; place++) {
                if (lexicon.year[text[document][place]] > latest) {
                    return false;
                }
            }
            return true;
        }

        int tongueOf(int document) {
            return lexicon.tongue[text[document][0]];
        }
    }

    /** How texts become one another, word by word. */
    private static final class Differences {
        private static final int LEAVE_OUT = 1;
        private static final int PUT_IN = 2;
        private static final int OTHER_WORD = 1;
        private static final int OTHER_CONCEPT = 3;
        private static final int MOST_OF_NEAR = 6;

        private final Lexicon lexicon;
        private final Papers papers;
        private final int[][] least = new int[MOST_SAID + 1][MOST_SAID + 1];
        private final int[][] between = new int[MOST_DOCUMENTS][MOST_DOCUMENTS];
        private final char[] path = new char[2 * MOST_SAID];
        private int pathLength;

        Differences(Lexicon lexicon, Papers papers) {
            this.lexicon = lexicon;
            this.papers = papers;
        }

        /** Texts never change, so each distance is worked out once, when the later document comes. */
        void measure(int document) {
            for (int each = 0; each <= document; each++) {
                between[each][document] = leastSum(each, document);
                between[document][each] = leastSum(document, each);
            }
        }

        boolean areNear(int one, int other) {
            return between[one][other] <= MOST_OF_NEAR;
        }

        /** The last step is noted first, since the steps are told from the ends on. */
        void trace(int one, int other) {
            leastSum(one, other);
            int i = papers.length[one];
            int j = papers.length[other];
            pathLength = 0;
            while (pathLength < path.length && (i > 0 || j > 0)) {
                char step = lastStep(one, i, other, j);
                path[pathLength] = step;
                pathLength++;
                i -= step == 'i' ? 0 : 1;
                j -= step == 'd' ? 0 : 1;
            }
        }

        char pathFromStart(int index) {
            return path[pathLength - 1 - index];
        }

        private char lastStep(int one, int i, int other, int j) {
            if (i > 0 && j > 0) {
                char pair = pairAt(one, i, other, j);
                if (least[i][j] == least[i - 1][j - 1] + priceOf(pair)) {
                    return pair;
                }
            }
            return i > 0 && least[i][j] == least[i - 1][j] + LEAVE_OUT ? 'd' : 'i';
        }

        private int leastSum(int one, int other) {
            int rows = papers.length[one];
            int columns = papers.length[other];
            for (int j = 0; j <= columns; j++) {
                least[0][j] = j * PUT_IN;
            }
            for (int i = 1; i <= rows; i++) {
                least[i][0] = i * LEAVE_OUT;
                for (int j = 1; j <= columns; j++) {
                    int paired = least[i - 1][j - 1] + priceOf(pairAt(one, i, other, j));
                    int single = Math.min(least[i - 1][j] + LEAVE_OUT, least[i][j - 1] + PUT_IN);
                    least[i][j] = Math.min(paired, single);
                }
            }
            return least[rows][columns];
        }

        private char pairAt(int one, int i, int other, int j) {
            return lexicon.stepOfPair(papers.text[one][i - 1], papers.text[other][j - 1]);
        }

        private static int priceOf(char pair) {
            if (pair == '=') {
                return 0;
            }
            return pair == 'w' ? OTHER_CONCEPT : OTHER_WORD;
        }
    }

    /** The least costly way of each version, and the trees that the ways make. */
    private static final class Ways {
        private static final int ORIGIN = 40;
        private static final int WRONG_TIME = 20;
        private static final int DENIED = 15;
        private static final int PER_DISTANCE = 10;
        private static final int YEARS_PER_POINT = 20;
        private static final int NAME_LOST = 2;
        private static final int LEAST_FOR_NAME = 1;

        private final People people;
        private final Papers papers;
        private final Differences differences;
        private final int[] order = new int[MOST_DOCUMENTS];
        private final int[] copyOf = new int[MOST_DOCUMENTS];
        private final int[] price = new int[MOST_DOCUMENTS];
        private final int[] root = new int[MOST_DOCUMENTS];
        private final int[] chainLength = new int[MOST_DOCUMENTS];
        private final int[] under = new int[MOST_DOCUMENTS];
        private int count;
        private int movedCount;

        Ways(People people, Papers papers, Differences differences) {
            this.people = people;
            this.papers = papers;
            this.differences = differences;
            Arrays.fill(copyOf, NONE);
            Arrays.fill(root, NONE);
        }

        void findAnew() {
            putInOrder();
            movedCount = 0;
            for (int place = 0; place < count; place++) {
                chooseWay(place);
                joinTree(order[place]);
            }
            countUnder();
        }

        boolean hasDenied(int person, int document, int latest) {
            for (int each = 0; each < papers.count; each++) {
                if (papers.isKnownDenial(each) && papers.named[each] == person && papers.year[each] <= latest
                        && differences.areNear(each, document)) {
                    return true;
                }
            }
            return false;
        }

        int treeSize(int version) {
            return under[root[version]] + 1;
        }

        int memberAt(int version, int index) {
            int ahead = 0;
            for (int place = 0; place < count; place++) {
                if (isInTree(order[place], version)) {
                    if (ahead == index) {
                        return order[place];
                    }
                    ahead++;
                }
            }
            return NONE;
        }

        boolean isInTree(int one, int version) {
            return root[one] == root[version];
        }

        int sumOfPrices() {
            int sum = 0;
            for (int place = 0; place < count; place++) {
                sum += price[order[place]];
            }
            return sum;
        }

        int sumOfChains() {
            int sum = 0;
            for (int place = 0; place < count; place++) {
                sum += chainLength[order[place]];
            }
            return sum;
        }

        int countOrigins() {
            int origins = 0;
            for (int place = 0; place < count; place++) {
                if (copyOf[order[place]] == NONE) {
                    origins++;
                }
            }
            return origins;
        }

        /** Each history is a number that tells the way of every version, so this is for few versions only. */
        int leastOfHistories() {
            int histories = 1;
            for (int place = 1; place < count && place < MOST_FOR_ALL_HISTORIES; place++) {
                histories *= place + 1;
            }
            int least = priceOfHistory(0);
            for (int history = 1; history < histories; history++) {
                least = Math.min(least, priceOfHistory(history));
            }
            return least;
        }

        boolean areAllFair() {
            for (int place = 0; place < count; place++) {
                if (!isFair(order[place])) {
                    return false;
                }
            }
            return true;
        }

        private int priceOfHistory(int history) {
            int sum = 0;
            int rest = history;
            for (int place = 0; place < count; place++) {
                int ways = place + 1;
                sum += priceOfWay(place, rest % ways);
                rest /= ways;
            }
            return sum;
        }

        /** The ways are the versions ahead, as they stand in the order, and behind them that of an origin. */
        private int priceOfWay(int place, int way) {
            int version = order[place];
            return way == place ? priceAsOrigin(version)
                    : priceAsCopy(version, order[way], priceOfNewName(version));
        }

        private boolean isFair(int version) {
            int asOrigin = priceAsOrigin(version);
            int from = copyOf[version];
            if (from == NONE) {
                return price[version] == asOrigin;
            }
            return papers.isAhead(from, version) && price[version] <= asOrigin
                    && price[version] == priceAsCopy(version, from, priceOfNewName(version));
        }

        private void putInOrder() {
            count = 0;
            for (int each = 0; each < papers.count; each++) {
                if (papers.isVersion(each)) {
                    insert(each);
                }
            }
        }

        private void insert(int version) {
            int place = count;
            while (place > 0 && papers.isAhead(version, order[place - 1])) {
                order[place] = order[place - 1];
                place--;
            }
            order[place] = version;
            count++;
        }

        private void chooseWay(int place) {
            int version = order[place];
            int nameChange = priceOfNewName(version);
            int from = NONE;
            int least = priceAsOrigin(version);
            for (int ahead = 0; ahead < place; ahead++) {
                int candidate = order[ahead];
                int way = priceAsCopy(version, candidate, nameChange);
                if (way < least || way == least && candidate < from) {
                    least = way;
                    from = candidate;
                }
            }
            price[version] = least;
            copyOf[version] = from;
        }

        /** What the version is copied from stands ahead in the order, so its tree is found by now. */
        private void joinTree(int version) {
            int from = copyOf[version];
            int before = root[version];
            root[version] = from == NONE ? version : root[from];
            chainLength[version] = from == NONE ? 1 : chainLength[from] + 1;
            if (before != NONE && before != root[version]) {
                movedCount++;
            }
        }

        private void countUnder() {
            Arrays.fill(under, 0);
            for (int place = count - 1; place >= 0; place--) {
                int version = order[place];
                if (copyOf[version] != NONE) {
                    under[copyOf[version]] += under[version] + 1;
                }
            }
        }

        private int priceAsOrigin(int version) {
            int sum = ORIGIN + MOST_TRUST - papers.trust[version];
            int person = papers.named[version];
            if (person != NONE) {
                sum += people.isOfTime(person, papers.year[version]) ? 0 : WRONG_TIME;
                sum += priceOfDenial(version, person);
            }
            return sum;
        }

        private int priceAsCopy(int version, int from, int nameChange) {
            int years = papers.year[version] - papers.year[from];
            int sum = PER_DISTANCE * differences.between[from][version] + years / YEARS_PER_POINT;
            return papers.named[version] == papers.named[from] ? sum : sum + nameChange;
        }

        private int priceOfNewName(int version) {
            int person = papers.named[version];
            if (person == NONE) {
                return NAME_LOST;
            }
            int strange = MOST_FAME - people.fameIn(person, papers.year[version]);
            return Math.max(LEAST_FOR_NAME, strange) + priceOfDenial(version, person);
        }

        private int priceOfDenial(int version, int person) {
            return hasDenied(person, version, papers.year[version]) ? DENIED : 0;
        }
    }

    /** Searches hidden documents and keeps the log of the searches. */
    private static final class Finder {
        private static final int EARLIEST_BEFORE = 30;
        private static final int LATEST_BEFORE = 1;

        private final Lexicon lexicon;
        private final Papers papers;
        private final int[] kind = new int[MOST_SEARCHES];
        private final int[] from = new int[MOST_SEARCHES];
        private final int[] to = new int[MOST_SEARCHES];
        private final int[] depth = new int[MOST_SEARCHES];
        private int logged;

        Finder(Lexicon lexicon, Papers papers) {
            this.lexicon = lexicon;
            this.papers = papers;
        }

        int enterLog(int itsKind, int first, int last, int itsDepth) {
            int entry = logged;
            kind[entry] = itsKind;
            from[entry] = first;
            to[entry] = last;
            depth[entry] = itsDepth;
            logged++;
            return entry;
        }

        int revealAll(int entry, Draft draft, int gap) {
            int found = 0;
            for (int each = 0; each < papers.count; each++) {
                if (!papers.isOpen[each] && isReached(entry, each) && hasPhrase(each, draft, gap)) {
                    papers.isOpen[each] = true;
                    found++;
                }
            }
            return found;
        }

        int thoroughness(int year) {
            int sum = 0;
            for (int each = 0; each < KINDS_OF_VERSIONS; each++) {
                sum += greatestDepth(each, year - EARLIEST_BEFORE, year - LATEST_BEFORE);
            }
            return sum / KINDS_OF_VERSIONS;
        }

        private int greatestDepth(int itsKind, int first, int last) {
            int greatest = 0;
            for (int entry = 0; entry < logged; entry++) {
                if (kind[entry] == itsKind && from[entry] <= first && to[entry] >= last) {
                    greatest = Math.max(greatest, depth[entry]);
                }
            }
            return greatest;
        }

        private boolean isReached(int entry, int document) {
            return papers.kind[document] == kind[entry] && papers.year[document] >= from[entry]
                    && papers.year[document] <= to[entry] && papers.depth[document] <= depth[entry];
        }

        /**
         * All places at which the words so far can end are carried along as bits, since the
         * first place that fits one word may be too far from any that fits the next one.
         */
        private boolean hasPhrase(int document, Draft draft, int gap) {
            int ends = placesOf(document, draft.words[0]);
            for (int next = 1; next < draft.length; next++) {
                ends = placesOf(document, draft.words[next]) & placesBehind(ends, gap);
            }
            return ends != 0;
        }

        private int placesOf(int document, int word) {
            int places = 0;
            for (int place = 0; place < papers.length[document]; place++) {
                if (lexicon.concept[papers.text[document][place]] == lexicon.concept[word]) {
                    places |= 1 << place;
                }
            }
            return places;
        }

        private static int placesBehind(int ends, int gap) {
            int places = 0;
            for (int behind = 1; behind <= gap + 1; behind++) {
                places |= ends << behind;
            }
            return places;
        }
    }

    /** Who is behind a saying. */
    private static final class Judge {
        private static final int ORIGINS_OF_A_PROVERB = 3;

        private final People people;
        private final Papers papers;
        private final Differences differences;
        private final Ways ways;

        Judge(People people, Papers papers, Differences differences, Ways ways) {
            this.people = people;
            this.papers = papers;
            this.differences = differences;
            this.ways = ways;
        }

        char judgement(int version, int person) {
            int root = ways.root[version];
            if (papers.author[root] == person) {
                return 'w';
            }
            if (papers.named[root] == person && isAble(person, root) && !ways.hasDenied(person, root, LAST_YEAR)) {
                return 's';
            }
            if (hasTranslated(person, root)) {
                return 't';
            }
            int popular = mostCopied(root);
            if (popular != NONE && papers.author[popular] == person) {
                return 'p';
            }
            return firstThatNames(root, person) == NONE ? 'u' : 'm';
        }

        boolean isAble(int person, int document) {
            int year = papers.year[document];
            return people.speaksBy(person, year) && papers.hasWordsBy(document, Math.min(year, people.died[person]));
        }

        int firstThatNames(int version, int person) {
            for (int place = 0; place < ways.count; place++) {
                int each = ways.order[place];
                if (ways.isInTree(each, version) && papers.named[each] == person) {
                    return each;
                }
            }
            return NONE;
        }

        boolean isFromManyMouths(int root) {
            if (papers.named[root] != NONE) {
                return false;
            }
            int alike = 0;
            for (int place = 0; place < ways.count; place++) {
                int each = ways.order[place];
                if (ways.copyOf[each] == NONE && papers.named[each] == NONE && differences.areNear(each, root)) {
                    alike++;
                }
            }
            return alike >= ORIGINS_OF_A_PROVERB;
        }

        /** The root is the first version of its own tongue, so the tongues seen begin with this one. */
        private boolean hasTranslated(int person, int root) {
            int tonguesSeen = 1 << papers.tongueOf(root);
            for (int place = 0; place < ways.count; place++) {
                int each = ways.order[place];
                int tongue = 1 << papers.tongueOf(each);
                if (ways.isInTree(each, root) && (tonguesSeen & tongue) == 0) {
                    if (papers.author[each] == person) {
                        return true;
                    }
                    tonguesSeen |= tongue;
                }
            }
            return false;
        }

        private int mostCopied(int root) {
            int most = 0;
            int best = NONE;
            for (int place = 0; place < ways.count; place++) {
                int each = ways.order[place];
                if (each != root && ways.isInTree(each, root) && ways.under[each] > most) {
                    most = ways.under[each];
                    best = each;
                }
            }
            return best;
        }
    }

    /** Collections with their entries, and how they resemble each other. */
    private static final class Shelves {
        private static final int PER_MISTAKE = 2;
        private static final int PER_NEIGHBOURS = 1;
        private static final int LEAST_OF_A_COPY = 3;

        private final Papers papers;
        private final Judge judge;
        private final int[] year = new int[MOST_COLLECTIONS];
        private final int[] size = new int[MOST_COLLECTIONS];
        private final int[][] entries = new int[MOST_COLLECTIONS][MOST_ENTRIES];
        private int count;

        Shelves(Papers papers, Judge judge) {
            this.papers = papers;
            this.judge = judge;
        }

        int add(int itsYear) {
            int added = count;
            year[added] = itsYear;
            count++;
            return added;
        }

        int append(int shelf, int document) {
            entries[shelf][size[shelf]] = document;
            size[shelf]++;
            return size[shelf];
        }

        int placeOf(int shelf, int document) {
            for (int place = 0; place < size[shelf]; place++) {
                if (entries[shelf][place] == document) {
                    return place;
                }
            }
            return NONE;
        }

        int countSlips(int shelf) {
            int sum = 0;
            for (int place = 1; place < size[shelf]; place++) {
                int entry = entries[shelf][place];
                if (papers.named[entry] == papers.named[entries[shelf][place - 1]] && isMistake(entry)) {
                    sum++;
                }
            }
            return sum;
        }

        int shared(int shelf, int other) {
            int sum = 0;
            for (int place = 0; place < size[shelf]; place++) {
                int entry = entries[shelf][place];
                if (placeOf(other, entry) != NONE && isMistake(entry)) {
                    sum += PER_MISTAKE;
                }
                if (place > 0 && areNeighbours(other, entries[shelf][place - 1], entry)) {
                    sum += PER_NEIGHBOURS;
                }
            }
            return sum;
        }

        int modelOf(int shelf) {
            int most = LEAST_OF_A_COPY - 1;
            int best = NONE;
            for (int each = 0; each < count; each++) {
                int alike = isAhead(each, shelf) ? shared(shelf, each) : 0;
                if (alike > most) {
                    most = alike;
                    best = each;
                }
            }
            return best;
        }

        private boolean isAhead(int one, int other) {
            return year[one] < year[other] || year[one] == year[other] && one < other;
        }

        private boolean areNeighbours(int shelf, int first, int second) {
            int place = placeOf(shelf, first);
            return place != NONE && place + 1 < size[shelf] && entries[shelf][place + 1] == second;
        }

        private boolean isMistake(int document) {
            int person = papers.named[document];
            return person != NONE && judge.judgement(document, person) == 'm';
        }
    }

    /** Quotes told by outlets, and the corrections pushed to them. */
    private static final class Quotes {
        private final Judge judge;
        private final int[] outlet = new int[MOST_QUOTES];
        private final int[] version = new int[MOST_QUOTES];
        private final int[] person = new int[MOST_QUOTES];
        private final boolean[] isCorrected = new boolean[MOST_QUOTES];
        private int count;

        Quotes(Judge judge) {
            this.judge = judge;
        }

        int add(int itsOutlet, int itsVersion, int itsPerson) {
            outlet[count] = itsOutlet;
            version[count] = itsVersion;
            person[count] = itsPerson;
            count++;
            return count;
        }

        int countWaiting() {
            int waiting = 0;
            for (int each = 0; each < count; each++) {
                if (isWaiting(each)) {
                    waiting++;
                }
            }
            return waiting;
        }

        int correctAll() {
            int corrected = 0;
            for (int each = 0; each < count; each++) {
                if (isWaiting(each)) {
                    isCorrected[each] = true;
                    corrected++;
                }
            }
            return corrected;
        }

        int countCorrected(int itsOutlet) {
            int corrected = 0;
            for (int each = 0; each < count; each++) {
                if (isCorrected[each] && outlet[each] == itsOutlet) {
                    corrected++;
                }
            }
            return corrected;
        }

        private boolean isWaiting(int quote) {
            if (isCorrected[quote]) {
                return false;
            }
            char judgement = judge.judgement(version[quote], person[quote]);
            return judgement == 'm' || judgement == 'u';
        }
    }
}
