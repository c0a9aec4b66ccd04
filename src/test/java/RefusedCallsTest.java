import java.util.ArrayList;
import java.util.List;
import java.util.NoSuchElementException;

/**
 * "A method that throws an exception changes nothing. If several exceptions apply, the one that is listed first is
 * thrown." Of two desks with the same calls one is refused a call; from then on both must answer alike.
 */
final class RefusedCallsTest {
    private static final Class<IndexOutOfBoundsException> INDEX = IndexOutOfBoundsException.class;
    private static final Class<IllegalArgumentException> ARGUMENT = IllegalArgumentException.class;
    private static final Class<UnsupportedOperationException> UNSUPPORTED = UnsupportedOperationException.class;
    private static final Class<IllegalStateException> STATE = IllegalStateException.class;
    private static final Class<NoSuchElementException> ABSENT = NoSuchElementException.class;

    /** The fullest desk takes fewer than 400 calls, and 512 are promised. */
    private static final int MOST_QUESTIONS = 100;
    private static final String TEN_LETTERS = "zzzzzzzzzz";
    private static final int VERSION = 0;
    private static final int HIDDEN = 2;
    private static final int DENIAL = 3;
    private static final int NONE = 40;

    private enum Start { EMPTY, SOME, FULL }

    private interface Act {
        Object on(WhosaidDesk desk);
    }

    private static final List<List<Act>> QUESTIONS = new ArrayList<>();

    private RefusedCallsTest() {
    }

    public static void main(String[] args) {
        gatherQuestions();
        someHaveMoved();
        wordsAreRefused();
        lettersAreRefused();
        peopleAreRefused();
        fameIsRefused();
        peopleOfDocumentsAreRefused();
        numbersOfDocumentsAreRefused();
        textsOfDocumentsAreRefused();
        numbersOfSearchesAreRefused();
        textsOfSearchesAreRefused();
        differencesAreRefused();
        waysAreRefused();
        verdictsAreRefused();
        parallelsAreRefused();
        collectionsAreRefused();
        entriesAreRefused();
        quotesAreRefused();
        figuresAreRefused();
        Check.end();
    }

    private static void wordsAreRefused() {
        refuse("2 out of range", ARGUMENT, Start.SOME, "bo", 2, desk -> desk.word(31, 0, 1000));
        refuse("2 out of range ahead of full", ARGUMENT, Start.FULL, "", 0, desk -> desk.word(0, 4, 1000));
        refuse("2 a year ahead of full", ARGUMENT, Start.FULL, "", 0, desk -> desk.word(0, 0, 999));
        refuse("2 full", STATE, Start.FULL, "book", 1, desk -> desk.word(0, 0, 1000));
        refuse("3 no word", INDEX, Start.SOME, "book", 3, desk -> desk.say(NONE));
        refuse("3 no word ahead of full", INDEX, Start.SOME, "book", 10, desk -> desk.say(-1));
        refuse("3 full", STATE, Start.SOME, "book", 10, desk -> desk.say(0));
    }

    private static void lettersAreRefused() {
        refuse("5 out of range", ARGUMENT, Start.SOME, "boo", 1, desk -> desk.letter('K'));
        refuse("5 out of range behind a kind", ARGUMENT, Start.SOME, "book", 1, desk -> desk.letter('{'));
        refuse("5 out of range ahead of full", ARGUMENT, Start.SOME, TEN_LETTERS, 1, desk -> desk.letter('`'));
        refuse("5 full", STATE, Start.SOME, TEN_LETTERS, 1, desk -> desk.letter('a'));
    }

    private static void peopleAreRefused() {
        refuse("6 out of range", ARGUMENT, Start.SOME, "book", 1, desk -> desk.person(999, 1800));
        refuse("6 died ahead", ARGUMENT, Start.SOME, "book", 1, desk -> desk.person(1800, 1799));
        refuse("6 died ahead, ahead of full", ARGUMENT, Start.FULL, "", 0, desk -> desk.person(1800, 1799));
        refuse("6 full", STATE, Start.FULL, "book", 1, desk -> desk.person(1800, 1801));
    }

    private static void fameIsRefused() {
        refuse("7 nobody", INDEX, Start.SOME, "book", 1, desk -> desk.setFame(NONE, 20, 0, 1000));
        refuse("7 nobody ahead of numbers", INDEX, Start.SOME, "", 0, desk -> desk.setFame(-1, 21, -1, 999));
        refuse("7 fame", ARGUMENT, Start.SOME, "book", 1, desk -> desk.setFame(0, 21, 0, 1000));
        refuse("7 growth", ARGUMENT, Start.SOME, "book", 1, desk -> desk.setFame(0, 20, 21, 1000));
        refuse("7 year", ARGUMENT, Start.FULL, "book", 1, desk -> desk.setFame(0, 20, 20, 2101));
        refuse("8 nobody", INDEX, Start.SOME, "book", 1, desk -> desk.fame(NONE, 1800));
        refuse("8 nobody ahead of the year", INDEX, Start.SOME, "book", 1, desk -> desk.fame(-1, 999));
        refuse("8 year", ARGUMENT, Start.SOME, "book", 1, desk -> desk.fame(0, 2101));
    }

    private static void peopleOfDocumentsAreRefused() {
        refuse("9 no author", INDEX, Start.SOME, "book", 2, desk -> desk.document(1800, 5, NONE, -1, 0));
        refuse("9 nobody named", INDEX, Start.SOME, "book", 2, desk -> desk.document(1800, 5, -1, -2, 0));
        refuse("9 nobody ahead of the year", INDEX, Start.SOME, "book", 2, desk -> desk.document(999, 5, NONE, -1, 0));
        refuse("9 nobody named ahead of the year", INDEX, Start.SOME, "book", 2,
                desk -> desk.document(999, 5, 0, -2, 0));
        refuse("9 nobody ahead of no kind", INDEX, Start.SOME, "boo", 2, desk -> desk.document(1800, 5, -2, -1, 0));
        refuse("9 nobody ahead of empty", INDEX, Start.SOME, "book", 0, desk -> desk.document(1800, 5, -1, NONE, 0));
        refuse("9 no author of a denial that names nobody", INDEX, Start.SOME, "denial", 1,
                desk -> desk.document(1800, 5, NONE, -1, 0));
        refuse("9 nobody ahead of full", INDEX, Start.FULL, "book", 1, desk -> desk.document(1800, 5, NONE, -1, 0));
        refuse("9 nobody ahead of all", INDEX, Start.FULL, "", 0, desk -> desk.document(999, 10, NONE, -2, 101));
    }

    private static void numbersOfDocumentsAreRefused() {
        refuse("9 year", ARGUMENT, Start.SOME, "book", 2, desk -> desk.document(2101, 5, -1, -1, 0));
        refuse("9 trust", ARGUMENT, Start.SOME, "book", 2, desk -> desk.document(1800, 10, -1, -1, 0));
        refuse("9 hidden", ARGUMENT, Start.SOME, "book", 2, desk -> desk.document(1800, 5, -1, -1, 101));
        refuse("9 no kind", ARGUMENT, Start.SOME, "books", 2, desk -> desk.document(1800, 5, -1, -1, 0));
        refuse("9 no name", ARGUMENT, Start.SOME, "", 2, desk -> desk.document(1800, 5, -1, -1, 0));
        refuse("9 year ahead of empty", ARGUMENT, Start.SOME, "book", 0, desk -> desk.document(999, 5, -1, -1, 0));
        refuse("9 trust ahead of empty", ARGUMENT, Start.SOME, "book", 0, desk -> desk.document(1800, -1, -1, -1, 0));
        refuse("9 hidden ahead of empty", ARGUMENT, Start.SOME, "book", 0, desk -> desk.document(1800, 5, -1, -1, -1));
        refuse("9 no kind ahead of empty", ARGUMENT, Start.SOME, "b", 0, desk -> desk.document(1800, 5, -1, -1, 0));
        refuse("9 year ahead of a denial of nobody", ARGUMENT, Start.SOME, "denial", 2,
                desk -> desk.document(999, 5, -1, -1, 0));
        refuse("9 year ahead of full", ARGUMENT, Start.FULL, "book", 2, desk -> desk.document(999, 5, -1, -1, 0));
        refuse("9 no kind ahead of full", ARGUMENT, Start.FULL, "boo", 2, desk -> desk.document(1800, 5, -1, -1, 0));
        refuse("9 no kind ahead of both", ARGUMENT, Start.FULL, "", 0, desk -> desk.document(1800, 5, -1, -1, 0));
    }

    private static void textsOfDocumentsAreRefused() {
        refuse("9 empty", UNSUPPORTED, Start.SOME, "book", 0, desk -> desk.document(1800, 5, -1, -1, 0));
        refuse("9 denies nobody", UNSUPPORTED, Start.SOME, "denial", 2, desk -> desk.document(1800, 5, 0, -1, 0));
        refuse("9 empty and denies nobody", UNSUPPORTED, Start.SOME, "denial", 0,
                desk -> desk.document(1800, 5, 0, -1, 0));
        refuse("9 empty ahead of full", UNSUPPORTED, Start.FULL, "book", 0, desk -> desk.document(1800, 5, -1, -1, 0));
        refuse("9 denies nobody ahead of full", UNSUPPORTED, Start.FULL, "denial", 2,
                desk -> desk.document(1800, 5, -1, -1, 0));
        refuse("9 full", STATE, Start.FULL, "book", 2, desk -> desk.document(1800, 5, -1, -1, 0));
        refuse("9 full for denials", STATE, Start.FULL, "denial", 10, desk -> desk.document(1800, 5, -1, 0, 100));
    }

    private static void numbersOfSearchesAreRefused() {
        refuse("10 from", ARGUMENT, Start.SOME, "book", 1, desk -> desk.search(999, 2100, 100, 9));
        refuse("10 to", ARGUMENT, Start.SOME, "book", 1, desk -> desk.search(1000, 2101, 100, 9));
        refuse("10 to ahead of from", ARGUMENT, Start.SOME, "book", 1, desk -> desk.search(1900, 1899, 100, 9));
        refuse("10 depth", ARGUMENT, Start.SOME, "book", 1, desk -> desk.search(1000, 2100, 101, 9));
        refuse("10 gap", ARGUMENT, Start.SOME, "book", 1, desk -> desk.search(1000, 2100, 100, 10));
        refuse("10 no kind", ARGUMENT, Start.SOME, "boo", 1, desk -> desk.search(1000, 2100, 100, 9));
        refuse("10 from ahead of empty", ARGUMENT, Start.SOME, "book", 0, desk -> desk.search(999, 2100, 100, 9));
        refuse("10 depth ahead of empty", ARGUMENT, Start.SOME, "book", 0, desk -> desk.search(1000, 2100, 0, 9));
        refuse("10 gap ahead of empty", ARGUMENT, Start.SOME, "book", 0, desk -> desk.search(1000, 2100, 100, -1));
        refuse("10 no kind ahead of empty", ARGUMENT, Start.SOME, "", 0, desk -> desk.search(1000, 2100, 100, 9));
        refuse("10 depth ahead of full", ARGUMENT, Start.FULL, "book", 1, desk -> desk.search(1000, 2100, 0, 9));
        refuse("10 no kind ahead of full", ARGUMENT, Start.FULL, "boo", 1, desk -> desk.search(1000, 2100, 100, 9));
        refuse("10 no kind ahead of both", ARGUMENT, Start.FULL, "", 0, desk -> desk.search(1000, 2100, 100, 9));
    }

    private static void textsOfSearchesAreRefused() {
        refuse("10 empty", UNSUPPORTED, Start.SOME, "book", 0, desk -> desk.search(1000, 2100, 100, 9));
        refuse("10 empty ahead of full", UNSUPPORTED, Start.FULL, "book", 0, desk -> desk.search(1000, 2100, 100, 9));
        refuse("10 full", STATE, Start.FULL, "book", 1, desk -> desk.search(1000, 2100, 100, 9));
        refuse("10 full for denials", STATE, Start.FULL, "denial", 1, desk -> desk.search(1000, 2100, 100, 9));
    }

    private static void differencesAreRefused() {
        refuse("12 none", INDEX, Start.SOME, "book", 1, desk -> desk.isKnown(NONE));
        refuse("12 none on an empty desk", INDEX, Start.EMPTY, "book", 0, desk -> desk.isKnown(0));
        refuse("14 none", INDEX, Start.SOME, "book", 1, desk -> desk.distance(NONE, 0));
        refuse("14 no other", INDEX, Start.SOME, "book", 1, desk -> desk.distance(0, -1));
        refuse("15 none", INDEX, Start.SOME, "book", 1, desk -> desk.steps(-1, 0));
        refuse("15 no other", INDEX, Start.SOME, "book", 1, desk -> desk.steps(0, NONE));
        refuse("16 none", INDEX, Start.SOME, "book", 1, desk -> desk.stepAt(NONE, 0, 0));
        refuse("16 no other", INDEX, Start.SOME, "book", 1, desk -> desk.stepAt(0, NONE, 0));
        refuse("16 no step", INDEX, Start.SOME, "book", 1, desk -> desk.stepAt(0, 1, 19));
    }

    private static void waysAreRefused() {
        for (int no : new int[] {-1, NONE}) {
            refuseWays(INDEX, no);
        }
        refuseWays(UNSUPPORTED, HIDDEN);
        refuseWays(UNSUPPORTED, DENIAL);
        refuse("17 an origin", ABSENT, Start.SOME, "book", 1, desk -> desk.source(VERSION));
        refuse("22 no index", ABSENT, Start.SOME, "book", 1, desk -> desk.versionAt(VERSION, 30));
        refuse("22 none ahead of no index", INDEX, Start.SOME, "book", 1, desk -> desk.versionAt(NONE, -1));
        refuse("22 no version ahead of no index", UNSUPPORTED, Start.SOME, "book", 1,
                desk -> desk.versionAt(HIDDEN, -1));
    }

    private static void refuseWays(Class<? extends RuntimeException> want, int no) {
        refuse("17 source of " + no, want, Start.SOME, "book", 1, desk -> desk.source(no));
        refuse("18 cost of " + no, want, Start.SOME, "book", 1, desk -> desk.cost(no));
        refuse("19 rootOf " + no, want, Start.SOME, "book", 1, desk -> desk.rootOf(no));
        refuse("20 chain of " + no, want, Start.SOME, "book", 1, desk -> desk.chain(no));
        refuse("21 versions of " + no, want, Start.SOME, "book", 1, desk -> desk.versions(no));
        refuse("22 versionAt of " + no, want, Start.SOME, "book", 1, desk -> desk.versionAt(no, 0));
        refuse("23 below " + no, want, Start.SOME, "book", 1, desk -> desk.below(no));
        refuse("26 verdict of " + no, want, Start.SOME, "book", 1, desk -> desk.verdict(no, 0));
        refuse("27 since of " + no, want, Start.SOME, "book", 1, desk -> desk.since(no, 0));
        refuse("28 sure of " + no, want, Start.SOME, "book", 1, desk -> desk.sure(no));
        refuse("29 areParallel of " + no, want, Start.SOME, "book", 1, desk -> desk.areParallel(no, 0));
        refuse("29 areParallel to " + no, want, Start.SOME, "book", 1, desk -> desk.areParallel(0, no));
        refuse("30 isProverb of " + no, want, Start.SOME, "book", 1, desk -> desk.isProverb(no));
        refuse("32 enter " + no, want, Start.SOME, "book", 1, desk -> desk.enter(0, no));
        refuse("36 quote of " + no, want, Start.SOME, "book", 1, desk -> desk.quote(0, no, 0));
    }

    private static void verdictsAreRefused() {
        refuse("24 none", INDEX, Start.SOME, "book", 1, desk -> desk.couldSay(NONE, 0));
        refuse("24 nobody", INDEX, Start.SOME, "book", 1, desk -> desk.couldSay(0, NONE));
        refuse("25 none", INDEX, Start.SOME, "book", 1, desk -> desk.isPossible(-1));
        refuse("26 nobody", INDEX, Start.SOME, "book", 1, desk -> desk.verdict(VERSION, NONE));
        refuse("26 nobody ahead of no version", INDEX, Start.SOME, "book", 1, desk -> desk.verdict(HIDDEN, -1));
        refuse("27 nobody", INDEX, Start.SOME, "book", 1, desk -> desk.since(VERSION, NONE));
        refuse("27 nobody ahead of no version", INDEX, Start.SOME, "book", 1, desk -> desk.since(DENIAL, NONE));
        refuse("27 no version ahead of not named", UNSUPPORTED, Start.SOME, "book", 1, desk -> desk.since(DENIAL, 2));
        refuse("27 not named", ABSENT, Start.SOME, "book", 1, desk -> desk.since(VERSION, 2));
    }

    private static void parallelsAreRefused() {
        refuse("29 none ahead of no version", INDEX, Start.SOME, "book", 1, desk -> desk.areParallel(NONE, HIDDEN));
        refuse("29 no other ahead of no version", INDEX, Start.SOME, "book", 1, desk -> desk.areParallel(HIDDEN, NONE));
        refuse("29 neither is a version", UNSUPPORTED, Start.SOME, "book", 1, desk -> desk.areParallel(HIDDEN, DENIAL));
    }

    private static void collectionsAreRefused() {
        refuse("31 year", ARGUMENT, Start.SOME, "book", 1, desk -> desk.collection(999));
        refuse("31 year ahead of full", ARGUMENT, Start.FULL, "book", 1, desk -> desk.collection(2101));
        refuse("31 full", STATE, Start.FULL, "book", 1, desk -> desk.collection(1900));
        refuse("33 none", INDEX, Start.SOME, "book", 1, desk -> desk.slips(NONE));
        refuse("34 none", INDEX, Start.SOME, "book", 1, desk -> desk.common(-1, 0));
        refuse("34 no other", INDEX, Start.SOME, "book", 1, desk -> desk.common(0, NONE));
        refuse("35 none", INDEX, Start.SOME, "book", 1, desk -> desk.copiedFrom(NONE));
        refuse("35 from none", ABSENT, Start.SOME, "book", 1, desk -> desk.copiedFrom(0));
    }

    private static void entriesAreRefused() {
        refuse("32 no collection", INDEX, Start.SOME, "book", 1, desk -> desk.enter(NONE, VERSION));
        refuse("32 no collection ahead of no version", INDEX, Start.SOME, "", 0, desk -> desk.enter(-1, HIDDEN));
        refuse("32 in it", UNSUPPORTED, Start.SOME, "book", 1, desk -> desk.enter(0, VERSION));
        refuse("32 none ahead of full", INDEX, Start.FULL, "book", 1, desk -> desk.enter(0, NONE));
        refuse("32 in it ahead of full", UNSUPPORTED, Start.FULL, "book", 1, desk -> desk.enter(0, VERSION));
        refuse("32 no version ahead of full", UNSUPPORTED, Start.FULL, "book", 1, desk -> desk.enter(0, HIDDEN));
        refuse("32 full", STATE, Start.FULL, "book", 1, desk -> desk.enter(0, 20));
    }

    private static void quotesAreRefused() {
        refuse("36 nobody", INDEX, Start.SOME, "book", 1, desk -> desk.quote(0, VERSION, NONE));
        refuse("36 none ahead of the outlet", INDEX, Start.SOME, "book", 1, desk -> desk.quote(10, NONE, 0));
        refuse("36 nobody ahead of the outlet", INDEX, Start.SOME, "book", 1, desk -> desk.quote(-1, VERSION, NONE));
        refuse("36 nobody ahead of no version", INDEX, Start.SOME, "book", 1, desk -> desk.quote(0, HIDDEN, -1));
        refuse("36 nobody ahead of full", INDEX, Start.FULL, "book", 1, desk -> desk.quote(0, VERSION, NONE));
        refuse("36 outlet", ARGUMENT, Start.SOME, "book", 1, desk -> desk.quote(10, VERSION, 0));
        refuse("36 outlet ahead of no version", ARGUMENT, Start.SOME, "book", 1, desk -> desk.quote(-1, DENIAL, 0));
        refuse("36 outlet ahead of full", ARGUMENT, Start.FULL, "book", 1, desk -> desk.quote(-1, VERSION, 0));
        refuse("36 no version ahead of full", UNSUPPORTED, Start.FULL, "book", 1, desk -> desk.quote(0, HIDDEN, 0));
        refuse("36 full", STATE, Start.FULL, "book", 1, desk -> desk.quote(0, VERSION, 0));
        refuse("39 outlet", ARGUMENT, Start.SOME, "book", 1, desk -> desk.pushedTo(10));
    }

    private static void figuresAreRefused() {
        refuse("41 more than five", UNSUPPORTED, Start.FULL, "book", 1, desk -> desk.leastOfAll());
        refuse("45 none", ABSENT, Start.EMPTY, "book", 0, desk -> desk.originShare());
        refuse("46 none", ABSENT, Start.EMPTY, "book", 0, desk -> desk.meanChain());
    }

    private static void refuse(String what, Class<? extends RuntimeException> want, Start start, String name,
            int words, Act act) {
        for (List<Act> some : QUESTIONS) {
            WhosaidDesk refused = begin(start, name, words);
            WhosaidDesk spared = begin(start, name, words);
            Check.fails(what, want, () -> act.on(refused));
            for (Act question : some) {
                Object answer = Check.answerOf(() -> question.on(refused));
                Check.same(what + ", then", Check.answerOf(() -> question.on(spared)), answer);
                Check.endsItself(what + ", then", answer);
            }
        }
    }

    private static WhosaidDesk begin(Start start, String name, int words) {
        WhosaidDesk desk = new WhosaidDesk();
        if (start == Start.SOME) {
            addSome(desk);
        } else if (start == Start.FULL) {
            fillUp(desk);
        }
        desk.wipe();
        for (int many = 0; many < words; many++) {
            desk.say(many);
        }
        type(desk, name);
        return desk;
    }

    private static void type(WhosaidDesk desk, String name) {
        for (int place = 0; place < name.length(); place++) {
            desk.letter(name.charAt(place));
        }
    }

    /** Some of each, and room for more: 1 and 4 are mistakes, 5 is a hidden denial, and 6 has moved by the last call. */
    private static void addSome(WhosaidDesk desk) {
        for (int word = 0; word < 10; word++) {
            desk.word(word % 5, word / 5, 1000);
        }
        desk.person(1700, 1770);
        desk.person(1750, 1820);
        desk.person(1800, 1880);
        desk.person(1800, 1880);
        desk.setFame(1, 5, 2, 1750);
        add(desk, "talk", 0, 1800, 0, -1, 0);
        add(desk, "book", 0, 1801, -1, 1, 0);
        add(desk, "book", 0, 1790, -1, -1, 50);
        add(desk, "denial", 0, 1900, -1, 1, 0);
        add(desk, "book", 0, 1802, -1, 1, 0);
        add(desk, "denial", 0, 1700, -1, 0, 50);
        add(desk, "book", 1, 1815, -1, 3, 0);
        desk.collection(1900);
        desk.collection(1900);
        for (int entry : new int[] {0, 1, 4}) {
            desk.enter(0, entry);
            desk.enter(1, entry);
        }
        desk.quote(0, 0, 1);
        desk.push();
        desk.quote(9, 1, 2);
        desk.say(0);
        type(desk, "talk");
        desk.search(1000, 2100, 20, 0);
        desk.setFame(3, 15, 0, 1800);
    }

    /** As much of each as goes; the last search finds a version from which others come. */
    private static void fillUp(WhosaidDesk desk) {
        for (int word = 0; word < 40; word++) {
            desk.word(word % 31, word % 4, 1000);
        }
        for (int person = 0; person < 12; person++) {
            desk.person(1700 + person, 1770 + person);
        }
        for (int document = 0; document < 30; document++) {
            boolean isLast = document == 29;
            String kind = document == DENIAL ? "denial" : document % 2 == 0 ? "talk" : "book";
            int hidden = document == HIDDEN || isLast ? 50 : 0;
            add(desk, kind, isLast ? 0 : document / 10, isLast ? 1750 : 1800, document % 13 - 1, document % 7, hidden);
        }
        for (int shelf = 0; shelf < 5; shelf++) {
            desk.collection(1900 - shelf);
        }
        for (int entry = 0; entry < 8; entry++) {
            desk.enter(0, entry < 2 ? entry : entry + 2);
        }
        for (int quote = 0; quote < 20; quote++) {
            desk.quote(quote % 10, 0, quote % 12);
        }
        desk.push();
        desk.say(0);
        for (int search = 0; search < 20; search++) {
            type(desk, "book");
            desk.search(1000, 2100, search < 19 ? 2 * search + 5 : 100, 0);
        }
    }

    private static void add(WhosaidDesk desk, String kind, int word, int year, int author, int said, int hidden) {
        desk.say(word);
        type(desk, kind);
        desk.document(year, 5, author, said, hidden);
    }

    /** Otherwise a refused call that resets the number could not be seen. */
    private static void someHaveMoved() {
        Check.same("13 moved on the desk with some", 1, begin(Start.SOME, "", 0).moved());
        Check.same("13 moved on the full desk", true, begin(Start.FULL, "", 0).moved() > 0);
    }

    private static void gatherQuestions() {
        List<Act> all = new ArrayList<>();
        for (int document = 0; document < 30; document++) {
            askOfDocument(all, document);
            askOfVersion(all, document);
        }
        askOfFigures(all);
        for (int first = 0; first < all.size(); first += MOST_QUESTIONS) {
            QUESTIONS.add(all.subList(first, Math.min(all.size(), first + MOST_QUESTIONS)));
        }
        QUESTIONS.add(afterADocument());
        QUESTIONS.add(afterASearch());
        QUESTIONS.add(afterAll());
    }

    private static void askOfDocument(List<Act> all, int it) {
        all.add(desk -> desk.isKnown(it));
        all.add(desk -> desk.distance(it, 0));
        all.add(desk -> desk.steps(0, it));
        all.add(desk -> desk.stepAt(it, 1, 0));
        all.add(desk -> desk.couldSay(it, 1));
        all.add(desk -> desk.isPossible(it));
        all.add(desk -> desk.source(it));
        all.add(desk -> desk.cost(it));
        all.add(desk -> desk.rootOf(it));
        all.add(desk -> desk.chain(it));
        all.add(desk -> desk.versions(it));
        all.add(desk -> desk.below(it));
    }

    private static void askOfVersion(List<Act> all, int it) {
        all.add(desk -> desk.versionAt(0, it));
        all.add(desk -> desk.sure(it));
        all.add(desk -> desk.isProverb(it));
        all.add(desk -> desk.areParallel(it, 0));
        for (int person = 0; person < 3; person++) {
            int who = person;
            all.add(desk -> desk.verdict(it, who));
            all.add(desk -> desk.since(it, who));
        }
    }

    private static void askOfFigures(List<Act> all) {
        all.add(desk -> desk.searches());
        all.add(desk -> desk.moved());
        all.add(desk -> desk.totalCost());
        all.add(desk -> desk.leastOfAll());
        all.add(desk -> desk.documents());
        all.add(desk -> desk.known());
        all.add(desk -> desk.checksum());
        all.add(desk -> desk.originShare());
        all.add(desk -> desk.meanChain());
        all.add(desk -> desk.isSound());
        all.add(desk -> desk.pushes());
        for (int outlet = 0; outlet < 10; outlet++) {
            int where = outlet;
            all.add(desk -> desk.pushedTo(where));
        }
        for (int person = 0; person < 3; person++) {
            int who = person;
            all.add(desk -> desk.fame(who, 1800));
            all.add(desk -> desk.fame(who, 1000));
        }
        for (int shelf = 0; shelf < 5; shelf++) {
            int which = shelf;
            all.add(desk -> desk.slips(which));
            all.add(desk -> desk.common(0, which));
            all.add(desk -> desk.copiedFrom(which));
        }
    }

    /** A document shows which words and letters were left. */
    private static List<Act> afterADocument() {
        List<Act> all = new ArrayList<>();
        all.add(desk -> desk.document(1799, 5, 0, 1, 0));
        all.add(desk -> desk.moved());
        all.add(desk -> desk.checksum());
        for (int document = 0; document < 8; document++) {
            int it = document;
            all.add(desk -> desk.distance(it, 7));
            all.add(desk -> desk.cost(it));
        }
        all.add(desk -> desk.wipe());
        return all;
    }

    private static List<Act> afterASearch() {
        List<Act> all = new ArrayList<>();
        all.add(desk -> desk.search(1000, 2100, 100, 9));
        all.add(desk -> desk.searches());
        all.add(desk -> desk.moved());
        all.add(desk -> desk.checksum());
        all.add(desk -> desk.sure(0));
        all.add(desk -> desk.letter('b'));
        all.add(desk -> desk.wipe());
        return all;
    }

    private static List<Act> afterAll() {
        List<Act> all = new ArrayList<>();
        all.add(desk -> desk.letter('a'));
        all.add(desk -> desk.say(0));
        all.add(desk -> desk.wipe());
        all.add(desk -> desk.word(0, 0, 1000));
        all.add(desk -> desk.person(1700, 1800));
        all.add(desk -> desk.setFame(0, 1, 1, 1800));
        all.add(desk -> desk.setFame(1, 1, 1, 1800));
        all.add(desk -> desk.collection(1950));
        all.add(desk -> desk.copiedFrom(1));
        all.add(desk -> desk.enter(0, 0));
        all.add(desk -> desk.enter(1, 3));
        all.add(desk -> desk.quote(1, 0, 2));
        all.add(desk -> desk.push());
        all.add(desk -> desk.pushedTo(1));
        return all;
    }
}
