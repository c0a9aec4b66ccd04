/** Promises 9 to 16. */
final class DocumentsTest {
    private DocumentsTest() {
    }

    public static void main(String[] args) {
        documentsAreNumbered();
        eachKindHasItsName();
        documentsOutOfRangeAreRefused();
        documentsRefuseInOrder();
        hiddenOnesAreFound();
        searchesLookAtKindYearsAndDepth();
        searchesFollowPhrasesWithGaps();
        searchesAreLogged();
        searchesRefuseInOrder();
        versionsMove();
        fameMovesVersions();
        distancesAreLeastSums();
        stepsPreferPairsThenLeavingOut();
        differencesAreRefused();
        Check.end();
    }

    private static void documentsAreNumbered() {
        Scene scene = new Scene();
        for (int number = 0; number < 30; number++) {
            Check.same("9 number", number, scene.book(1000 + number, Scene.ONE));
        }
        scene.type("book");
        scene.say(Scene.ONE);
        Check.state("9 full", () -> scene.desk.document(1500, 0, -1, -1, 0));
        Check.same("9 the buffer stays", 1, scene.desk.wipe());
        Check.same("9 thirty", 30, scene.desk.documents());
    }

    private static void eachKindHasItsName() {
        Scene scene = new Scene();
        String[] kinds = {"book", "paper", "letter", "talk", "notes", "denial"};
        for (String kind : kinds) {
            scene.document(kind, 1800, 5, -1, Scene.ADA, 0, Scene.ONE);
        }
        Check.same("9 kinds", 6, scene.desk.documents());
        Check.same("9 versions", 5, scene.desk.known());
        String[] others = {"", "b", "boo", "books", "bool", "aook", "papers", "lettex", "tals", "note", "denials"};
        for (String other : others) {
            scene.desk.wipe();
            scene.type(other);
            scene.say(Scene.ONE);
            Check.argument("9 no kind " + other, () -> scene.desk.document(1800, 5, -1, -1, 0));
            Check.argument("10 no kind " + other, () -> scene.desk.search(1800, 1900, 5, 0));
        }
    }

    private static void documentsOutOfRangeAreRefused() {
        Scene scene = new Scene();
        WhosaidDesk desk = scene.desk;
        scene.type("book");
        scene.say(Scene.ONE, Scene.TWO);
        Check.index("9 author -2", () -> desk.document(1800, 5, -2, -1, 0));
        Check.index("9 author 3", () -> desk.document(1800, 5, 3, -1, 0));
        Check.index("9 said -2", () -> desk.document(1800, 5, -1, -2, 0));
        Check.index("9 said 3", () -> desk.document(1800, 5, -1, 3, 0));
        Check.argument("9 year 999", () -> desk.document(999, 5, -1, -1, 0));
        Check.argument("9 year 2101", () -> desk.document(2101, 5, -1, -1, 0));
        Check.argument("9 trust -1", () -> desk.document(1800, -1, -1, -1, 0));
        Check.argument("9 trust 10", () -> desk.document(1800, 10, -1, -1, 0));
        Check.argument("9 hidden -1", () -> desk.document(1800, 5, -1, -1, -1));
        Check.argument("9 hidden 101", () -> desk.document(1800, 5, -1, -1, 101));
        Check.same("9 nothing was added", 0, desk.documents());
        Check.same("9 first", 0, desk.document(1000, 0, 2, 2, 100));
        Check.same("9 the buffer is empty then", 0, desk.wipe());
        Check.same("9 last year", 1, scene.document("talk", 2100, 9, 0, 0, 0, Scene.ONE));
        Check.same("9 the name is empty then", 1, desk.letter('b'));
    }

    private static void documentsRefuseInOrder() {
        Scene scene = new Scene();
        WhosaidDesk desk = scene.desk;
        Check.index("9 person ahead of year", () -> desk.document(999, 5, 3, -1, 0));
        Check.argument("9 no kind ahead of empty", () -> desk.document(1800, 5, -1, -1, 0));
        scene.type("book");
        Check.argument("9 year ahead of empty", () -> desk.document(999, 5, -1, -1, 0));
        Check.unsupported("9 empty", () -> desk.document(1800, 5, -1, -1, 0));
        desk.wipe();
        scene.type("denial");
        scene.say(Scene.ONE);
        Check.unsupported("9 a denial of nobody", () -> desk.document(1800, 5, Scene.ADA, -1, 0));
        Check.same("9 then one of somebody", 0, desk.document(1800, 5, -1, Scene.ADA, 0));
        for (int number = 1; number < 30; number++) {
            scene.book(1800, Scene.ONE);
        }
        desk.wipe();
        scene.type("book");
        Check.unsupported("9 empty ahead of full", () -> desk.document(1800, 5, -1, -1, 0));
    }

    private static void hiddenOnesAreFound() {
        Scene scene = new Scene();
        int open = scene.book(1800, Scene.ONE);
        int hidden = scene.document("book", 1790, 9, -1, -1, 1, Scene.ONE);
        int denial = scene.document("denial", 1790, 9, -1, Scene.ADA, 1, Scene.ONE);
        Check.same("12 hidden 0", true, scene.desk.isKnown(open));
        Check.same("12 hidden 1", false, scene.desk.isKnown(hidden));
        Check.same("10 found", 1, scene.search("book", 1700, 1900, 1, 0, Scene.ONE));
        Check.same("12 found", true, scene.desk.isKnown(hidden));
        Check.same("12 not yet found", false, scene.desk.isKnown(denial));
        Check.same("10 only hidden ones are found", 0, scene.search("book", 1700, 1900, 1, 0, Scene.ONE));
        Check.same("10 denials are found", 1, scene.search("denial", 1700, 1900, 1, 0, Scene.ONE));
        Check.same("12 denials are known", true, scene.desk.isKnown(denial));
        Check.same("43 but are no versions", 2, scene.desk.known());
        Check.index("12 -1", () -> scene.desk.isKnown(-1));
        Check.index("12 too far", () -> scene.desk.isKnown(3));
    }

    private static void searchesLookAtKindYearsAndDepth() {
        Scene scene = new Scene();
        scene.document("talk", 1800, 9, -1, -1, 100, Scene.ONE);
        Check.same("10 another kind", 0, scene.search("paper", 1000, 2100, 100, 9, Scene.ONE));
        Check.same("10 behind it", 0, scene.search("talk", 1801, 2100, 100, 9, Scene.ONE));
        Check.same("10 ahead of it", 0, scene.search("talk", 1000, 1799, 100, 9, Scene.ONE));
        Check.same("10 not deep enough", 0, scene.search("talk", 1000, 2100, 99, 9, Scene.ONE));
        Check.same("10 another word", 0, scene.search("talk", 1000, 2100, 100, 9, Scene.TWO));
        Check.same("10 just this year", 1, scene.search("talk", 1800, 1800, 100, 9, Scene.ONE));
        scene.document("talk", 1800, 9, -1, -1, 3, Scene.ONE);
        scene.document("talk", 1810, 9, -1, -1, 4, Scene.UN);
        scene.document("talk", 1820, 9, -1, -1, 5, Scene.ONE);
        Check.same("10 several", 2, scene.search("talk", 1000, 2100, 4, 0, Scene.EINS));
        Check.same("10 the deep one is left", false, scene.desk.isKnown(3));
    }

    private static void searchesFollowPhrasesWithGaps() {
        Check.same("10 gap 0, neighbours", 1, found(0, new int[] {0, 1}, 8, 0, 1, 8));
        Check.same("10 gap 0, one between", 0, found(0, new int[] {0, 1}, 0, 8, 1));
        Check.same("10 gap 1, one between", 1, found(1, new int[] {0, 1}, 0, 8, 1));
        Check.same("10 gap 1, two between", 0, found(1, new int[] {0, 1}, 0, 8, 8, 1));
        Check.same("10 order matters", 0, found(9, new int[] {1, 0}, 0, 1));
        Check.same("10 a later first word", 1, found(0, new int[] {0, 1}, 0, 8, 0, 1));
        Check.same("10 another second word", 1, found(1, new int[] {0, 1, 2}, 0, 1, 1, 8, 2));
        Check.same("10 a second word too far", 0, found(1, new int[] {0, 1, 2}, 0, 1, 1, 8, 8, 1, 2));
        Check.same("10 no choice goes", 0, found(2, new int[] {0, 1, 2}, 0, 8, 8, 1, 1, 8, 8, 2));
        Check.same("10 the first word ahead of another one", 1, found(0, new int[] {0, 1}, 0, 1, 8, 8, 0));
        Check.same("10 each needs a word of its own", 0, found(9, new int[] {0, 0}, 0, 1));
        Check.same("10 twice the same", 1, found(9, new int[] {0, 0}, 0, 1, 3));
        Check.same("10 longer than the text", 0, found(9, new int[] {0, 0, 0}, 0, 0));
        Check.same("10 gap 8 over ten", 1, found(8, new int[] {0, 1}, 0, 8, 8, 8, 8, 8, 8, 8, 8, 1));
        Check.same("10 gap 7 over ten", 0, found(7, new int[] {0, 1}, 0, 8, 8, 8, 8, 8, 8, 8, 8, 1));
        int[] ten = {0, 1, 2, 8, 0, 1, 2, 8, 0, 1};
        Check.same("10 the whole text", 1, found(0, ten, ten));
        Check.same("10 any tongue", 1, found(0, new int[] {3, 1}, 9, 4));
    }

    private static int found(int gap, int[] phrase, int... text) {
        Scene scene = new Scene();
        scene.document("notes", 1800, 9, -1, -1, 50, text);
        return scene.search("notes", 1800, 1800, 50, gap, phrase);
    }

    private static void searchesAreLogged() {
        Scene scene = new Scene();
        for (int many = 0; many < 20; many++) {
            Check.same("11 logged", many, scene.desk.searches());
            scene.search("talk", 1800, 1900, 1, 0, Scene.ONE);
        }
        Check.same("11 twenty", 20, scene.desk.searches());
        Check.same("10 the buffer stays", 1, scene.desk.wipe());
        scene.document("talk", 1850, 9, -1, -1, 1, Scene.ONE);
        scene.type("talk");
        scene.say(Scene.ONE);
        Check.state("10 full", () -> scene.desk.search(1800, 1900, 1, 0));
        Check.same("11 still twenty", 20, scene.desk.searches());
        Check.same("10 nothing was found", false, scene.desk.isKnown(0));
        Check.same("10 the name stays", 5, scene.desk.letter('s'));
    }

    private static void searchesRefuseInOrder() {
        Scene scene = new Scene();
        WhosaidDesk desk = scene.desk;
        scene.type("book");
        Check.unsupported("10 empty", () -> desk.search(1800, 1900, 1, 0));
        Check.argument("10 year 999 ahead of empty", () -> desk.search(999, 1900, 1, 0));
        scene.say(Scene.ONE);
        Check.argument("10 from 999", () -> desk.search(999, 1900, 1, 0));
        Check.argument("10 from 2101", () -> desk.search(2101, 2101, 1, 0));
        Check.argument("10 to 999", () -> desk.search(1000, 999, 1, 0));
        Check.argument("10 to 2101", () -> desk.search(1800, 2101, 1, 0));
        Check.argument("10 to ahead of from", () -> desk.search(1800, 1799, 1, 0));
        Check.argument("10 depth 0", () -> desk.search(1800, 1900, 0, 0));
        Check.argument("10 depth 101", () -> desk.search(1800, 1900, 101, 0));
        Check.argument("10 gap -1", () -> desk.search(1800, 1900, 1, -1));
        Check.argument("10 gap 10", () -> desk.search(1800, 1900, 1, 10));
        Check.same("11 none logged", 0, desk.searches());
        Check.same("10 nothing there", 0, desk.search(1000, 2100, 100, 9));
        Check.same("10 the name is empty then", 1, desk.letter('b'));
        Check.same("10 the buffer stays", 2, desk.say(Scene.ONE));
        desk.wipe();
        Check.argument("10 no name ahead of empty", () -> desk.search(1800, 1900, 1, 0));
        for (int many = 1; many < 20; many++) {
            scene.search("talk", 1800, 1900, 1, 0, Scene.ONE);
        }
        desk.wipe();
        scene.type("talk");
        Check.unsupported("10 empty ahead of full", () -> desk.search(1800, 1900, 1, 0));
    }

    private static void versionsMove() {
        Scene scene = new Scene();
        WhosaidDesk desk = scene.desk;
        scene.book(1800, Scene.ONE, Scene.TWO);
        Check.same("13 a new one does not move", 0, desk.moved());
        scene.book(1810, Scene.ONE, Scene.TWO);
        scene.book(1820, Scene.ONE, Scene.TWO);
        scene.book(1790, Scene.ONE, Scene.TWO);
        Check.same("13 all three have another root", 3, desk.moved());
        scene.say(Scene.ONE);
        Check.argument("13 refused", () -> desk.document(1700, 1, -1, -1, 0));
        Check.same("13 a refused call changes nothing", 3, desk.moved());
        scene.document("book", 1780, 9, -1, -1, 10, Scene.ONE, Scene.TWO);
        Check.same("13 a hidden one moves none", 0, desk.moved());
        scene.search("book", 1700, 1800, 10, 0, Scene.ONE);
        Check.same("13 a find moves beginnings", 4, desk.moved());
        scene.search("book", 1700, 1800, 10, 0, Scene.ONE);
        Check.same("13 a search without finds", 0, desk.moved());
        desk.word(5, 0, 1000);
        Check.same("13 the same root", 4, desk.rootOf(0));
    }

    private static void fameMovesVersions() {
        Scene scene = new Scene();
        WhosaidDesk desk = scene.desk;
        int first = scene.book(1800, Scene.ONE, Scene.TWO, Scene.THREE, Scene.FOUR);
        int second = scene.naming(Scene.BEN, 1820, Scene.ONE, Scene.TWO, Scene.FOUR, Scene.FOUR);
        Check.same("13 an origin as yet", second, desk.rootOf(second));
        desk.setFame(Scene.BEN, 20, 0, 1820);
        Check.same("13 fame moves", 1, desk.moved());
        Check.same("7 all is found anew", first, desk.rootOf(second));
        desk.setFame(Scene.BEN, 20, 0, 1820);
        Check.same("13 fame told again", 0, desk.moved());
        desk.setFame(Scene.BEN, 20, 0, 1821);
        Check.same("13 fame that comes too late", 1, desk.moved());
        Check.same("13 an origin again", second, desk.rootOf(second));
    }

    private static void distancesAreLeastSums() {
        Scene scene = new Scene();
        WhosaidDesk desk = scene.desk;
        int abc = scene.book(1800, Scene.ONE, Scene.TWO, Scene.THREE);
        int same = scene.book(1800, Scene.ONE, Scene.TWO, Scene.THREE);
        int synonym = scene.book(1800, Scene.SINGLE, Scene.TWO, Scene.THREE);
        int french = scene.book(1800, Scene.UN, Scene.DEUX, Scene.TROIS);
        int shorter = scene.book(1800, Scene.ONE, Scene.THREE);
        int strange = scene.book(1800, Scene.ONE, Scene.FOUR, Scene.THREE);
        int hidden = scene.document("letter", 1800, 5, -1, -1, 9, Scene.FOUR);
        int denial = scene.denial(Scene.ADA, 1800, Scene.TWO, Scene.ONE, Scene.THREE);
        Check.same("14 itself", 0, desk.distance(abc, abc));
        Check.same("14 the same text", 0, desk.distance(abc, same));
        Check.same("14 a synonym", 1, desk.distance(abc, synonym));
        Check.same("14 other tongue", 3, desk.distance(abc, french));
        Check.same("14 synonym and tongue", 3, desk.distance(synonym, french));
        Check.same("14 left out", 1, desk.distance(abc, shorter));
        Check.same("14 put in", 2, desk.distance(shorter, abc));
        Check.same("14 another concept", 3, desk.distance(abc, strange));
        Check.same("14 a hidden one", 5, desk.distance(abc, hidden));
        Check.same("14 from a hidden one", 7, desk.distance(hidden, abc));
        Check.same("14 turned", 3, desk.distance(denial, abc));
        Check.same("14 turned back", 3, desk.distance(abc, denial));
    }

    private static void stepsPreferPairsThenLeavingOut() {
        Scene scene = new Scene();
        int abc = scene.book(1800, Scene.ONE, Scene.TWO, Scene.THREE);
        int mixed = scene.book(1800, Scene.SINGLE, Scene.DEUX, Scene.THREE);
        int strange = scene.book(1800, Scene.ONE, Scene.FOUR, Scene.THREE);
        int turned = scene.book(1800, Scene.TWO, Scene.ONE, Scene.THREE);
        int longer = scene.book(1800, Scene.ONE, Scene.ONE, Scene.TWO, Scene.THREE);
        int single = scene.document("talk", 1800, 5, -1, -1, 9, Scene.FOUR);
        Check.same("16 stays", "===", scene.path(abc, abc));
        Check.same("16 synonym and tongue", "st=", scene.path(abc, mixed));
        Check.same("16 a pair ahead of out and in", "=w=", scene.path(abc, strange));
        Check.same("16 from the ends on", "i=d=", scene.path(turned, abc));
        Check.same("16 the last of twins is paired", "i===", scene.path(abc, longer));
        Check.same("16 the first of twins is left out", "d===", scene.path(longer, abc));
        Check.same("16 out, then a pair", "ddw", scene.path(abc, single));
        Check.same("16 in, then a pair", "iiw", scene.path(single, abc));
        Check.same("15 many", 4, scene.desk.steps(turned, abc));
        Check.same("15 fewer", 3, scene.desk.steps(abc, single));
    }

    private static void differencesAreRefused() {
        Scene scene = new Scene();
        WhosaidDesk desk = scene.desk;
        int one = scene.book(1800, Scene.ONE);
        Check.index("14 -1", () -> desk.distance(-1, one));
        Check.index("14 too far", () -> desk.distance(1, one));
        Check.index("14 other -1", () -> desk.distance(one, -1));
        Check.index("14 other too far", () -> desk.distance(one, 1));
        Check.index("15 -1", () -> desk.steps(-1, one));
        Check.index("15 too far", () -> desk.steps(1, one));
        Check.index("15 other -1", () -> desk.steps(one, -1));
        Check.index("15 other too far", () -> desk.steps(one, 1));
        Check.index("16 -1", () -> desk.stepAt(-1, one, 0));
        Check.index("16 too far", () -> desk.stepAt(1, one, 0));
        Check.index("16 other -1", () -> desk.stepAt(one, -1, 0));
        Check.index("16 other too far", () -> desk.stepAt(one, 1, 0));
        Check.index("16 step -1", () -> desk.stepAt(one, one, -1));
        Check.index("16 step too far", () -> desk.stepAt(one, one, 1));
        Check.same("16 step", '=', desk.stepAt(one, one, 0));
    }
}
