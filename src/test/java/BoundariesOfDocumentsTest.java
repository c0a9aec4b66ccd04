import java.util.Arrays;

/** The boundary cases of "Documents", "Differences" and "Searches" and of promises 9 to 16, by sentences. */
final class BoundariesOfDocumentsTest {
    private static final String[] KINDS = {"book", "paper", "letter", "talk", "notes", "denial"};

    private BoundariesOfDocumentsTest() {
    }

    public static void main(String[] args) {
        documentsHaveAuthorsThatAreThere();
        documentsNamePeopleWhoAreThere();
        trustIsInRange();
        hidingIsInRange();
        namesAreKinds();
        aKindIsTheWholeName();
        textsAreNotEmpty();
        textsHaveTenWordsAtMost();
        denialsNameSomebody();
        thereAreThirtyDocuments();
        bothAreEmptyBehindADocument();
        yearsOfASearchAreInOrder();
        depthIsInRange();
        gapIsInRange();
        searchesNeedWords();
        twentySearchesAreLogged();
        onlyTheNameIsEmptyBehindASearch();
        yearsOfASearchAreMet();
        depthsOfASearchAreMet();
        gapsOfASearchAreMet();
        wordsStandOneBehindTheOther();
        conceptsAreMet();
        onlyHiddenOnesAreFound();
        askedDocumentsAreThere();
        zeroIsKnown();
        noneMovedAtFirst();
        newOnesDoNotMove();
        allThatAreKnownMove();
        movesAreThoseOfTheLastCall();
        pairsCostByTheirWords();
        distancesOfTheShortestAndTheLongest();
        stepsAreOneToNineteen();
        stepsAreInRange();
        pairsGoAheadOfLeavingOut();
        Check.end();
    }

    /** "the number of the author, or -1"; "if there is no such person, for either" */
    private static void documentsHaveAuthorsThatAreThere() {
        WhosaidDesk desk = ready("book").desk;
        Check.index("9 author -2", () -> desk.document(1800, 5, -2, -1, 0));
        Check.index("9 author behind the last one", () -> desk.document(1800, 5, 3, -1, 0));
        for (int far : Check.FAR) {
            Check.index("9 author " + far, () -> desk.document(1800, 5, far, -1, 0));
        }
        Check.same("9 no author", 0, ready("book").desk.document(1800, 5, -1, -1, 0));
        Check.same("9 first author", 0, ready("book").desk.document(1800, 5, 0, -1, 0));
        Check.same("9 last author", 0, ready("book").desk.document(1800, 5, 2, -1, 0));
    }

    /** "the number of the person who is named, or -1"; "if there is no such person, for either" */
    private static void documentsNamePeopleWhoAreThere() {
        WhosaidDesk desk = ready("book").desk;
        Check.index("9 said -2", () -> desk.document(1800, 5, -1, -2, 0));
        Check.index("9 said behind the last one", () -> desk.document(1800, 5, -1, 3, 0));
        for (int far : Check.FAR) {
            Check.index("9 said " + far, () -> desk.document(1800, 5, -1, far, 0));
        }
        Check.same("9 nobody is named", 0, ready("book").desk.document(1800, 5, -1, -1, 0));
        Check.same("9 the first one is named", 0, ready("book").desk.document(1800, 5, -1, 0, 0));
        Check.same("9 the last one is named", 0, ready("book").desk.document(1800, 5, -1, 2, 0));
    }

    private static Scene ready(String kind) {
        Scene scene = new Scene();
        scene.type(kind);
        scene.say(Scene.ONE);
        return scene;
    }

    /** "the trust, 0 to 9" */
    private static void trustIsInRange() {
        WhosaidDesk desk = ready("book").desk;
        Check.argument("9 trust -1", () -> desk.document(1800, -1, -1, -1, 0));
        Check.argument("9 trust 10", () -> desk.document(1800, 10, -1, -1, 0));
        for (int far : Check.FAR) {
            Check.argument("9 trust " + far, () -> desk.document(1800, far, -1, -1, 0));
        }
        Check.same("9 trust 0", 0, ready("book").desk.document(1800, 0, -1, -1, 0));
        Check.same("9 trust 9", 0, ready("book").desk.document(1800, 9, -1, -1, 0));
    }

    /** "how hidden it is, 0 to 100" */
    private static void hidingIsInRange() {
        WhosaidDesk desk = ready("book").desk;
        Check.argument("9 hidden -1", () -> desk.document(1800, 5, -1, -1, -1));
        Check.argument("9 hidden 101", () -> desk.document(1800, 5, -1, -1, 101));
        for (int far : Check.FAR) {
            Check.argument("9 hidden " + far, () -> desk.document(1800, 5, -1, -1, far));
        }
        Check.same("9 hidden 0", 0, ready("book").desk.document(1800, 5, -1, -1, 0));
        Check.same("9 hidden 100", 0, ready("book").desk.document(1800, 5, -1, -1, 100));
    }

    /** ""book", "paper", "letter", "talk" and "notes" are kinds of documents, and so is "denial"." */
    private static void namesAreKinds() {
        for (String kind : KINDS) {
            Check.same("9 a " + kind, 0, ready(kind).desk.document(1800, 5, -1, Scene.ADA, 0));
            Check.same("10 a " + kind, 0, ready(kind).desk.search(1800, 1900, 1, 0));
        }
        for (String other : new String[] {"", "a", "bookx", "text", "quote", "denialdeni", "zzzzzzzzzz"}) {
            refuseKind(other);
        }
    }

    private static void refuseKind(String name) {
        Scene scene = ready(name);
        Check.argument("9 no kind: " + name, () -> scene.desk.document(1800, 5, -1, Scene.ADA, 0));
        Check.argument("10 no kind: " + name, () -> scene.desk.search(1800, 1900, 1, 0));
        Check.same("9 the name stays: " + name, Math.min(10, name.length()), typedSoFar(scene.desk));
    }

    private static int typedSoFar(WhosaidDesk desk) {
        int left = 0;
        while (left < 10 && !"IllegalStateException".equals(Check.answerOf(() -> desk.letter('a')))) {
            left++;
        }
        return 10 - left;
    }

    /** "the name is no kind": a letter less, a letter more, and another first, middle or last letter. */
    private static void aKindIsTheWholeName() {
        for (String kind : KINDS) {
            refuseKind(kind.substring(1));
            refuseKind(kind.substring(0, kind.length() - 1));
            refuseKind(kind + "s");
            refuseKind("a" + kind);
            for (int place = 0; place < kind.length(); place++) {
                refuseKind(kind.substring(0, place) + "q" + kind.substring(place + 1));
            }
        }
    }

    /** "Throws UnsupportedOperationException if the buffer is empty" */
    private static void textsAreNotEmpty() {
        Scene scene = new Scene();
        scene.type("book");
        Check.unsupported("9 no words", () -> scene.desk.document(1800, 5, -1, -1, 0));
        Check.same("9 nothing was added", 0, scene.desk.documents());
        scene.say(Scene.ONE);
        Check.same("9 one word", 0, scene.desk.document(1800, 5, -1, -1, 0));
    }

    /** "Words are said into a buffer, at most 10." */
    private static void textsHaveTenWordsAtMost() {
        Scene scene = new Scene();
        scene.book(1800, 0, 1, 2, 3, 4, 5, 6, 7, 8, 9);
        scene.book(1800, 0, 1, 2, 3, 4, 5, 6, 7, 8);
        scene.book(1800, 9);
        Check.same("14 the tenth word left out", 1, scene.desk.distance(0, 1));
        Check.same("14 the tenth word alone", 9, scene.desk.distance(0, 2));
        Check.same("16 the tenth word stays", '=', scene.desk.stepAt(0, 2, 9));
    }

    /** "or a denial names nobody" */
    private static void denialsNameSomebody() {
        WhosaidDesk desk = ready("denial").desk;
        Check.unsupported("9 nobody", () -> desk.document(1800, 5, -1, -1, 0));
        Check.unsupported("9 nobody, with an author", () -> desk.document(1800, 5, Scene.ADA, -1, 0));
        Check.unsupported("9 nobody, hidden", () -> desk.document(1800, 5, -1, -1, 100));
        Check.same("9 nothing was added", 0, desk.documents());
        Check.same("9 somebody", 0, desk.document(1800, 5, -1, Scene.ADA, 0));
    }

    /** "At most 30 documents are numbered from 0"; "Throws IllegalStateException if there are 30". */
    private static void thereAreThirtyDocuments() {
        Scene scene = new Scene();
        for (int number = 0; number < 29; number++) {
            Check.same("9 from 0 on", number, scene.document("talk", 2100, 0, -1, -1, number % 2, Scene.ONE));
        }
        Check.index("12 the thirtieth is not there", () -> scene.desk.isKnown(29));
        Check.same("9 the thirtieth", 29, scene.book(1000, Scene.ONE));
        scene.type("book");
        scene.say(Scene.ONE);
        Check.state("9 a thirty-first", () -> scene.desk.document(1800, 5, -1, -1, 0));
        Check.state("9 a hidden one too", () -> scene.desk.document(1800, 5, -1, -1, 100));
        Check.same("12 the thirtieth is there", true, scene.desk.isKnown(29));
        Check.index("12 the thirty-first is not", () -> scene.desk.isKnown(30));
        Check.same("42 thirty", 30, scene.desk.documents());
    }

    /** "with the text of the buffer; both are empty then" */
    private static void bothAreEmptyBehindADocument() {
        for (int hidden : new int[] {0, 100}) {
            Scene scene = new Scene();
            scene.document("notes", 1800, 5, -1, -1, hidden, 0, 1, 2);
            scene.type("book");
            Check.unsupported("9 the buffer is empty", () -> scene.desk.document(1800, 5, -1, -1, 0));
            Check.same("9 the name was empty", 5, scene.desk.letter('s'));
            Check.same("9 no words", 0, scene.desk.wipe());
        }
    }

    /** "the last year, not ahead of it" */
    private static void yearsOfASearchAreInOrder() {
        Check.argument("10 a year ahead", () -> ready("book").desk.search(1800, 1799, 1, 0));
        Check.argument("10 the first year", () -> ready("book").desk.search(1001, 1000, 1, 0));
        Check.argument("10 the last year", () -> ready("book").desk.search(2100, 2099, 1, 0));
        Check.same("10 one year", 0, ready("book").desk.search(1800, 1800, 1, 0));
        Check.same("10 the first one", 0, ready("book").desk.search(1000, 1000, 1, 0));
        Check.same("10 the last one", 0, ready("book").desk.search(2100, 2100, 1, 0));
        Check.same("10 all", 0, ready("book").desk.search(1000, 2100, 1, 0));
    }

    /** "the depth, 1 to 100" */
    private static void depthIsInRange() {
        WhosaidDesk desk = ready("book").desk;
        Check.argument("10 depth 0", () -> desk.search(1800, 1900, 0, 0));
        Check.argument("10 depth -1", () -> desk.search(1800, 1900, -1, 0));
        Check.argument("10 depth 101", () -> desk.search(1800, 1900, 101, 0));
        for (int far : Check.FAR) {
            Check.argument("10 depth " + far, () -> desk.search(1800, 1900, far, 0));
        }
        Check.same("10 depth 1", 0, ready("book").desk.search(1800, 1900, 1, 0));
        Check.same("10 depth 100", 0, ready("book").desk.search(1800, 1900, 100, 0));
    }

    /** "the gap, 0 to 9" */
    private static void gapIsInRange() {
        WhosaidDesk desk = ready("book").desk;
        Check.argument("10 gap -1", () -> desk.search(1800, 1900, 1, -1));
        Check.argument("10 gap 10", () -> desk.search(1800, 1900, 1, 10));
        for (int far : Check.FAR) {
            Check.argument("10 gap " + far, () -> desk.search(1800, 1900, 1, far));
        }
        Check.same("10 gap 0", 0, ready("book").desk.search(1800, 1900, 1, 0));
        Check.same("10 gap 9", 0, ready("book").desk.search(1800, 1900, 1, 9));
    }

    /** "Throws UnsupportedOperationException if the buffer is empty" */
    private static void searchesNeedWords() {
        Scene scene = new Scene();
        scene.type("book");
        Check.unsupported("10 no words", () -> scene.desk.search(1800, 1900, 1, 0));
        Check.same("11 none was logged", 0, scene.desk.searches());
        scene.say(Scene.ONE);
        Check.same("10 one word", 0, scene.desk.search(1800, 1900, 1, 0));
        Check.same("11 one was logged", 1, scene.desk.searches());
    }

    /** "Found or not, it is logged, at most 20."; "Throws IllegalStateException if 20 were logged". */
    private static void twentySearchesAreLogged() {
        Scene scene = new Scene();
        scene.document("book", 1800, 5, -1, -1, 1, Scene.ONE);
        scene.say(Scene.ONE);
        for (int many = 0; many < 20; many++) {
            Check.same("11 so far", many, scene.desk.searches());
            scene.type("book");
            Check.same("10 found by the first one", many == 0 ? 1 : 0, scene.desk.search(1800, 1800, 1, 0));
        }
        scene.type("book");
        Check.state("10 a twenty-first", () -> scene.desk.search(1800, 1800, 1, 0));
        Check.same("11 twenty", 20, scene.desk.searches());
    }

    /** "the name is empty then, the buffer stays" */
    private static void onlyTheNameIsEmptyBehindASearch() {
        Scene scene = ready("notes");
        scene.say(Scene.TWO);
        scene.desk.search(1000, 2100, 100, 9);
        Check.argument("10 no name", () -> scene.desk.search(1000, 2100, 100, 9));
        Check.same("10 the first letter", 1, scene.desk.letter('t'));
        scene.type("alk");
        Check.same("9 the words are there still", 0, scene.desk.document(1800, 5, -1, -1, 0));
        scene.book(1800, Scene.ONE, Scene.TWO);
        Check.same("14 the same words", 0, scene.desk.distance(0, 1));
    }

    /** "finds all hidden documents of this kind and these years" */
    private static void yearsOfASearchAreMet() {
        Check.same("10 up to a year ahead", 0, foundBy(1000, 1799, 50));
        Check.same("10 up to its year", 1, foundBy(1000, 1800, 50));
        Check.same("10 from its year on", 1, foundBy(1800, 2100, 50));
        Check.same("10 from a year behind on", 0, foundBy(1801, 2100, 50));
        Check.same("10 its year alone", 1, foundBy(1800, 1800, 50));
        for (String kind : KINDS) {
            for (String other : KINDS) {
                Scene scene = new Scene();
                scene.document(kind, 1800, 5, -1, Scene.ADA, 50, Scene.ONE);
                int due = kind.equals(other) ? 1 : 0;
                Check.same("10 a " + other + " for a " + kind, due, scene.search(other, 1000, 2100, 100, 9, Scene.ONE));
            }
        }
    }

    private static int foundBy(int from, int to, int depth) {
        Scene scene = new Scene();
        scene.document("paper", 1800, 5, -1, -1, 50, Scene.ONE);
        return scene.search("paper", from, to, depth, 0, Scene.ONE);
    }

    /** "that are hidden by at most the depth" */
    private static void depthsOfASearchAreMet() {
        Check.same("10 less than the depth", 1, foundBy(1800, 1800, 51));
        Check.same("10 just the depth", 1, foundBy(1800, 1800, 50));
        Check.same("10 more than the depth", 0, foundBy(1800, 1800, 49));
        Scene scene = new Scene();
        scene.document("paper", 1800, 5, -1, -1, 1, Scene.ONE);
        scene.document("paper", 1800, 5, -1, -1, 100, Scene.ONE);
        Check.same("10 the least depth", 1, scene.search("paper", 1800, 1800, 1, 0, Scene.ONE));
        Check.same("10 nearly the most", 0, scene.search("paper", 1800, 1800, 99, 0, Scene.ONE));
        Check.same("10 the most", 1, scene.search("paper", 1800, 1800, 100, 0, Scene.ONE));
    }

    /** "with at most so many other words between each and the next as the gap tells" */
    private static void gapsOfASearchAreMet() {
        for (int between = 0; between <= 8; between++) {
            int[] text = new int[between + 2];
            Arrays.fill(text, Scene.FOUR);
            text[0] = Scene.ONE;
            text[between + 1] = Scene.TWO;
            for (int gap = 0; gap <= 9; gap++) {
                String what = "10 gap " + gap + ", " + between + " between";
                Check.same(what, gap >= between ? 1 : 0, found(gap, new int[] {Scene.ONE, Scene.TWO}, text));
            }
        }
        Check.same("10 each gap for itself", 1, found(1, new int[] {0, 1, 2}, 0, 8, 1, 8, 2));
        Check.same("10 the second gap too wide", 0, found(1, new int[] {0, 1, 2}, 0, 8, 1, 8, 8, 2));
        Check.same("10 the first gap too wide", 0, found(1, new int[] {0, 1, 2}, 0, 8, 8, 1, 8, 2));
    }

    private static int found(int gap, int[] phrase, int... text) {
        Scene scene = new Scene();
        scene.document("notes", 1800, 9, -1, -1, 50, text);
        return scene.search("notes", 1800, 1800, 50, gap, phrase);
    }

    /** "stand one behind the other, wherever, ... by any choice of them" */
    private static void wordsStandOneBehindTheOther() {
        int[] ten = {0, 1, 2, 8, 1, 0, 2, 8, 1, 1};
        Check.same("10 ten of ten", 1, found(0, ten, ten));
        Check.same("10 ten of nine", 0, found(9, ten, 0, 1, 2, 8, 1, 0, 2, 8, 1));
        Check.same("10 the last of ten", 1, found(0, new int[] {0}, 8, 8, 8, 8, 8, 8, 8, 8, 8, 0));
        Check.same("10 the first of ten", 1, found(0, new int[] {0}, 0, 8, 8, 8, 8, 8, 8, 8, 8, 8));
        Check.same("10 the other order", 0, found(9, new int[] {0, 1}, 1, 0));
        Check.same("10 one word is not two", 0, found(9, new int[] {0, 0}, 0));
        Check.same("10 two are", 1, found(0, new int[] {0, 0}, 0, 0));
        Check.same("10 the later first word", 1, found(0, new int[] {0, 1}, 0, 8, 0, 1));
        Check.same("10 the earlier second word", 1, found(0, new int[] {0, 1, 2}, 0, 1, 2, 8, 1));
        Check.same("10 the later second word", 1, found(1, new int[] {0, 1, 2}, 0, 1, 1, 8, 2));
        Check.same("10 no choice of the second word", 0, found(1, new int[] {0, 1, 2}, 0, 8, 1, 8, 8, 1, 2));
    }

    /** "words of the concepts of the buffer's words" */
    private static void conceptsAreMet() {
        Scene scene = new Scene();
        int last = scene.desk.word(30, 3, 1000);
        int same = scene.desk.word(30, 0, 2100);
        int none = scene.desk.word(29, 3, 1000);
        scene.document("book", 1800, 5, -1, -1, 1, last);
        scene.document("book", 1800, 5, -1, -1, 1, Scene.ONE);
        Check.same("10 the concept ahead", 0, scene.search("book", 1800, 1800, 1, 9, none));
        Check.same("10 the last concept, in any tongue and year", 1, scene.search("book", 1800, 1800, 1, 9, same));
        Check.same("10 the first concept, in any tongue", 1, scene.search("book", 1800, 1800, 1, 9, Scene.EINS));
    }

    /** "finds all hidden documents": none that are known, and none twice; "Returns how many are found." */
    private static void onlyHiddenOnesAreFound() {
        Scene scene = new Scene();
        Check.same("10 none on an empty desk", 0, scene.search("book", 1000, 2100, 100, 9, Scene.ONE));
        scene.book(1800, Scene.ONE);
        Check.same("10 none that are known", 0, scene.search("book", 1000, 2100, 100, 9, Scene.ONE));
        for (int many = 1; many < 30; many++) {
            scene.document("book", 1800, 5, -1, -1, 100, Scene.ONE);
        }
        Check.same("10 all but the known one", 29, scene.search("book", 1000, 2100, 100, 9, Scene.ONE));
        Check.same("10 none twice", 0, scene.search("book", 1000, 2100, 100, 9, Scene.ONE));
        Check.same("43 all are known", 30, scene.desk.known());
    }

    /** "Throws IndexOutOfBoundsException if there is no such document, for either" */
    private static void askedDocumentsAreThere() {
        absentDocuments("12 isKnown", (desk, document) -> desk.isKnown(document));
        absentDocuments("14 distance", (desk, document) -> desk.distance(document, 0));
        absentDocuments("14 distance, other", (desk, document) -> desk.distance(0, document));
        absentDocuments("15 steps", (desk, document) -> desk.steps(document, 0));
        absentDocuments("15 steps, other", (desk, document) -> desk.steps(0, document));
        absentDocuments("16 stepAt", (desk, document) -> desk.stepAt(document, 0, 0));
        absentDocuments("16 stepAt, other", (desk, document) -> desk.stepAt(0, document, 0));
    }

    private static void absentDocuments(String what, Check.Asked call) {
        Scene scene = new Scene();
        Check.index(what + " of none", () -> call.answer(scene.desk, 0));
        scene.book(1800, Scene.ONE);
        scene.document("book", 1800, 5, -1, -1, 100, Scene.ONE);
        scene.denial(Scene.ADA, 1800, Scene.ONE);
        for (int there = 0; there < 3; there++) {
            int it = there;
            Check.goes(what + " of " + it, () -> call.answer(scene.desk, it));
        }
        Check.index(what + " of -1", () -> call.answer(scene.desk, -1));
        Check.index(what + " behind the last one", () -> call.answer(scene.desk, 3));
        for (int far : Check.FAR) {
            Check.index(what + " of " + far, () -> call.answer(scene.desk, far));
        }
    }

    /** "0 is known, others are known once they were found" */
    private static void zeroIsKnown() {
        Scene scene = new Scene();
        scene.document("book", 1800, 5, -1, -1, 0, Scene.ONE);
        scene.document("book", 1800, 5, -1, -1, 1, Scene.ONE);
        scene.document("book", 1800, 5, -1, -1, 100, Scene.ONE);
        Check.same("12 hidden 0", true, scene.desk.isKnown(0));
        Check.same("12 hidden 1", false, scene.desk.isKnown(1));
        Check.same("12 hidden 100", false, scene.desk.isKnown(2));
        scene.search("book", 1800, 1800, 1, 0, Scene.ONE);
        Check.same("12 found by depth 1", true, scene.desk.isKnown(1));
        Check.same("12 not by depth 1", false, scene.desk.isKnown(2));
        scene.search("book", 1800, 1800, 100, 0, Scene.ONE);
        Check.same("12 found by depth 100", true, scene.desk.isKnown(2));
    }

    /** "Returns how many versions moved by the last document, search or fame.": none ahead of the first one. */
    private static void noneMovedAtFirst() {
        Scene scene = new Scene();
        Check.same("13 nothing so far", 0, scene.desk.moved());
        scene.desk.setFame(Scene.ADA, 5, 5, 1800);
        Check.same("13 no versions", 0, scene.desk.moved());
        scene.search("book", 1000, 2100, 100, 9, Scene.ONE);
        Check.same("13 still none", 0, scene.desk.moved());
    }

    /** "the versions have moved that were known ahead of it" */
    private static void newOnesDoNotMove() {
        Scene scene = new Scene();
        scene.book(1800, Scene.ONE);
        Check.same("13 a new origin", 0, scene.desk.moved());
        scene.book(1801, Scene.ONE);
        Check.same("13 a new copy", 0, scene.desk.moved());
        scene.document("book", 1802, 5, -1, -1, 5, Scene.ONE);
        scene.document("book", 1799, 5, -1, -1, 5, Scene.TWO);
        scene.search("book", 1802, 1802, 5, 0, Scene.ONE);
        Check.same("13 a copy that is found", 0, scene.desk.moved());
        scene.denial(Scene.ADA, 1700, Scene.ONE);
        Check.same("13 a denial without effect", 0, scene.desk.moved());
        Check.same("13 all three have one root", 3, scene.desk.versions(0));
    }

    /** "and have another root now": another source alone does not count. */
    private static void allThatAreKnownMove() {
        Scene scene = new Scene();
        for (int many = 0; many < 28; many++) {
            scene.book(1829 - many, Scene.ONE);
            Check.same("13 all that were known", many, scene.desk.moved());
        }
        scene.document("book", 1801, 9, -1, -1, 1, Scene.ONE);
        Check.same("13 a hidden one moves none", 0, scene.desk.moved());
        scene.search("book", 1801, 1801, 1, 0, Scene.ONE);
        Check.same("13 a find moves all", 28, scene.desk.moved());
        scene.book(1802, Scene.ONE);
        Check.same("13 one behind it moves none", 0, scene.desk.moved());
        Scene sources = new Scene();
        sources.book(1800, 0, 1, 2, 8);
        sources.book(1820, 0, 1, 8, 8);
        Check.same("17 from the first one", 0, sources.desk.source(1));
        sources.book(1810, 0, 1, 8, 8);
        Check.same("17 from another one", 2, sources.desk.source(1));
        Check.same("13 with the same root", 0, sources.desk.moved());
    }

    /** "by the last document, search or fame": no other call, and none that was refused. */
    private static void movesAreThoseOfTheLastCall() {
        Scene scene = new Scene();
        WhosaidDesk desk = scene.desk;
        scene.book(1800, Scene.ONE);
        scene.book(1799, Scene.ONE);
        Check.same("13 one", 1, desk.moved());
        scene.type("book");
        Check.unsupported("9 refused", () -> desk.document(1700, 9, -1, -1, 0));
        Check.unsupported("10 refused", () -> desk.search(1700, 1800, 9, 0));
        Check.argument("7 refused", () -> desk.setFame(0, 21, 0, 1800));
        desk.word(0, 0, 1000);
        desk.person(1700, 1800);
        desk.collection(1900);
        desk.enter(0, 0);
        desk.quote(0, 0, 0);
        desk.push();
        desk.wipe();
        Check.same("13 still one", 1, desk.moved());
        desk.setFame(0, 5, 0, 1800);
        Check.same("13 none by fame", 0, desk.moved());
    }

    /** "for 1 each, or another word of another concept 'w' for 3; a word is left out 'd' for 1, or put in 'i' for 2" */
    private static void pairsCostByTheirWords() {
        Scene scene = new Scene();
        scene.book(1800, Scene.ONE);
        scene.book(1800, Scene.SINGLE);
        scene.book(1800, Scene.UN);
        scene.book(1800, Scene.TWO);
        scene.book(1800, Scene.ONE, Scene.TWO);
        Check.same("14 stays", 0, scene.desk.distance(0, 0));
        Check.same("16 stays", "=", scene.path(0, 0));
        Check.same("14 the same tongue", 1, scene.desk.distance(0, 1));
        Check.same("16 the same tongue", "s", scene.path(0, 1));
        Check.same("14 another tongue", 1, scene.desk.distance(0, 2));
        Check.same("16 another tongue", "t", scene.path(0, 2));
        Check.same("14 another concept", 3, scene.desk.distance(0, 3));
        Check.same("16 another concept", "w", scene.path(0, 3));
        Check.same("14 put in", 2, scene.desk.distance(0, 4));
        Check.same("16 put in", "=i", scene.path(0, 4));
        Check.same("14 left out", 1, scene.desk.distance(4, 0));
        Check.same("16 left out", "=d", scene.path(4, 0));
    }

    /** "The distance of one to the other is the least sum.": texts of one word and of ten. */
    private static void distancesOfTheShortestAndTheLongest() {
        Scene scene = new Scene();
        scene.book(1800, 0);
        scene.book(1800, 0, 0, 0, 0, 0, 0, 0, 0, 0, 0);
        scene.book(1800, 8, 8, 8, 8, 8, 8, 8, 8, 8, 8);
        scene.book(1800, 3, 3, 3, 3, 3, 3, 3, 3, 3, 3);
        scene.book(1800, 8);
        Check.same("14 one and one", 3, scene.desk.distance(0, 4));
        Check.same("14 one to ten", 18, scene.desk.distance(0, 1));
        Check.same("14 ten to one", 9, scene.desk.distance(1, 0));
        Check.same("14 one to ten others", 21, scene.desk.distance(0, 2));
        Check.same("14 ten to another one", 12, scene.desk.distance(2, 0));
        Check.same("14 ten and ten", 0, scene.desk.distance(1, 1));
        Check.same("14 ten to ten in another tongue", 10, scene.desk.distance(1, 3));
        Check.same("14 ten to ten others", 30, scene.desk.distance(1, 2));
        Check.same("15 ten pairs", 10, scene.desk.steps(1, 2));
    }

    /** "Returns how many steps lead from the one text to the other one.": no more than these can be. */
    private static void stepsAreOneToNineteen() {
        Scene scene = new Scene();
        scene.book(1800, 0, 1, 1, 1, 1, 1, 1, 1, 1, 1);
        scene.book(1800, 8, 8, 8, 8, 8, 8, 8, 8, 8, 0);
        scene.book(1800, 0);
        Check.same("15 one", 1, scene.desk.steps(2, 2));
        Check.same("14 nine put in, nine left out", 27, scene.desk.distance(0, 1));
        Check.same("15 nineteen", 19, scene.desk.steps(0, 1));
        Check.same("16 nineteen", "iiiiiiiii=ddddddddd", scene.path(0, 1));
        Check.same("15 ten", 10, scene.desk.steps(0, 0));
    }

    /** "Throws IndexOutOfBoundsException if there is no such document, for either, or step" */
    private static void stepsAreInRange() {
        Scene scene = new Scene();
        scene.book(1800, 0, 1, 1, 1, 1, 1, 1, 1, 1, 1);
        scene.book(1800, 8, 8, 8, 8, 8, 8, 8, 8, 8, 0);
        Check.same("16 the first step", 'i', scene.desk.stepAt(0, 1, 0));
        Check.same("16 the last step", 'd', scene.desk.stepAt(0, 1, 18));
        Check.index("16 behind the last step", () -> scene.desk.stepAt(0, 1, 19));
        Check.index("16 step -1", () -> scene.desk.stepAt(0, 1, -1));
        for (int far : Check.FAR) {
            Check.index("16 step " + far, () -> scene.desk.stepAt(0, 1, far));
        }
        Check.index("16 fewer steps of others", () -> scene.desk.stepAt(0, 0, 10));
        Check.same("16 the last of those", '=', scene.desk.stepAt(0, 0, 9));
    }

    /** "the last words of both as a pair if that goes, otherwise the last one of the first text left out if that goes" */
    private static void pairsGoAheadOfLeavingOut() {
        Scene scene = new Scene();
        int[][] texts = {{0}, {0, 0}, {0, 0, 0}, {1, 0}, {0, 1}, {1, 2}, {2}};
        for (int[] text : texts) {
            scene.book(1800, text);
        }
        Check.same("16 the last twin stays, one is put in", "i=", scene.path(0, 1));
        Check.same("16 the last twin stays, one is left out", "d=", scene.path(1, 0));
        Check.same("16 both twins stay", "d==", scene.path(2, 1));
        Check.same("16 a pair ahead of out and in", "ww", scene.path(1, 5));
        Check.same("14 out and in cost as much as in and out", 3, scene.desk.distance(3, 4));
        Check.same("16 out ahead of in, from the ends on", "i=d", scene.path(3, 4));
        Check.same("16 a pair of others, then out", "dw", scene.path(1, 6));
        Check.same("16 a pair of others, then in", "iw", scene.path(6, 1));
    }
}
