/** The boundary cases of "Collections" and "Quotes" and of promises 31 to 39, each behind the sentence that names it. */
final class BoundariesOfCollectionsTest {
    private BoundariesOfCollectionsTest() {
    }

    public static void main(String[] args) {
        thereAreFiveCollections();
        collectionsHaveEightEntries();
        entriesStandOnceEach();
        entriesAreVersions();
        collectionsAreThere();
        slipsAreNotFirst();
        slipsNameTheSameOne();
        slipsAreMistakes();
        nothingIsCommonToEmptyOnes();
        mistakesOfBothAreCommon();
        neighboursOfBothAreCommon();
        theEighthHasNoneBehindIt();
        theMostThatIsCommon();
        threeInCommonAreEnough();
        copiesAreMadeOfThoseAhead();
        ofSeveralTheLowestNumber();
        thereAreTwentyQuotes();
        outletsAreInRange();
        quotesAreOfVersionsByPeople();
        onlyMistakenQuotesWait();
        quotesArePushedOnce();
        pushedOnesAreCountedByOutlets();
        Check.end();
    }

    /** "At most 5 collections are numbered from 0"; "Throws IllegalStateException if there are 5". */
    private static void thereAreFiveCollections() {
        WhosaidDesk desk = new WhosaidDesk();
        for (int number = 0; number < 4; number++) {
            Check.same("31 from 0 on", number, desk.collection(2100));
        }
        Check.index("33 the fifth is not there", () -> desk.slips(4));
        Check.same("31 the fifth", 4, desk.collection(1000));
        Check.state("31 a sixth", () -> desk.collection(1500));
        Check.same("33 the fifth is there", 0, desk.slips(4));
        Check.index("33 the sixth is not", () -> desk.slips(5));
    }

    /** "with at most 8 entries"; "Throws IllegalStateException if it has 8". */
    private static void collectionsHaveEightEntries() {
        Scene scene = books(9);
        scene.desk.collection(1900);
        scene.desk.collection(1900);
        for (int many = 1; many <= 8; many++) {
            Check.same("32 so many", many, scene.desk.enter(0, many - 1));
        }
        Check.state("32 a ninth", () -> scene.desk.enter(0, 8));
        Check.same("32 another collection has room", 1, scene.desk.enter(1, 8));
        Check.state("32 still a ninth", () -> scene.desk.enter(0, 8));
        Check.same("34 eight of one kind", 7, scene.desk.common(0, 0));
    }

    private static Scene books(int many) {
        Scene scene = new Scene();
        for (int each = 0; each < many; each++) {
            scene.book(1800, Scene.ONE);
        }
        return scene;
    }

    /** "each once"; "or is in it" */
    private static void entriesStandOnceEach() {
        Scene scene = books(8);
        scene.desk.collection(1900);
        scene.desk.collection(1900);
        for (int entry = 0; entry < 8; entry++) {
            int it = entry;
            scene.desk.enter(0, it);
            Check.unsupported("32 the last one again", () -> scene.desk.enter(0, it));
            Check.unsupported("32 the first one again", () -> scene.desk.enter(0, 0));
        }
        Check.same("32 in another collection", 1, scene.desk.enter(1, 0));
        Check.unsupported("32 again in that one", () -> scene.desk.enter(1, 0));
        Check.same("32 nothing was entered twice", 2, scene.desk.enter(1, 7));
    }

    /** "Throws UnsupportedOperationException if it is no version" */
    private static void entriesAreVersions() {
        Scene scene = new Scene();
        scene.document("book", 1800, 9, -1, -1, 1, Scene.ONE);
        scene.denial(Scene.ADA, 1800, Scene.ONE);
        scene.document("denial", 1800, 9, -1, Scene.ADA, 1, Scene.ONE);
        scene.desk.collection(1900);
        Check.unsupported("32 a hidden one", () -> scene.desk.enter(0, 0));
        Check.unsupported("32 a denial", () -> scene.desk.enter(0, 1));
        Check.unsupported("32 a hidden denial", () -> scene.desk.enter(0, 2));
        scene.search("book", 1800, 1800, 1, 0, Scene.ONE);
        scene.search("denial", 1800, 1800, 1, 0, Scene.ONE);
        Check.unsupported("32 a denial that was found", () -> scene.desk.enter(0, 2));
        Check.same("32 one that was found", 1, scene.desk.enter(0, 0));
    }

    /** "Throws IndexOutOfBoundsException if there is no such collection", "or document", "for either" */
    private static void collectionsAreThere() {
        absent("32 enter", 2, (desk, collection) -> desk.enter(collection, 2));
        absent("33 slips", 2, (desk, collection) -> desk.slips(collection));
        absent("34 common", 2, (desk, collection) -> desk.common(collection, 0));
        absent("34 common, other", 2, (desk, collection) -> desk.common(0, collection));
        absent("35 copiedFrom", 2, (desk, collection) -> ofNoneOr(desk, collection));
        absent("32 enter, document", 3, (desk, document) -> desk.enter(0, document));
    }

    /** That a collection is copied from none is an answer here. */
    private static Object ofNoneOr(WhosaidDesk desk, int collection) {
        try {
            return desk.copiedFrom(collection);
        } catch (java.util.NoSuchElementException none) {
            return -1;
        }
    }

    private static void absent(String what, int count, Check.Asked call) {
        Scene scene = books(3);
        scene.desk.collection(1900);
        scene.desk.collection(1900);
        Check.index(what + " of -1", () -> call.answer(scene.desk, -1));
        Check.index(what + " behind the last one", () -> call.answer(scene.desk, count));
        for (int far : Check.FAR) {
            Check.index(what + " of " + far, () -> call.answer(scene.desk, far));
        }
        Check.goes(what + " of the first one", () -> call.answer(scene.desk, 0));
        Check.goes(what + " of the last one", () -> call.answer(scene.desk, count - 1));
    }

    /** Version 0 is Ada's; those of this many numbers name Ben, by mistake, and as many behind them Cyd. */
    private static Scene mistakes(int many) {
        Scene scene = new Scene();
        scene.by(Scene.ADA, 1760, Scene.ONE);
        for (int each = 1; each <= 2 * many; each++) {
            scene.naming(each <= many ? Scene.BEN : Scene.CYD, 1761, Scene.ONE);
        }
        return scene;
    }

    private static void fill(WhosaidDesk desk, int collection, int... entries) {
        for (int entry : entries) {
            desk.enter(collection, entry);
        }
    }

    /** "A slip is a mistake, not the first entry" */
    private static void slipsAreNotFirst() {
        Scene scene = mistakes(8);
        scene.desk.collection(1900);
        Check.same("33 no entries", 0, scene.desk.slips(0));
        for (int entry = 1; entry <= 8; entry++) {
            scene.desk.enter(0, entry);
            Check.same("33 all but the first one", entry - 1, scene.desk.slips(0));
        }
    }

    /** "that names the same one as the entry ahead" */
    private static void slipsNameTheSameOne() {
        Scene scene = mistakes(4);
        scene.desk.collection(1900);
        scene.desk.collection(1900);
        fill(scene.desk, 0, 1, 5, 2, 6, 3, 7);
        Check.same("33 in turn", 0, scene.desk.slips(0));
        fill(scene.desk, 0, 8);
        Check.same("33 once the same", 1, scene.desk.slips(0));
        fill(scene.desk, 0, 4);
        Check.same("33 the other one again", 1, scene.desk.slips(0));
        fill(scene.desk, 1, 1, 0, 2);
        Check.same("33 nobody between", 0, scene.desk.slips(1));
    }

    /** "A document that names somebody of whom its verdict is 'm' is a mistake." */
    private static void slipsAreMistakes() {
        Scene scene = new Scene();
        scene.by(Scene.ADA, 1760, Scene.ONE);
        scene.book(1761, Scene.ONE);
        scene.book(1762, Scene.ONE);
        scene.naming(Scene.ADA, 1763, Scene.ONE);
        scene.naming(Scene.ADA, 1764, Scene.ONE);
        scene.naming(Scene.CYD, 1765, Scene.ONE);
        scene.naming(Scene.CYD, 1766, Scene.ONE);
        scene.naming(Scene.CYD, 1767, 8, 8, 8, 8, 8, 8);
        scene.desk.collection(1900);
        fill(scene.desk, 0, 1, 2);
        Check.same("33 who name nobody", 0, scene.desk.slips(0));
        fill(scene.desk, 0, 3, 4);
        Check.same("33 who name the author", 0, scene.desk.slips(0));
        fill(scene.desk, 0, 5, 7);
        Check.same("33 who said the other one, behind a mistake", 0, scene.desk.slips(0));
        fill(scene.desk, 0, 6);
        Check.same("33 a mistake behind who said the other one", 1, scene.desk.slips(0));
        scene.by(Scene.CYD, 1759, Scene.ONE);
        Check.same("33 a mistake no more", 0, scene.desk.slips(0));
    }

    /** "Two collections have in common": nothing, if one is empty; "or the same". */
    private static void nothingIsCommonToEmptyOnes() {
        Scene scene = mistakes(2);
        scene.desk.collection(1900);
        scene.desk.collection(1900);
        Check.same("34 an empty one with itself", 0, scene.desk.common(0, 0));
        Check.same("34 two empty ones", 0, scene.desk.common(0, 1));
        fill(scene.desk, 0, 1, 2);
        Check.same("34 with an empty one", 0, scene.desk.common(0, 1));
        Check.same("34 an empty one with it", 0, scene.desk.common(1, 0));
        Check.same("34 with itself", 5, scene.desk.common(0, 0));
    }

    /** "2 for each entry of both that is a mistake" */
    private static void mistakesOfBothAreCommon() {
        Scene scene = mistakes(2);
        scene.desk.collection(1900);
        scene.desk.collection(1900);
        fill(scene.desk, 0, 0);
        fill(scene.desk, 1, 0);
        Check.same("34 no mistake", 0, scene.desk.common(0, 1));
        fill(scene.desk, 0, 1);
        Check.same("34 a mistake of the one", 0, scene.desk.common(0, 1));
        fill(scene.desk, 1, 2);
        Check.same("34 one mistake each, not the same", 0, scene.desk.common(0, 1));
        fill(scene.desk, 1, 1);
        Check.same("34 a mistake of both", 2, scene.desk.common(0, 1));
        fill(scene.desk, 0, 3, 2);
        Check.same("34 two mistakes of both", 4, scene.desk.common(0, 1));
        Check.same("34 turned", 4, scene.desk.common(1, 0));
    }

    /** "and 1 for each two entries that stand behind each other, in the same order, in both" */
    private static void neighboursOfBothAreCommon() {
        Scene scene = books(8);
        scene.desk.collection(1900);
        scene.desk.collection(1900);
        scene.desk.collection(1900);
        fill(scene.desk, 0, 0, 1, 2, 3);
        fill(scene.desk, 1, 0);
        Check.same("34 one entry has no neighbour", 0, scene.desk.common(0, 1));
        fill(scene.desk, 1, 1);
        Check.same("34 the first two", 1, scene.desk.common(0, 1));
        fill(scene.desk, 2, 7, 2, 3);
        Check.same("34 the last two", 1, scene.desk.common(0, 2));
        Check.same("34 the last two, turned", 1, scene.desk.common(2, 0));
        fill(scene.desk, 2, 1, 0);
        Check.same("34 not in the other order", 1, scene.desk.common(0, 2));
        Check.same("34 nor there", 0, scene.desk.common(1, 2));
        fill(scene.desk, 1, 2);
        Check.same("34 three in a row", 2, scene.desk.common(0, 1));
        Scene last = books(2);
        last.desk.collection(1900);
        last.desk.collection(1900);
        fill(last.desk, 0, 1, 0);
        fill(last.desk, 1, 1);
        Check.same("34 none stands behind the last one", 0, last.desk.common(0, 1));
        Check.same("34 none stands behind the only one", 0, last.desk.common(1, 0));
    }

    /** "at most 8 entries": none stands behind the eighth. */
    private static void theEighthHasNoneBehindIt() {
        Scene scene = books(9);
        scene.desk.collection(1900);
        scene.desk.collection(1900);
        fill(scene.desk, 0, 1, 2, 3, 4, 5, 6, 7, 8);
        fill(scene.desk, 1, 8, 0);
        Check.same("34 not in the first one", 0, scene.desk.common(0, 1));
        Check.same("34 only in the second one", 0, scene.desk.common(1, 0));
    }

    /** "at most 8 entries": eight mistakes and seven neighbours. */
    private static void theMostThatIsCommon() {
        Scene scene = mistakes(4);
        scene.desk.collection(1900);
        scene.desk.collection(1901);
        fill(scene.desk, 0, 1, 2, 3, 4, 5, 6, 7, 8);
        fill(scene.desk, 1, 1, 2, 3, 4, 5, 6, 7, 8);
        Check.same("34 twenty-three", 23, scene.desk.common(0, 1));
        Check.same("34 twenty-three with itself", 23, scene.desk.common(1, 1));
        Check.same("35 copied", 0, scene.desk.copiedFrom(1));
        Check.same("33 slips of two names", 6, scene.desk.slips(1));
    }

    /** "with which it has most in common, at least 3"; "Throws NoSuchElementException if from none". */
    private static void threeInCommonAreEnough() {
        Scene scene = mistakes(2);
        scene.desk.collection(1900);
        scene.desk.collection(1900);
        Check.absent("35 two empty ones", () -> scene.desk.copiedFrom(1));
        fill(scene.desk, 0, 1, 0);
        fill(scene.desk, 1, 0, 1);
        Check.same("34 two", 2, scene.desk.common(1, 0));
        Check.absent("35 two are too few", () -> scene.desk.copiedFrom(1));
        fill(scene.desk, 1, 2, 3);
        fill(scene.desk, 0, 4, 3);
        Check.same("34 four", 4, scene.desk.common(1, 0));
        Check.same("35 four are enough", 0, scene.desk.copiedFrom(1));
        Scene three = mistakes(2);
        three.desk.collection(1900);
        three.desk.collection(1900);
        fill(three.desk, 0, 1, 0);
        fill(three.desk, 1, 1, 0);
        Check.same("34 three", 3, three.desk.common(1, 0));
        Check.same("35 three are enough", 0, three.desk.copiedFrom(1));
        Scene single = mistakes(1);
        single.desk.collection(1900);
        Check.absent("35 a single one", () -> single.desk.copiedFrom(0));
    }

    /** "from the one, ahead of it by years, then numbers" */
    private static void copiesAreMadeOfThoseAhead() {
        for (int year : new int[] {1000, 1899, 1900, 1901, 2100}) {
            Scene scene = mistakes(2);
            scene.desk.collection(1900);
            scene.desk.collection(year);
            fill(scene.desk, 0, 1, 2);
            fill(scene.desk, 1, 1, 2);
            int from = year < 1900 ? 1 : 0;
            Check.same("35 1900 against " + year, from, scene.desk.copiedFrom(1 - from));
            Check.absent("35 none is ahead, " + year, () -> scene.desk.copiedFrom(from));
        }
    }

    /** "of several the lowest number" */
    private static void ofSeveralTheLowestNumber() {
        Scene scene = mistakes(2);
        scene.desk.collection(1900);
        scene.desk.collection(1899);
        scene.desk.collection(1898);
        scene.desk.collection(1950);
        fill(scene.desk, 0, 1, 2);
        fill(scene.desk, 1, 1, 2);
        fill(scene.desk, 2, 1, 2);
        fill(scene.desk, 3, 1, 2, 3);
        Check.same("35 the lowest number, not the first year", 0, scene.desk.copiedFrom(3));
        fill(scene.desk, 2, 3);
        Check.same("35 the one with most", 2, scene.desk.copiedFrom(3));
        fill(scene.desk, 1, 3);
        Check.same("35 the lowest number of those with most", 1, scene.desk.copiedFrom(3));
        Check.same("35 the only one ahead", 2, scene.desk.copiedFrom(1));
        scene.desk.collection(2100);
        Check.absent("35 a fifth one is empty", () -> scene.desk.copiedFrom(4));
        fill(scene.desk, 4, 1, 2, 3);
        Check.same("35 the lowest number of four", 1, scene.desk.copiedFrom(4));
    }

    /** "At most 20 quotes are told"; "Throws IllegalStateException if there are 20". */
    private static void thereAreTwentyQuotes() {
        Scene scene = books(1);
        for (int many = 1; many <= 20; many++) {
            Check.same("36 so many", many, scene.desk.quote(0, 0, Scene.ADA));
        }
        Check.state("36 a twenty-first", () -> scene.desk.quote(0, 0, Scene.ADA));
        Check.same("37 twenty", 20, scene.desk.pushes());
        Check.same("38 twenty", 20, scene.desk.push());
        Check.state("36 pushed ones count", () -> scene.desk.quote(9, 0, Scene.ADA));
        Check.same("39 twenty", 20, scene.desk.pushedTo(0));
    }

    /** "the outlet, 0 to 9"; "Throws IllegalArgumentException if it is out of range". */
    private static void outletsAreInRange() {
        Scene scene = books(1);
        Check.argument("36 outlet -1", () -> scene.desk.quote(-1, 0, 0));
        Check.argument("36 outlet 10", () -> scene.desk.quote(10, 0, 0));
        Check.argument("39 outlet -1", () -> scene.desk.pushedTo(-1));
        Check.argument("39 outlet 10", () -> scene.desk.pushedTo(10));
        for (int far : Check.FAR) {
            Check.argument("36 outlet " + far, () -> scene.desk.quote(far, 0, 0));
            Check.argument("39 outlet " + far, () -> scene.desk.pushedTo(far));
        }
        Check.same("36 outlet 0", 1, scene.desk.quote(0, 0, 0));
        Check.same("36 outlet 9", 2, scene.desk.quote(9, 0, 0));
        Check.same("39 outlet 0", 0, scene.desk.pushedTo(0));
        Check.same("39 outlet 9", 0, scene.desk.pushedTo(9));
    }

    /** "if there is no such document or person"; "if it is no version" */
    private static void quotesAreOfVersionsByPeople() {
        absent("36 quote, document", 3, (desk, document) -> desk.quote(0, document, 0));
        absent("36 quote, person", 3, (desk, person) -> desk.quote(0, 0, person));
        Scene scene = new Scene();
        scene.document("book", 1800, 9, -1, -1, 1, Scene.ONE);
        scene.denial(Scene.ADA, 1800, Scene.ONE);
        scene.document("denial", 1800, 9, -1, Scene.ADA, 1, Scene.ONE);
        Check.unsupported("36 a hidden one", () -> scene.desk.quote(0, 0, 0));
        Check.unsupported("36 a denial", () -> scene.desk.quote(0, 1, 0));
        Check.unsupported("36 a hidden denial", () -> scene.desk.quote(0, 2, 0));
        Check.same("37 none was told", 0, scene.desk.pushes());
        scene.search("book", 1800, 1800, 1, 0, Scene.ONE);
        Check.same("36 one that was found", 1, scene.desk.quote(0, 0, 0));
    }

    /** "Those whose verdict is 'm' or 'u', and which were not pushed, wait to be pushed." */
    private static void onlyMistakenQuotesWait() {
        Scene scene = new Scene();
        WhosaidDesk desk = scene.desk;
        int writer = desk.person(1700, 1800);
        int translator = desk.person(1700, 1800);
        int maker = desk.person(1700, 1800);
        scene.document("book", 1790, 9, writer, Scene.CYD, 0, 0, 1, 2, 8);
        scene.document("book", 1791, 9, translator, Scene.CYD, 0, 3, 1, 2, 8);
        scene.document("book", 1792, 9, maker, Scene.CYD, 0, 0, 1, 2, 8, 8);
        scene.document("book", 1793, 9, -1, Scene.ADA, 0, 0, 1, 2, 8, 8);
        waits('w', desk, writer);
        waits('s', desk, Scene.CYD);
        waits('t', desk, translator);
        waits('p', desk, maker);
        waits('m', desk, Scene.ADA);
        waits('u', desk, Scene.BEN);
        Check.same("37 two of six", 2, desk.pushes());
        scene.by(Scene.BEN, 1800, 8, 8, 8, 8, 8, 8);
        desk.quote(0, 4, Scene.BEN);
        Check.same("37 of another tree", 2, desk.pushes());
        desk.quote(0, 4, writer);
        Check.same("37 of another tree, by the one who wrote this one", 3, desk.pushes());
    }

    private static void waits(char verdict, WhosaidDesk desk, int person) {
        Check.same("26 the verdict", verdict, desk.verdict(0, person));
        int before = desk.pushes();
        desk.quote(0, 0, person);
        int due = verdict == 'm' || verdict == 'u' ? before + 1 : before;
        Check.same("37 with verdict " + verdict, due, desk.pushes());
    }

    /** "and which were not pushed"; "Returns how many." */
    private static void quotesArePushedOnce() {
        Scene scene = books(1);
        Check.same("38 without quotes", 0, scene.desk.push());
        Check.same("37 without quotes", 0, scene.desk.pushes());
        scene.desk.quote(1, 0, Scene.ADA);
        Check.same("38 one", 1, scene.desk.push());
        Check.same("38 not again", 0, scene.desk.push());
        Check.same("37 none waits", 0, scene.desk.pushes());
        scene.desk.quote(1, 0, Scene.ADA);
        Check.same("37 the same told again waits", 1, scene.desk.pushes());
        scene.by(Scene.ADA, 1799, Scene.SINGLE);
        Check.same("37 it came true", 0, scene.desk.pushes());
        Check.same("38 nothing to push", 0, scene.desk.push());
        scene.book(1798, Scene.ONE);
        Check.same("37 it is wrong again, the first one was pushed", 1, scene.desk.pushes());
        Check.same("38 one more", 1, scene.desk.push());
        Check.same("39 both", 2, scene.desk.pushedTo(1));
    }

    /** "Returns how many quotes of an outlet were pushed." */
    private static void pushedOnesAreCountedByOutlets() {
        Scene scene = books(1);
        for (int outlet = 0; outlet < 10; outlet++) {
            Check.same("39 none so far", 0, scene.desk.pushedTo(outlet));
            scene.desk.quote(outlet, 0, Scene.ADA);
            Check.same("39 told, not pushed", 0, scene.desk.pushedTo(outlet));
            scene.desk.push();
            Check.same("39 pushed", 1, scene.desk.pushedTo(outlet));
        }
        scene.desk.quote(9, 0, Scene.ADA);
        scene.desk.push();
        Check.same("39 two of the last one", 2, scene.desk.pushedTo(9));
        Check.same("39 one of the first one", 1, scene.desk.pushedTo(0));
    }
}
