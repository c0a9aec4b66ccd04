import java.math.BigInteger;

/** The boundary cases of promises 40 to 47, of "Not promised", and of the 512 calls, by sentences. */
final class BoundariesOfFiguresTest {
    private BoundariesOfFiguresTest() {
    }

    public static void main(String[] args) {
        costsOfNoVersions();
        costsOfThirtyVersions();
        historiesOfFiveAtMost();
        historiesOfEachNumber();
        documentsUpToThirty();
        onlyVersionsAreKnown();
        checksumsBeginWithThree();
        checksumsWrapAround();
        sharesNeedVersions();
        sharesAreFloats();
        meansNeedVersions();
        meansAreDoubles();
        soundAtEachNumber();
        theLastCallThatIsPromised();
        laterCallsEnd();
        desksAreApart();
        Check.end();
    }

    /** "Returns what the ways of all versions cost together.": of none, nothing. */
    private static void costsOfNoVersions() {
        Scene scene = new Scene();
        Check.same("40 a new desk", 0, scene.desk.totalCost());
        scene.denial(Scene.ADA, 1800, Scene.ONE);
        scene.document("book", 1800, 0, -1, -1, 1, Scene.ONE);
        Check.same("40 a denial and a hidden one", 0, scene.desk.totalCost());
        Check.same("41 a denial and a hidden one", 0, scene.desk.leastOfAll());
        scene.search("book", 1800, 1800, 1, 0, Scene.ONE);
        Check.same("40 once it was found", 49, scene.desk.totalCost());
        Check.same("41 once it was found", 49, scene.desk.leastOfAll());
    }

    /** "At most 30 documents": thirty of the dearest origins. */
    private static void costsOfThirtyVersions() {
        WhosaidDesk desk = new WhosaidDesk();
        for (int concept = 0; concept < 30; concept++) {
            desk.word(concept, 0, 1000);
        }
        desk.person(2100, 2100);
        for (int each = 0; each < 30; each++) {
            for (int many = 0; many < 10; many++) {
                desk.say(each);
            }
            for (char letter : "talk".toCharArray()) {
                desk.letter(letter);
            }
            desk.document(2100, 0, 0, 0, 0);
        }
        Check.same("40 thirty origins out of time", 30 * 69, desk.totalCost());
        Check.same("45 all are origins", 1.0f, desk.originShare());
        Check.same("47 thirty origins", true, desk.isSound());
    }

    /** "Throws UnsupportedOperationException if there are more than 5 versions" */
    private static void historiesOfFiveAtMost() {
        Scene scene = new Scene();
        for (int many = 0; many < 5; many++) {
            Check.same("41 of " + many, many == 0 ? 0 : 40, scene.desk.leastOfAll());
            scene.book(1800, Scene.ONE);
        }
        Check.same("41 of five", 40, scene.desk.leastOfAll());
        scene.denial(Scene.ADA, 1800, 8, 8, 8, 8, 8, 8, 8, 8);
        scene.document("book", 1800, 9, -1, -1, 1, Scene.ONE);
        Check.same("41 of five among seven documents", 40, scene.desk.leastOfAll());
        scene.search("book", 1800, 1800, 1, 0, Scene.ONE);
        Check.unsupported("41 of six", () -> scene.desk.leastOfAll());
        scene.book(1800, Scene.ONE);
        Check.unsupported("41 of seven", () -> scene.desk.leastOfAll());
    }

    /** "Returns the least that they cost, by looking at all histories." */
    private static void historiesOfEachNumber() {
        Scene scene = new Scene();
        int[][] texts = {{0, 1, 2, 8}, {3, 1, 2, 8}, {3, 4, 2, 8}, {3, 4, 5, 8}, {8, 8, 8, 8}};
        int[] sums = {40, 50, 60, 70, 110};
        for (int each = 0; each < 5; each++) {
            scene.book(1804 - each, texts[each]);
            Check.same("41 of " + each, sums[each], scene.desk.leastOfAll());
            Check.same("40 of " + each, sums[each], scene.desk.totalCost());
        }
        WhosaidDesk apart = new WhosaidDesk();
        for (int each = 0; each < 5; each++) {
            apart.word(each, 0, 1000);
        }
        for (int each = 0; each < 5; each++) {
            addFour(apart, each);
            Check.same("41 origins alone, " + each, 40 * each + 40, apart.leastOfAll());
        }
    }

    private static void addFour(WhosaidDesk desk, int word) {
        for (int many = 0; many < 4; many++) {
            desk.say(word);
        }
        for (char letter : "talk".toCharArray()) {
            desk.letter(letter);
        }
        desk.document(1800, 9, -1, -1, 0);
    }

    /** "Returns the number of documents.": none up to thirty, known or not. */
    private static void documentsUpToThirty() {
        Scene scene = new Scene();
        for (int many = 0; many < 30; many++) {
            Check.same("42 so many", many, scene.desk.documents());
            scene.document(many % 2 == 0 ? "book" : "denial", 1800, 9, -1, Scene.ADA, many % 3, Scene.ONE);
        }
        Check.same("42 thirty", 30, scene.desk.documents());
    }

    /** "Returns the number of versions.": none up to thirty. */
    private static void onlyVersionsAreKnown() {
        Scene scene = new Scene();
        Check.same("43 none", 0, scene.desk.known());
        scene.denial(Scene.ADA, 1800, Scene.ONE);
        scene.document("book", 1800, 9, -1, -1, 1, Scene.ONE);
        scene.document("denial", 1800, 9, -1, Scene.ADA, 1, Scene.ONE);
        Check.same("43 neither denials nor hidden ones", 0, scene.desk.known());
        scene.search("denial", 1800, 1800, 1, 0, Scene.ONE);
        Check.same("43 no denial that was found", 0, scene.desk.known());
        scene.search("book", 1800, 1800, 1, 0, Scene.ONE);
        Check.same("43 one that was found", 1, scene.desk.known());
        Scene full = new Scene();
        for (int many = 1; many <= 30; many++) {
            full.book(1800, Scene.ONE);
            Check.same("43 so many", many, full.desk.known());
        }
    }

    /** "Returns 3 at first"; "-1 without one, plus 1 if it is known" */
    private static void checksumsBeginWithThree() {
        Check.same("44 a new desk", 3L, new WhosaidDesk().checksum());
        Scene scene = new Scene();
        Check.same("44 words and people", 3L, scene.desk.checksum());
        scene.document("book", 1000, 9, -1, -1, 1, Scene.ONE);
        Check.same("44 a hidden one", 93L + 1000 - 7, scene.desk.checksum());
        scene.search("book", 1000, 1000, 1, 0, Scene.ONE);
        Check.same("44 an origin", 93L + 1000 - 7 + 1, scene.desk.checksum());
        scene.book(1000, Scene.ONE);
        Check.same("44 a copy of the document 0", 31L * 1087 + 1000 + 1, scene.desk.checksum());
        scene.book(1000, Scene.ONE);
        Check.same("44 and another one", 31L * (31L * 1087 + 1001) + 1001, scene.desk.checksum());
        scene.book(2100, 8, 8, 8, 8, 8, 8);
        Check.same("44 the last year", 31L * (31L * (31L * 1087 + 1001) + 1001) + 2100 - 7 + 1, scene.desk.checksum());
    }

    /** "31 times itself" thirty times goes beyond a long, which wraps around. */
    private static void checksumsWrapAround() {
        Scene scene = new Scene();
        BigInteger exact = BigInteger.valueOf(3);
        for (int many = 0; many < 30; many++) {
            scene.document("book", 2100, 9, -1, -1, 1, Scene.ONE);
            exact = exact.multiply(BigInteger.valueOf(31)).add(BigInteger.valueOf(2100 - 7));
            Check.same("44 of " + (many + 1), exact.longValue(), scene.desk.checksum());
        }
        Check.same("44 it does go beyond a long", true, exact.bitLength() > 64);
        scene.search("book", 2100, 2100, 1, 0, Scene.ONE);
        BigInteger found = BigInteger.valueOf(3);
        for (int many = 0; many < 30; many++) {
            int more = many == 0 ? 2100 - 7 + 1 : 2100 + 1;
            found = found.multiply(BigInteger.valueOf(31)).add(BigInteger.valueOf(more));
        }
        Check.same("44 all copies of the first one", found.longValue(), scene.desk.checksum());
    }

    /** "Throws NoSuchElementException if there are none" */
    private static void sharesNeedVersions() {
        Scene scene = new Scene();
        Check.absent("45 a new desk", () -> scene.desk.originShare());
        scene.denial(Scene.ADA, 1800, Scene.ONE);
        scene.document("book", 1800, 9, -1, -1, 1, Scene.ONE);
        Check.absent("45 a denial and a hidden one", () -> scene.desk.originShare());
        scene.search("book", 1800, 1800, 1, 0, Scene.ONE);
        Check.same("45 one", 1.0f, scene.desk.originShare());
    }

    /** "Returns their number divided by that of all, both converted to float." */
    private static void sharesAreFloats() {
        Scene scene = new Scene();
        for (int many = 1; many <= 29; many++) {
            scene.book(1800, Scene.ONE);
            Check.same("45 one of " + many, 1.0f / (float) many, scene.desk.originShare());
        }
        scene.book(1800, 8, 8, 8, 8, 8, 8);
        Check.same("45 two of thirty", 2.0f / 30.0f, scene.desk.originShare());
    }

    /** "Throws NoSuchElementException if there are none" */
    private static void meansNeedVersions() {
        Scene scene = new Scene();
        Check.absent("46 a new desk", () -> scene.desk.meanChain());
        scene.denial(Scene.ADA, 1800, Scene.ONE);
        scene.document("book", 1800, 9, -1, -1, 1, Scene.ONE);
        Check.absent("46 a denial and a hidden one", () -> scene.desk.meanChain());
        scene.search("book", 1800, 1800, 1, 0, Scene.ONE);
        Check.same("46 one", 1.0, scene.desk.meanChain());
    }

    /** "Returns the sum divided by the number of versions, both converted to double." */
    private static void meansAreDoubles() {
        Scene scene = new Scene();
        for (int many = 1; many <= 30; many++) {
            scene.book(1800, Scene.ONE);
            Check.same("46 copies of one, " + many, (2.0 * many - 1.0) / many, scene.desk.meanChain());
        }
    }

    /** "and, of at most 5, whether all histories cost no less" */
    private static void soundAtEachNumber() {
        Scene scene = new Scene();
        Check.same("47 a new desk", true, scene.desk.isSound());
        for (int many = 1; many <= 30; many++) {
            int named = many % 4 - 1;
            scene.document("talk", 1850 - many * 13 % 60, many % 10, -1, named, 0, many % 9, many * 2 % 9, many / 4);
            Check.same("47 of " + many, true, scene.desk.isSound());
        }
        Scene year = new Scene();
        for (int many = 1; many <= 30; many++) {
            year.book(1800, Scene.ONE);
            Check.same("47 copies of one year, " + many, true, year.desk.isSound());
        }
    }

    /** "An object is used for at most 512 calls after it has been made" */
    private static void theLastCallThatIsPromised() {
        WhosaidDesk desk = new WhosaidDesk();
        desk.word(0, 0, 1000);
        desk.say(0);
        for (char letter : "book".toCharArray()) {
            desk.letter(letter);
        }
        for (int call = 7; call <= 510; call++) {
            Check.same("42 call " + call, 0, desk.documents());
        }
        Check.same("9 call 511", 0, desk.document(2100, 9, -1, -1, 0));
        Check.same("18 call 512", 40, desk.cost(0));
    }

    /** "what later calls answer is free": but rule 7 of the language lets none fail or run on. */
    private static void laterCallsEnd() {
        Scene scene = new Scene();
        for (int round = 0; round < 300; round++) {
            int number = round % 40 - 2;
            ends(() -> scene.book(1800 + number, Scene.ONE, Scene.TWO));
            ends(() -> scene.search("book", 1700, 1900, 50, 9, Scene.ONE));
            ends(() -> scene.desk.verdict(number, 0));
            ends(() -> scene.desk.stepAt(number, 0, number));
            ends(() -> scene.desk.collection(1800));
            ends(() -> scene.desk.enter(0, number));
            ends(() -> scene.desk.quote(0, number, 0));
        }
        Check.goes("42 much later", () -> scene.desk.documents());
        Check.goes("47 much later", () -> scene.desk.isSound());
    }

    private static void ends(Check.Call call) {
        Check.endsItself("a later call", Check.answerOf(call));
    }

    /** "Creates a desk without words, people and documents.": whatever another one has. */
    private static void desksAreApart() {
        Scene first = new Scene();
        first.book(1800, Scene.ONE);
        first.desk.collection(1900);
        first.type("boo");
        WhosaidDesk second = new WhosaidDesk();
        Check.same("1 no documents", 0, second.documents());
        Check.same("1 no letters", 1, second.letter('a'));
        Check.same("1 first word", 0, second.word(0, 0, 1000));
        Check.same("1 first person", 0, second.person(1700, 1800));
        Check.same("1 first collection", 0, second.collection(1000));
        Check.same("1 the first desk keeps its own", 1, first.desk.documents());
    }
}
