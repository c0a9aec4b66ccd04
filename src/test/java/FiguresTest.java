/** Promises 40 to 47. */
final class FiguresTest {
    private FiguresTest() {
    }

    public static void main(String[] args) {
        anEmptyDeskHasNoShares();
        costsAreAdded();
        allHistoriesOfFiveAreLookedAt();
        moreThanFiveAreTooMany();
        documentsAndVersionsAreCounted();
        theChecksumGoesOverAll();
        theChecksumWrapsAround();
        sharesAndMeansAreDivided();
        historiesAreSound();
        Check.end();
    }

    private static void anEmptyDeskHasNoShares() {
        Scene scene = new Scene();
        WhosaidDesk desk = scene.desk;
        Check.same("40 none", 0, desk.totalCost());
        Check.same("41 none", 0, desk.leastOfAll());
        Check.same("44 none", 3L, desk.checksum());
        Check.same("47 none", true, desk.isSound());
        Check.absent("45 none", desk::originShare);
        Check.absent("46 none", desk::meanChain);
        scene.denial(Scene.ADA, 1800, Scene.ONE);
        scene.document("book", 1800, 9, -1, -1, 5, Scene.ONE);
        Check.absent("45 no versions", desk::originShare);
        Check.absent("46 no versions", desk::meanChain);
        Check.same("40 no versions", 0, desk.totalCost());
        Check.same("43 no versions", 0, desk.known());
        Check.same("42 documents", 2, desk.documents());
    }

    private static void costsAreAdded() {
        Scene scene = new Scene();
        scene.book(1800, 0, 1, 2, 8);
        scene.document("talk", 1801, 5, -1, -1, 0, 7, 7, 7, 7);
        scene.book(1820, 0, 1, 2, 8, 8);
        scene.denial(Scene.ADA, 1700, 0);
        Check.same("40 two origins and a copy", 40 + 44 + 21, scene.desk.totalCost());
        Check.same("41 the same", 105, scene.desk.leastOfAll());
    }

    private static void allHistoriesOfFiveAreLookedAt() {
        Scene scene = new Scene();
        scene.book(1840, 0, 1, 2, 8);
        scene.naming(Scene.BEN, 1830, 0, 1, 2);
        scene.book(1820, 0, 1, 8);
        scene.naming(Scene.CYD, 1810, 3, 1, 2, 8);
        scene.book(1800, 8, 7, 7);
        Check.same("43 five", 5, scene.desk.known());
        Check.same("41 of five", scene.desk.totalCost(), scene.desk.leastOfAll());
        Check.same("41 the sum by hand", 13 + 40 + 22 + 40 + 40, scene.desk.leastOfAll());
        Check.same("47 of five", true, scene.desk.isSound());
    }

    private static void moreThanFiveAreTooMany() {
        Scene scene = new Scene();
        for (int many = 0; many < 5; many++) {
            scene.book(1800, Scene.ONE);
        }
        Check.same("41 five", 40, scene.desk.leastOfAll());
        scene.denial(Scene.ADA, 1800, 8, 8, 8, 8, 8, 8, 8, 8);
        scene.document("book", 1801, 9, -1, -1, 5, Scene.ONE);
        Check.same("41 only versions count", 40, scene.desk.leastOfAll());
        scene.search("book", 1801, 1801, 5, 0, Scene.ONE);
        Check.unsupported("41 six", scene.desk::leastOfAll);
        Check.same("47 six", true, scene.desk.isSound());
        Check.same("40 six", 40, scene.desk.totalCost());
    }

    private static void documentsAndVersionsAreCounted() {
        Scene scene = new Scene();
        scene.book(1800, Scene.ONE);
        scene.denial(Scene.ADA, 1800, Scene.ONE);
        scene.document("denial", 1800, 9, -1, Scene.ADA, 5, Scene.ONE);
        scene.document("notes", 1800, 9, -1, -1, 5, Scene.ONE);
        Check.same("42 all", 4, scene.desk.documents());
        Check.same("43 one", 1, scene.desk.known());
        scene.search("notes", 1800, 1800, 5, 0, Scene.ONE);
        scene.search("denial", 1800, 1800, 5, 0, Scene.ONE);
        Check.same("42 none more", 4, scene.desk.documents());
        Check.same("43 two", 2, scene.desk.known());
    }

    private static void theChecksumGoesOverAll() {
        Scene scene = new Scene();
        scene.book(1850, Scene.ONE);
        long origin = 3 * 31 + 1850 - 7 + 1;
        Check.same("44 an origin", origin, scene.desk.checksum());
        scene.book(1851, Scene.ONE);
        long copy = origin * 31 + 1851 + 1;
        Check.same("44 a copy of 0", copy, scene.desk.checksum());
        scene.document("book", 1840, 9, -1, -1, 5, Scene.ONE);
        long hidden = copy * 31 + 1840 - 7;
        Check.same("44 a hidden one", hidden, scene.desk.checksum());
        scene.denial(Scene.ADA, 1700, Scene.ONE);
        long denial = hidden * 31 + 1700 - 7 + 1;
        Check.same("44 a denial", denial, scene.desk.checksum());
        scene.search("book", 1840, 1840, 5, 0, Scene.ONE);
        long found = (((3 * 31 + 1850 + 14 + 1) * 31 + 1851 + 1) * 31 + 1840 - 7 + 1) * 31L + 1700 - 7 + 1;
        Check.same("44 found", found, scene.desk.checksum());
    }

    private static void theChecksumWrapsAround() {
        Scene scene = new Scene();
        long sum = 3;
        for (int many = 0; many < 30; many++) {
            scene.book(2000 + many, Scene.ONE);
            int from = many == 0 ? -1 : Math.max(0, firstWithin(many));
            sum = sum * 31 + 2000 + many + 7 * from + 1;
        }
        Check.same("44 thirty", sum, scene.desk.checksum());
    }

    /** A copy within nineteen years costs nothing, so the lowest number of those is its source. */
    private static int firstWithin(int many) {
        return many - 19;
    }

    private static void sharesAndMeansAreDivided() {
        Scene scene = new Scene();
        scene.book(1800, Scene.ONE);
        Check.same("45 one", 1.0f, scene.desk.originShare());
        Check.same("46 one", 1.0, scene.desk.meanChain());
        scene.book(1801, Scene.ONE, Scene.TWO);
        scene.document("book", 1700, 9, -1, -1, 7, Scene.ONE);
        scene.denial(Scene.ADA, 1700, Scene.ONE);
        Check.same("45 a half", 0.5f, scene.desk.originShare());
        Check.same("46 one and a half", 1.5, scene.desk.meanChain());
        scene.book(1802, Scene.ONE, Scene.TWO, Scene.THREE);
        Check.same("45 a third", 1.0f / 3.0f, scene.desk.originShare());
        Check.same("46 two", 2.0, scene.desk.meanChain());
        scene.book(1803, 8, 8, 8, 8, 8, 8, 8);
        scene.book(1803, 1, 2, 3, 8, 7, 7, 7, 7);
        scene.book(1804, 1, 2, 3, 8, 7, 7, 7, 7);
        Check.same("45 three of six", 0.5f, scene.desk.originShare());
        Check.same("46 ten by six", 10.0 / 6.0, scene.desk.meanChain());
    }

    private static void historiesAreSound() {
        Scene scene = new Scene();
        for (int many = 0; many < 30; many++) {
            scene.document("talk", 2000 - many * 7 % 50, many % 10, many % 4 - 1, many % 3 - 1, many % 2 * 50,
                    many % 10, many * 3 % 10, many * 7 % 10);
            Check.same("47 sound", true, scene.desk.isSound());
        }
        scene.search("talk", 1000, 2100, 100, 9, Scene.ONE);
        Check.same("47 sound still", true, scene.desk.isSound());
        Check.unsupported("41 too many", scene.desk::leastOfAll);
    }
}
