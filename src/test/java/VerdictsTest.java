/** Promises 24 to 30. */
final class VerdictsTest {
    private VerdictsTest() {
    }

    public static void main(String[] args) {
        peopleCouldSayByAgeAndWords();
        wordsMustBeThere();
        theAuthorOfTheRootWroteIt();
        whomTheRootNamesSaidIt();
        theFirstOfATongueTranslatedIt();
        eachTongueHasAFirstVersion();
        theMostCopiedOneMadeItPopular();
        othersAreNamedOrUnknown();
        verdictsHoldInOrder();
        peopleAreNamedSince();
        searchesMakeSure();
        earlyYearsAreNeverSure();
        rootsAreParallel();
        proverbsHaveManyOrigins();
        thirtyVersionsAreLookedAt();
        wrongNumbersAreRefused();
        Check.end();
    }

    private static void peopleCouldSayByAgeAndWords() {
        Scene scene = new Scene();
        WhosaidDesk desk = scene.desk;
        int young = scene.book(1809, Scene.ONE);
        int grown = scene.book(1810, Scene.ONE);
        int late = scene.document("talk", 2100, 0, -1, -1, 7, Scene.ONE, Scene.STEAM);
        int denial = scene.denial(Scene.ADA, 1849, Scene.STEAM, Scene.ONE);
        int inTime = scene.book(1850, Scene.ONE, Scene.STEAM);
        Check.same("24 nine years old", false, desk.couldSay(young, Scene.BEN));
        Check.same("24 ten years old", true, desk.couldSay(grown, Scene.BEN));
        Check.same("24 behind the death", true, desk.couldSay(late, Scene.BEN));
        Check.same("24 a word from behind the death", false, desk.couldSay(late, Scene.ADA));
        Check.same("24 a word from behind the year", false, desk.couldSay(denial, Scene.BEN));
        Check.same("24 a word from the year", true, desk.couldSay(inTime, Scene.BEN));
        int died = desk.person(1700, 1850);
        int diedAhead = desk.person(1700, 1849);
        Check.same("24 a word from the year of death", true, desk.couldSay(late, died));
        Check.same("24 a word from behind it", false, desk.couldSay(late, diedAhead));
        Check.same("24 ten words", true, desk.couldSay(scene.book(1850, 0, 0, 0, 0, 0, 0, 0, 0, 0, 0), Scene.BEN));
    }

    private static void wordsMustBeThere() {
        Scene scene = new Scene();
        int ahead = scene.book(1849, Scene.ONE, Scene.STEAM);
        int then = scene.document("notes", 1850, 0, -1, -1, 50, Scene.STEAM, Scene.ONE);
        int old = scene.denial(Scene.ADA, 1000, Scene.ONE, Scene.TWO);
        Check.same("25 a year too early", false, scene.desk.isPossible(ahead));
        Check.same("25 in its year", true, scene.desk.isPossible(then));
        Check.same("25 in the first year", true, scene.desk.isPossible(old));
        WhosaidDesk young = new WhosaidDesk();
        young.word(0, 0, 1900);
        young.word(1, 0, 1800);
        young.say(1);
        for (char letter : "talk".toCharArray()) {
            young.letter(letter);
        }
        young.document(1850, 5, -1, -1, 0);
        Check.same("25 only its words count", true, young.isPossible(0));
        Check.index("25 -1", () -> scene.desk.isPossible(-1));
        Check.index("25 too far", () -> scene.desk.isPossible(3));
    }

    private static void theAuthorOfTheRootWroteIt() {
        Scene scene = new Scene();
        int root = scene.by(Scene.ADA, 1850, Scene.ONE);
        int copy = scene.by(Scene.BEN, 1860, Scene.ONE);
        Check.same("26 w of the root", 'w', scene.desk.verdict(root, Scene.ADA));
        Check.same("26 w of a copy", 'w', scene.desk.verdict(copy, Scene.ADA));
        Check.same("26 u of a copyist", 'u', scene.desk.verdict(copy, Scene.BEN));
    }

    private static void whomTheRootNamesSaidIt() {
        Scene scene = new Scene();
        int root = scene.naming(Scene.BEN, 1850, Scene.ONE);
        int copy = scene.naming(Scene.CYD, 1851, Scene.ONE);
        Check.same("26 s of the root", 's', scene.desk.verdict(root, Scene.BEN));
        Check.same("26 s of a copy", 's', scene.desk.verdict(copy, Scene.BEN));
        Check.same("26 m of whom a copy names", 'm', scene.desk.verdict(root, Scene.CYD));
        scene.denial(Scene.BEN, 2100, Scene.ONE, Scene.TWO, Scene.THREE);
        Check.same("26 m if denied at last", 'm', scene.desk.verdict(root, Scene.BEN));
        Scene young = new Scene();
        young.naming(Scene.BEN, 1809, Scene.ONE);
        Check.same("26 m if too young", 'm', young.desk.verdict(0, Scene.BEN));
        Scene words = new Scene();
        words.naming(Scene.ADA, 1851, Scene.STEAM);
        Check.same("26 m if the word is too young", 'm', words.desk.verdict(0, Scene.ADA));
        Scene far = new Scene();
        far.naming(Scene.BEN, 1850, Scene.ONE, Scene.ONE);
        far.denial(Scene.BEN, 1840, 8, 8, 8);
        Check.same("26 s if another text is denied", 's', far.desk.verdict(0, Scene.BEN));
        Scene other = new Scene();
        other.naming(Scene.BEN, 1850, Scene.ONE);
        other.denial(Scene.ADA, 1840, Scene.ONE);
        Check.same("26 s if another one denied", 's', other.desk.verdict(0, Scene.BEN));
    }

    private static void theFirstOfATongueTranslatedIt() {
        Scene scene = new Scene();
        WhosaidDesk desk = scene.desk;
        int root = scene.book(1800, Scene.ONE, Scene.TWO);
        scene.by(Scene.BEN, 1802, Scene.SINGLE, Scene.DEUX);
        Check.same("26 u in the root's tongue", 'u', desk.verdict(root, Scene.BEN));
        int later = scene.by(Scene.BEN, 1812, Scene.UN, Scene.TWO);
        Check.same("26 t of the only one", 't', desk.verdict(root, Scene.BEN));
        scene.by(Scene.CYD, 1811, Scene.UN, Scene.TWO);
        Check.same("26 t of the earlier one", 't', desk.verdict(later, Scene.CYD));
        Check.same("26 u of the later one", 'u', desk.verdict(root, Scene.BEN));
        scene.by(Scene.ADA, 1811, Scene.UN, Scene.DEUX);
        Check.same("26 all in one tree", 5, desk.versions(root));
        Check.same("26 t of one year by numbers", 't', desk.verdict(root, Scene.CYD));
        Check.same("26 u of one year by numbers", 'u', desk.verdict(root, Scene.ADA));
        scene.by(Scene.NOBODY, 1810, Scene.UN, Scene.TWO);
        Check.same("26 nobody translated it", 'u', desk.verdict(root, Scene.CYD));
        Scene french = new Scene();
        french.book(1800, Scene.UN, Scene.TWO);
        french.by(Scene.BEN, 1801, Scene.ONE, Scene.TWO);
        Check.same("26 t by the first word", 't', french.desk.verdict(0, Scene.BEN));
        french.by(Scene.CYD, 1700, 8, 8, 8, 8, 8, 8);
        Check.same("26 of this tree", 't', french.desk.verdict(0, Scene.BEN));
    }

    private static void eachTongueHasAFirstVersion() {
        Scene scene = new Scene();
        WhosaidDesk desk = scene.desk;
        int uno = desk.word(0, 3, 1000);
        int root = scene.book(1800, Scene.ONE, Scene.TWO);
        scene.by(Scene.NOBODY, 1801, Scene.UN, Scene.TWO);
        scene.by(Scene.ADA, 1802, Scene.UN, Scene.TWO);
        scene.by(Scene.BEN, 1803, Scene.EINS, Scene.TWO);
        scene.by(Scene.ADA, 1804, Scene.EINS, Scene.TWO);
        int last = scene.by(Scene.CYD, 1805, uno, Scene.TWO);
        Check.same("26 four tongues in one tree", 6, desk.versions(root));
        Check.same("26 u of the second ones", 'u', desk.verdict(root, Scene.ADA));
        Check.same("26 t of the second tongue", 't', desk.verdict(root, Scene.BEN));
        Check.same("26 t of the third tongue", 't', desk.verdict(last, Scene.CYD));
        scene.by(Scene.ADA, 1805, uno, Scene.DEUX);
        Check.same("26 u of the second one of a year", 'u', desk.verdict(last, Scene.ADA));
        scene.by(Scene.ADA, 1804, uno, Scene.DEUX);
        Check.same("26 t of the new first one", 't', desk.verdict(last, Scene.ADA));
        Check.same("26 u of the former one", 'u', desk.verdict(last, Scene.CYD));
    }

    private static void theMostCopiedOneMadeItPopular() {
        Scene scene = new Scene();
        WhosaidDesk desk = scene.desk;
        scene.by(Scene.NOBODY, 1800, 0, 1, 2, 8);
        scene.by(Scene.ADA, 1811, 0, 1, 2, 8, 8);
        Check.same("26 u as yet", 'u', desk.verdict(0, Scene.ADA));
        scene.by(Scene.BEN, 1810, 0, 0, 1, 2, 8);
        scene.by(Scene.NOBODY, 1822, 0, 1, 2, 8, 8);
        Check.same("26 p with one below", 'p', desk.verdict(0, Scene.ADA));
        Check.same("26 u with none below", 'u', desk.verdict(0, Scene.BEN));
        scene.by(Scene.NOBODY, 1823, 0, 0, 1, 2, 8);
        Check.same("17 of the long one", 1, desk.source(3));
        Check.same("17 of the other one", 2, desk.source(4));
        Check.same("26 p of the first one by years", 'p', desk.verdict(0, Scene.BEN));
        Check.same("26 u of the later one", 'u', desk.verdict(0, Scene.ADA));
        scene.by(Scene.CYD, 1824, 0, 1, 2, 8, 8, 7);
        Check.same("17 of the long one too", 1, desk.source(5));
        Check.same("26 p with two below", 'p', desk.verdict(5, Scene.ADA));
        Check.same("26 u with one below", 'u', desk.verdict(5, Scene.BEN));
    }

    private static void othersAreNamedOrUnknown() {
        Scene scene = new Scene();
        int root = scene.book(1800, Scene.ONE);
        int other = scene.naming(Scene.ADA, 1760, 8, 8, 8, 8, 8, 8);
        int copy = scene.naming(Scene.BEN, 1850, Scene.ONE);
        Check.same("19 a copy", root, scene.desk.rootOf(copy));
        Check.same("26 m", 'm', scene.desk.verdict(root, Scene.BEN));
        Check.same("26 u in another tree", 'u', scene.desk.verdict(root, Scene.ADA));
        Check.same("26 u of nobody", 'u', scene.desk.verdict(other, Scene.CYD));
    }

    private static void verdictsHoldInOrder() {
        Scene scene = new Scene();
        WhosaidDesk desk = scene.desk;
        int root = scene.document("talk", 1850, 9, Scene.BEN, Scene.BEN, 0, Scene.ONE, Scene.TWO);
        Check.same("26 w ahead of s", 'w', desk.verdict(root, Scene.BEN));
        Scene said = new Scene();
        said.naming(Scene.CYD, 1800, 0, 1, 2, 8);
        said.document("book", 1801, 9, Scene.CYD, Scene.CYD, 0, 3, 1, 2, 8);
        Check.same("26 s ahead of t", 's', said.desk.verdict(1, Scene.CYD));
        Scene both = new Scene();
        both.book(1800, 0, 1, 2, 8);
        both.by(Scene.CYD, 1801, 3, 1, 2, 8);
        both.by(Scene.BEN, 1802, 3, 4, 2, 8);
        both.by(Scene.ADA, 1803, 3, 4, 5, 8);
        Check.same("20 a chain", 4, both.desk.chain(3));
        Check.same("26 t ahead of p", 't', both.desk.verdict(1, Scene.CYD));
        Check.same("26 only the most copied one", 'u', both.desk.verdict(1, Scene.BEN));
        Scene named = new Scene();
        named.book(1800, 0, 1);
        named.document("book", 1801, 9, Scene.BEN, Scene.BEN, 0, 0, 1, 2);
        named.naming(Scene.BEN, 1802, 0, 1, 2, 2);
        Check.same("20 three", 3, named.desk.chain(2));
        Check.same("26 p ahead of m", 'p', named.desk.verdict(0, Scene.BEN));
    }

    private static void peopleAreNamedSince() {
        Scene scene = new Scene();
        int root = scene.book(1800, Scene.ONE);
        scene.naming(Scene.BEN, 1852, Scene.ONE);
        scene.naming(Scene.BEN, 1851, Scene.ONE);
        scene.naming(Scene.CYD, 1853, Scene.ONE);
        scene.naming(Scene.ADA, 1700, 8, 8, 8, 8, 8, 8);
        scene.denial(Scene.ADA, 1700, Scene.ONE);
        scene.document("book", 1801, 9, -1, Scene.BEN, 9, Scene.ONE);
        Check.same("27 first year", 1851, scene.desk.since(root, Scene.BEN));
        Check.same("27 of another one", 1853, scene.desk.since(1, Scene.CYD));
        Check.same("27 of the root", 1700, scene.desk.since(4, Scene.ADA));
        Check.absent("27 not named in this tree", () -> scene.desk.since(root, Scene.ADA));
    }

    private static void searchesMakeSure() {
        Scene scene = new Scene();
        WhosaidDesk desk = scene.desk;
        int root = scene.book(1800, Scene.ONE);
        int copy = scene.book(1850, Scene.ONE);
        Check.same("28 not at all", 0, desk.sure(root));
        scene.search("book", 1771, 1799, 100, 0, Scene.TWO);
        scene.search("book", 1770, 1798, 100, 0, Scene.TWO);
        Check.same("28 not all years", 0, desk.sure(root));
        scene.search("book", 1770, 1799, 54, 0, Scene.TWO);
        Check.same("28 cut", 10, desk.sure(root));
        scene.search("book", 1000, 2100, 50, 0, Scene.TWO);
        Check.same("28 the greatest depth", 10, desk.sure(root));
        scene.search("denial", 1000, 2100, 100, 0, Scene.TWO);
        Check.same("28 denials do not count", 10, desk.sure(root));
        scene.search("paper", 1000, 2100, 3, 0, Scene.TWO);
        Check.same("28 the sum is divided", 11, desk.sure(root));
        scene.search("letter", 1000, 2100, 5, 0, Scene.TWO);
        scene.search("talk", 1000, 2100, 10, 0, Scene.TWO);
        scene.search("notes", 1000, 2100, 20, 0, Scene.TWO);
        Check.same("28 five kinds", 18, desk.sure(root));
        Check.same("28 by the root's year", 18, desk.sure(copy));
        for (String kind : new String[] {"book", "paper", "letter", "talk", "notes"}) {
            scene.search(kind, 1000, 2100, 100, 0, Scene.TWO);
        }
        Check.same("28 most", 100, desk.sure(copy));
    }

    private static void earlyYearsAreNeverSure() {
        Scene scene = new Scene();
        int early = scene.book(1029, Scene.ONE);
        int later = scene.book(1030, 8, 8, 8, 8, 8);
        int first = scene.book(1000, 1, 1, 1, 1, 1, 1, 1);
        int last = scene.book(2100, 2, 2, 2, 2, 2, 2, 2);
        scene.search("book", 1000, 2099, 100, 0, Scene.TWO);
        Check.same("28 a year cannot be searched", 0, scene.desk.sure(early));
        Check.same("28 no year can be searched", 0, scene.desk.sure(first));
        Check.same("28 all years can be searched", 20, scene.desk.sure(later));
        Check.same("28 the last year", 20, scene.desk.sure(last));
    }

    private static void rootsAreParallel() {
        Scene scene = new Scene();
        WhosaidDesk desk = scene.desk;
        int one = scene.book(1800, 0, 1, 2, 8);
        int near = scene.book(1800, 3, 4, 5, 3);
        int far = scene.book(1800, 1, 1, 1, 7, 7, 7, 7);
        int longer = scene.book(1800, 0, 1, 2, 8, 7, 7, 7);
        int copy = scene.book(1810, 0, 1, 2, 8, 8);
        Check.same("19 the copy's root", one, desk.rootOf(copy));
        Check.same("14 six away", 6, desk.distance(one, near));
        Check.same("29 six away", true, desk.areParallel(one, near));
        Check.same("29 itself", false, desk.areParallel(one, one));
        Check.same("29 one root", false, desk.areParallel(one, copy));
        Check.same("29 the roots count", true, desk.areParallel(copy, near));
        Check.same("29 the roots count, turned", true, desk.areParallel(near, copy));
        Check.same("29 far away", false, desk.areParallel(one, far));
        Check.same("14 three left out", 3, desk.distance(longer, one));
        Scene uneven = new Scene();
        int shorter = uneven.book(1800, 0, 1);
        int long6 = uneven.book(1800, 0, 1, 8, 8, 8, 7);
        Check.same("29 four put in", false, uneven.desk.areParallel(shorter, long6));
        Check.same("29 four left out", true, uneven.desk.areParallel(long6, shorter));
    }

    private static void proverbsHaveManyOrigins() {
        Scene scene = new Scene();
        WhosaidDesk desk = scene.desk;
        int first = scene.book(1800, 0, 1, 8, 8, 8, 7);
        int second = scene.book(1800, 0, 1);
        Check.absent("17 an origin", () -> desk.source(second));
        Check.same("30 two", false, desk.isProverb(second));
        int named = scene.naming(Scene.CYD, 1800, 0, 1, 8, 8, 7, 7, 7);
        Check.absent("17 a named origin", () -> desk.source(named));
        Check.same("30 two and a named one", false, desk.isProverb(second));
        int third = scene.book(1801, 2, 8);
        Check.absent("17 a third origin", () -> desk.source(third));
        Check.same("14 near from the third", 6, desk.distance(third, second));
        Check.same("14 near from the first", 4, desk.distance(first, second));
        Check.same("30 three", true, desk.isProverb(second));
        Check.same("30 far to the first", false, desk.isProverb(first));
        Check.same("30 a named root", false, desk.isProverb(named));
        int copy = scene.book(1802, 0, 4);
        Check.same("17 a copy", second, desk.source(copy));
        Check.same("30 by its root", true, desk.isProverb(copy));
        Scene copies = new Scene();
        copies.book(1800, Scene.ONE);
        copies.book(1801, Scene.ONE);
        copies.book(1802, Scene.ONE);
        Check.same("30 copies are no origins", false, copies.desk.isProverb(0));
    }

    private static void thirtyVersionsAreLookedAt() {
        Scene scene = new Scene();
        for (int many = 0; many < 30; many++) {
            scene.book(1829 - many, Scene.ONE);
        }
        scene.desk.setFame(Scene.ADA, 1, 1, 1800);
        Check.same("21 thirty", 30, scene.desk.versions(0));
        Check.absent("22 no more", () -> scene.desk.versionAt(0, 30));
        Check.same("26 u of thirty", 'u', scene.desk.verdict(0, Scene.ADA));
        Check.absent("27 none of thirty", () -> scene.desk.since(0, Scene.ADA));
        Check.same("30 one origin of thirty", false, scene.desk.isProverb(0));
        Check.same("47 thirty are sound", true, scene.desk.isSound());
    }

    private static void wrongNumbersAreRefused() {
        Scene scene = new Scene();
        scene.book(1800, Scene.ONE);
        scene.document("book", 1800, 9, -1, -1, 1, Scene.ONE);
        scene.denial(Scene.ADA, 1800, Scene.ONE);
        for (int none : new int[] {-1, 3, Integer.MAX_VALUE, Integer.MIN_VALUE}) {
            refuseAbsent(scene.desk, none);
        }
        refuseNoVersion(scene.desk, 1);
        refuseNoVersion(scene.desk, 2);
        Check.same("24 a hidden one goes", true, scene.desk.couldSay(1, Scene.ADA));
        Check.same("25 a denial goes", true, scene.desk.isPossible(2));
    }

    private static void refuseAbsent(WhosaidDesk desk, int none) {
        Check.index("24 absent", () -> desk.couldSay(none, 0));
        Check.index("24 no person", () -> desk.couldSay(0, none));
        Check.index("25 absent", () -> desk.isPossible(none));
        Check.index("26 absent", () -> desk.verdict(none, 0));
        Check.index("26 no person", () -> desk.verdict(0, none));
        Check.index("26 no person ahead of no version", () -> desk.verdict(1, none));
        Check.index("27 absent", () -> desk.since(none, 0));
        Check.index("27 no person", () -> desk.since(0, none));
        Check.index("27 no person ahead of no version", () -> desk.since(1, none));
        Check.index("28 absent", () -> desk.sure(none));
        Check.index("29 absent", () -> desk.areParallel(none, 0));
        Check.index("29 other absent", () -> desk.areParallel(0, none));
        Check.index("29 other absent ahead of no version", () -> desk.areParallel(1, none));
        Check.index("30 absent", () -> desk.isProverb(none));
    }

    private static void refuseNoVersion(WhosaidDesk desk, int document) {
        Check.unsupported("26 no version", () -> desk.verdict(document, 0));
        Check.unsupported("27 no version", () -> desk.since(document, 0));
        Check.unsupported("28 no version", () -> desk.sure(document));
        Check.unsupported("29 no version", () -> desk.areParallel(document, 0));
        Check.unsupported("29 other no version", () -> desk.areParallel(0, document));
        Check.unsupported("30 no version", () -> desk.isProverb(document));
    }
}
