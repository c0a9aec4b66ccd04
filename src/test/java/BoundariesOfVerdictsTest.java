/** The boundary cases of "Verdicts" and of promises 24 to 30, each behind the sentence that names it. */
final class BoundariesOfVerdictsTest {
    private static final String[] VERSION_KINDS = {"book", "paper", "letter", "talk", "notes"};

    private BoundariesOfVerdictsTest() {
    }

    public static void main(String[] args) {
        speakersAreTen();
        wordsAreThereByTheYear();
        wordsAreThereByTheDeath();
        theYearCanBeBehindTheDeath();
        possibleTextsHaveWordsByTheYear();
        authorsOfRootsWroteThem();
        whomRootsNameCouldSayThem();
        denialsUpToTheLastYearCount();
        denialsAgainstRootsAreNear();
        firstVersionsAreTranslations();
        everyOtherTongueHasAFirstVersion();
        theFirstWordTellsTheTongue();
        popularOnesHaveOneBelow();
        popularOnesHaveMostBelow();
        ofSeveralTheFirstOneIsPopular();
        namesOfTheTreeAreMistakes();
        namedSinceTheFirstYear();
        searchesHaveAllYearsFromThirtyAhead();
        yearsThatCannotBeSearched();
        oneSearchHasAllYears();
        hundredthsAreCut();
        hundredthsAreHundredAtMost();
        parallelsHaveUnlikeRoots();
        parallelsAreNearBySix();
        threeOriginsMakeAProverb();
        proverbsAreNearBySix();
        proverbsNameNobody();
        peopleAreThere();
        documentsAreThere();
        versionsAreAskedFor();
        Check.end();
    }

    /** "if that is 10 years behind the birth or more" */
    private static void speakersAreTen() {
        for (int born : new int[] {1000, 1790, 2090}) {
            Check.same("24 in the year of birth, " + born, false, couldSay(born, 2100, born));
            Check.same("24 nine years old, " + born, false, couldSay(born, 2100, born + 9));
            Check.same("24 ten years old, " + born, true, couldSay(born, 2100, born + 10));
        }
        Check.same("24 born nine years ahead of the last year", false, couldSay(2091, 2100, 2100));
        Check.same("24 not born yet", false, couldSay(2100, 2100, 1000));
        Check.same("24 eleven hundred years old", true, couldSay(1000, 2100, 2100));
    }

    private static boolean couldSay(int born, int died, int year) {
        Scene scene = new Scene();
        int person = scene.desk.person(born, died);
        return scene.desk.couldSay(scene.book(year, Scene.ONE), person);
    }

    /** "and each of its words is there by this year" */
    private static void wordsAreThereByTheYear() {
        Scene scene = new Scene();
        int person = scene.desk.person(1800, 2000);
        Check.same("24 a year ahead of the word", false, scene.desk.couldSay(scene.book(1849, 7), person));
        Check.same("24 in the word's year", true, scene.desk.couldSay(scene.book(1850, 7), person));
        int first = scene.book(1849, 7, 0, 0, 0, 0, 0, 0, 0, 0, 0);
        int last = scene.book(1849, 0, 0, 0, 0, 0, 0, 0, 0, 0, 7);
        int none = scene.book(1849, 0, 0, 0, 0, 0, 0, 0, 0, 0, 0);
        Check.same("24 the first of ten", false, scene.desk.couldSay(first, person));
        Check.same("24 the last of ten", false, scene.desk.couldSay(last, person));
        Check.same("24 none of ten", true, scene.desk.couldSay(none, person));
    }

    /** "and by the year of death" */
    private static void wordsAreThereByTheDeath() {
        for (int died : new int[] {1849, 1850, 1851}) {
            Scene scene = new Scene();
            int person = scene.desk.person(1800, died);
            Check.same("24 died in " + died, died >= 1850, scene.desk.couldSay(scene.book(2000, 0, 7), person));
            Check.same("24 a word of old, died in " + died, true, scene.desk.couldSay(scene.book(2000, 0, 0), person));
        }
    }

    /** "the year can be behind that" */
    private static void theYearCanBeBehindTheDeath() {
        Check.same("24 the year of death", true, couldSay(1700, 1770, 1770));
        Check.same("24 a year behind", true, couldSay(1700, 1770, 1771));
        Check.same("24 the last year", true, couldSay(1700, 1770, 2100));
        Check.same("24 dead at the age of five", true, couldSay(1700, 1705, 1710));
        Check.same("24 dead at birth", true, couldSay(1700, 1700, 1710));
    }

    /** "Tells whether all words of a document are there by its year." */
    private static void possibleTextsHaveWordsByTheYear() {
        Scene scene = new Scene();
        int last = scene.desk.word(0, 0, 2100);
        Check.same("25 a year ahead of the word", false, scene.desk.isPossible(scene.book(1849, 7)));
        Check.same("25 in the word's year", true, scene.desk.isPossible(scene.book(1850, 7)));
        Check.same("25 a year behind", true, scene.desk.isPossible(scene.book(1851, 7)));
        Check.same("25 the first of ten", false, scene.desk.isPossible(scene.book(1849, 7, 0, 0, 0, 0, 0, 0, 0, 0, 0)));
        Check.same("25 the last of ten", false, scene.desk.isPossible(scene.book(1849, 0, 0, 0, 0, 0, 0, 0, 0, 0, 7)));
        Check.same("25 the first year", true, scene.desk.isPossible(scene.book(1000, 0)));
        Check.same("25 ahead of the last year", false, scene.desk.isPossible(scene.book(2099, last)));
        Check.same("25 the last year", true, scene.desk.isPossible(scene.book(2100, last)));
    }

    /** "'w' the person is the author of the root" */
    private static void authorsOfRootsWroteThem() {
        Scene scene = new Scene();
        scene.by(Scene.ADA, 1800, Scene.ONE);
        scene.by(Scene.CYD, 1801, Scene.ONE);
        Check.same("26 w, first person", 'w', scene.desk.verdict(0, Scene.ADA));
        Check.same("26 w, of a copy", 'w', scene.desk.verdict(1, Scene.ADA));
        Check.same("26 u, the author of a copy", 'u', scene.desk.verdict(1, Scene.CYD));
        Scene nobody = new Scene();
        nobody.book(1800, Scene.ONE);
        Check.same("26 u, no author", 'u', nobody.desk.verdict(0, Scene.ADA));
        Scene young = new Scene();
        young.by(Scene.ADA, 1000, Scene.STEAM);
        Check.same("26 w, whether it goes or not", 'w', young.desk.verdict(0, Scene.ADA));
    }

    /** "'s' the root names the person, who could say it" */
    private static void whomRootsNameCouldSayThem() {
        for (int year : new int[] {1809, 1810, 1886, 2100}) {
            Scene scene = new Scene();
            scene.naming(Scene.BEN, year, Scene.ONE);
            Check.same("26 in " + year, year < 1810 ? 'm' : 's', scene.desk.verdict(0, Scene.BEN));
        }
        for (int year : new int[] {1849, 1850}) {
            Scene scene = new Scene();
            scene.naming(Scene.BEN, year, Scene.STEAM);
            Check.same("26 a word of 1850 in " + year, year < 1850 ? 'm' : 's', scene.desk.verdict(0, Scene.BEN));
        }
        Scene root = new Scene();
        root.book(1840, Scene.ONE);
        root.naming(Scene.BEN, 1850, Scene.ONE);
        Check.same("26 m, a copy names the person", 'm', root.desk.verdict(1, Scene.BEN));
        Scene rootsYear = new Scene();
        rootsYear.naming(Scene.BEN, 1809, Scene.ONE);
        rootsYear.naming(Scene.BEN, 1828, Scene.ONE);
        Check.same("19 a copy", 0, rootsYear.desk.rootOf(1));
        Check.same("26 m, by the root's year", 'm', rootsYear.desk.verdict(1, Scene.BEN));
    }

    /** "and has not denied its text by the year 2100" */
    private static void denialsUpToTheLastYearCount() {
        for (int year : new int[] {1000, 1850, 1851, 2099, 2100}) {
            Scene scene = new Scene();
            scene.naming(Scene.BEN, 1850, Scene.ONE);
            scene.denial(Scene.BEN, year, Scene.ONE);
            Check.same("26 denied in " + year, 'm', scene.desk.verdict(0, Scene.BEN));
        }
        Scene hidden = new Scene();
        hidden.naming(Scene.BEN, 1850, Scene.ONE);
        hidden.document("denial", 2100, 9, -1, Scene.BEN, 1, Scene.ONE);
        Check.same("26 a hidden denial", 's', hidden.desk.verdict(0, Scene.BEN));
        hidden.search("denial", 2100, 2100, 1, 0, Scene.ONE);
        Check.same("26 a denial that was found", 'm', hidden.desk.verdict(0, Scene.BEN));
        Scene other = new Scene();
        other.naming(Scene.BEN, 1850, Scene.ONE);
        other.denial(Scene.CYD, 1850, Scene.ONE);
        Check.same("26 denied by another one", 's', other.desk.verdict(0, Scene.BEN));
    }

    /** "is 6 at most" for a denial of the root's text, not of another version's. */
    private static void denialsAgainstRootsAreNear() {
        Check.same("26 six away", 'm', deniedBy(8, 8));
        Check.same("26 seven away", 's', deniedBy(8, 8, 8));
        Check.same("26 six left out", 'm', deniedBy(0, 1, 8, 8, 8, 8, 8, 8));
        Check.same("26 seven left out", 's', deniedBy(0, 1, 8, 8, 8, 8, 8, 8, 8));
        Scene copy = new Scene();
        copy.naming(Scene.BEN, 1850, Scene.ONE);
        copy.naming(Scene.BEN, 1851, Scene.ONE, Scene.ONE);
        copy.denial(Scene.BEN, 1900, 0, 0, 8, 8, 8, 8, 8, 8);
        Check.same("14 six to the copy", 6, copy.desk.distance(2, 1));
        Check.same("14 seven to the root", 7, copy.desk.distance(2, 0));
        Check.same("26 s of the root", 's', copy.desk.verdict(1, Scene.BEN));
    }

    private static char deniedBy(int... denied) {
        Scene scene = new Scene();
        scene.naming(Scene.BEN, 1850, Scene.ONE, Scene.TWO);
        scene.denial(Scene.BEN, 1900, denied);
        return scene.desk.verdict(0, Scene.BEN);
    }

    /** "the author of the first version, in the tree, of any tongue other than the root's" */
    private static void firstVersionsAreTranslations() {
        Scene scene = new Scene();
        WhosaidDesk desk = scene.desk;
        scene.book(1800, Scene.ONE, Scene.TWO);
        scene.by(Scene.ADA, 1801, Scene.SINGLE, Scene.TWO);
        Check.same("26 u in the root's tongue", 'u', desk.verdict(0, Scene.ADA));
        scene.by(Scene.BEN, 1810, Scene.UN, Scene.TWO);
        Check.same("26 t alone", 't', desk.verdict(0, Scene.BEN));
        scene.by(Scene.CYD, 1810, Scene.UN, Scene.TWO);
        Check.same("26 t of one year with a lower number", 't', desk.verdict(0, Scene.BEN));
        Check.same("26 u of one year with a higher number", 'u', desk.verdict(0, Scene.CYD));
        scene.by(Scene.CYD, 1809, Scene.UN, Scene.TWO);
        Check.same("26 t a year ahead", 't', desk.verdict(0, Scene.CYD));
        Check.same("26 u a year behind", 'u', desk.verdict(0, Scene.BEN));
        scene.document("book", 1805, 9, Scene.ADA, -1, 1, Scene.UN, Scene.TWO);
        Check.same("26 t, the earlier one is hidden", 't', desk.verdict(0, Scene.CYD));
        scene.search("book", 1805, 1805, 1, 0, Scene.ONE);
        Check.same("26 t, it was found", 't', desk.verdict(0, Scene.ADA));
        Check.same("26 u, it was found", 'u', desk.verdict(0, Scene.CYD));
        scene.book(1804, Scene.UN, Scene.TWO);
        Check.same("26 u, the first one has no author", 'u', desk.verdict(0, Scene.ADA));
        Check.same("21 all in one tree", 7, desk.versions(0));
    }

    /** "of any tongue": of all three others, the first and the last tongue too. */
    private static void everyOtherTongueHasAFirstVersion() {
        for (int own = 0; own < 4; own++) {
            WhosaidDesk desk = new WhosaidDesk();
            for (int tongue = 0; tongue < 4; tongue++) {
                desk.word(0, tongue, 1000);
                desk.person(1700, 1800);
            }
            add(desk, own, -1);
            for (int tongue = 0; tongue < 4; tongue++) {
                add(desk, tongue, tongue);
            }
            for (int tongue = 0; tongue < 4; tongue++) {
                char due = tongue == own ? 'u' : 't';
                Check.same("26 tongue " + tongue + " of " + own, due, desk.verdict(0, tongue));
            }
        }
    }

    private static void add(WhosaidDesk desk, int word, int author) {
        desk.say(word);
        for (char letter : "talk".toCharArray()) {
            desk.letter(letter);
        }
        desk.document(1750, 9, author, -1, 0);
    }

    /** "a version is of the tongue of its first word" */
    private static void theFirstWordTellsTheTongue() {
        Scene scene = new Scene();
        scene.book(1800, Scene.ONE, Scene.DEUX, Scene.TROIS);
        scene.by(Scene.ADA, 1801, Scene.SINGLE, Scene.DEUX, Scene.TROIS);
        scene.by(Scene.BEN, 1802, Scene.UN, Scene.DEUX, Scene.TROIS);
        Check.same("26 u, the others are foreign in the root too", 'u', scene.desk.verdict(0, Scene.ADA));
        Check.same("26 t, the first one is foreign", 't', scene.desk.verdict(0, Scene.BEN));
    }

    /** "that has most versions below it, at least one" */
    private static void popularOnesHaveOneBelow() {
        Scene scene = new Scene();
        scene.by(Scene.CYD, 1800, 0, 1, 2, 8);
        Check.same("26 u, the root alone", 'u', scene.desk.verdict(0, Scene.ADA));
        scene.by(Scene.ADA, 1801, 0, 1, 2, 8, 8);
        Check.same("23 none below", 0, scene.desk.below(1));
        Check.same("26 u, none below", 'u', scene.desk.verdict(0, Scene.ADA));
        Check.same("26 w, the root does not count", 'w', scene.desk.verdict(0, Scene.CYD));
        scene.book(1802, 0, 1, 2, 8, 8);
        Check.same("23 one below", 1, scene.desk.below(1));
        Check.same("26 p, one below", 'p', scene.desk.verdict(0, Scene.ADA));
    }

    /** "that has most versions below it": through others too. */
    private static void popularOnesHaveMostBelow() {
        Scene scene = new Scene();
        scene.book(1800, 0, 1, 2, 8);
        scene.by(Scene.ADA, 1801, 0, 1, 2, 8, 8);
        scene.by(Scene.BEN, 1802, 0, 0, 1, 2, 8);
        scene.book(1803, 0, 1, 2, 8, 8);
        scene.book(1804, 0, 0, 1, 2, 8);
        Check.same("26 p, one and one", 'p', scene.desk.verdict(0, Scene.ADA));
        scene.book(1805, 0, 0, 4, 2, 8);
        Check.same("17 of the other one", 2, scene.desk.source(5));
        Check.same("26 p, two below", 'p', scene.desk.verdict(0, Scene.BEN));
        Check.same("26 u, one below", 'u', scene.desk.verdict(0, Scene.ADA));
        scene.by(Scene.CYD, 1806, 0, 1, 2, 8, 8, 7);
        scene.book(1807, 0, 1, 2, 8, 8, 7, 7);
        Check.same("23 three, two of them direct", 3, scene.desk.below(1));
        Check.same("26 p, three below", 'p', scene.desk.verdict(0, Scene.ADA));
        Check.same("26 u, one below that one", 'u', scene.desk.verdict(0, Scene.CYD));
    }

    /** "of several the first one by years" */
    private static void ofSeveralTheFirstOneIsPopular() {
        for (int year : new int[] {1809, 1810, 1811}) {
            Scene scene = new Scene();
            scene.book(1800, 0, 1, 2, 8);
            scene.by(Scene.ADA, 1810, 0, 1, 2, 8, 8);
            scene.by(Scene.BEN, year, 0, 0, 1, 2, 8);
            scene.book(1812, 0, 1, 2, 8, 8);
            scene.book(1812, 0, 0, 1, 2, 8);
            Check.same("23 one", 1, scene.desk.below(1));
            Check.same("23 one too", 1, scene.desk.below(2));
            Check.same("26 of 1810, against " + year, year < 1810 ? 'u' : 'p', scene.desk.verdict(0, Scene.ADA));
            Check.same("26 of " + year, year < 1810 ? 'p' : 'u', scene.desk.verdict(0, Scene.BEN));
        }
    }

    /** "'m' a version in the tree names the person; otherwise 'u'" */
    private static void namesOfTheTreeAreMistakes() {
        Scene scene = new Scene();
        scene.book(1800, Scene.ONE);
        scene.naming(Scene.BEN, 1801, 8, 8, 8, 8, 8, 8);
        scene.denial(Scene.BEN, 1802, Scene.ONE);
        scene.document("book", 1803, 9, -1, Scene.BEN, 1, Scene.ONE);
        Check.same("26 u, another tree, a denial and a hidden one name the person", 'u', scene.desk.verdict(0, Scene.BEN));
        scene.search("book", 1803, 1803, 1, 0, Scene.ONE);
        Check.same("19 found in this tree", 0, scene.desk.rootOf(3));
        Check.same("26 m, a version of the tree does", 'm', scene.desk.verdict(0, Scene.BEN));
        Check.same("26 u, nobody names the other one", 'u', scene.desk.verdict(0, Scene.CYD));
        Scene first = new Scene();
        first.naming(Scene.ADA, 1709, Scene.ONE);
        Check.same("26 m, the root does, who could not say it", 'm', first.desk.verdict(0, Scene.ADA));
    }

    /** "Returns since when a person is named in the tree of a version."; "if the person is not" */
    private static void namedSinceTheFirstYear() {
        Scene scene = new Scene();
        scene.book(1800, Scene.ONE);
        Check.absent("27 nobody is named", () -> scene.desk.since(0, Scene.ADA));
        scene.naming(Scene.ADA, 1805, Scene.ONE);
        Check.same("27 named once", 1805, scene.desk.since(0, Scene.ADA));
        scene.naming(Scene.ADA, 1805, Scene.ONE);
        scene.naming(Scene.ADA, 1806, Scene.ONE);
        Check.same("27 named later", 1805, scene.desk.since(3, Scene.ADA));
        scene.naming(Scene.ADA, 1804, Scene.ONE);
        Check.same("27 named earlier", 1804, scene.desk.since(1, Scene.ADA));
        scene.naming(Scene.ADA, 1799, Scene.ONE);
        Check.same("27 named by the root", 1799, scene.desk.since(0, Scene.ADA));
        Check.absent("27 the other one is not named", () -> scene.desk.since(0, Scene.BEN));
        scene.naming(Scene.BEN, 1700, 8, 8, 8, 8, 8, 8);
        Check.absent("27 nor in this tree", () -> scene.desk.since(0, Scene.BEN));
        Scene edges = new Scene();
        edges.naming(Scene.CYD, 1000, Scene.ONE);
        edges.naming(Scene.CYD, 2100, 8, 8, 8, 8, 8, 8);
        Check.same("27 the first year", 1000, edges.desk.since(0, Scene.CYD));
        Check.same("27 the last year", 2100, edges.desk.since(1, Scene.CYD));
    }

    /** "whose years have all from 30 ahead of the root's year to 1 ahead of it" */
    private static void searchesHaveAllYearsFromThirtyAhead() {
        Check.same("28 just these years", 20, sure(1800, 1770, 1799));
        Check.same("28 a year more at both ends", 20, sure(1800, 1769, 1800));
        Check.same("28 all years", 20, sure(1800, 1000, 2100));
        Check.same("28 the first one not", 0, sure(1800, 1771, 1799));
        Check.same("28 the last one not", 0, sure(1800, 1770, 1798));
        Check.same("28 only the year itself", 0, sure(1800, 1800, 1800));
    }

    /** How sure the root of this year is by one search of the greatest depth. */
    private static int sure(int year, int from, int to) {
        Scene scene = new Scene();
        scene.book(year, Scene.ONE);
        scene.search("book", from, to, 100, 0, Scene.TWO);
        return scene.desk.sure(0);
    }

    /** "also years that cannot be searched" */
    private static void yearsThatCannotBeSearched() {
        Check.same("28 thirty years behind the first one", 20, sure(1030, 1000, 1029));
        Check.same("28 twenty-nine years behind it", 0, sure(1029, 1000, 1028));
        Check.same("28 twenty-nine years behind it, all searched", 0, sure(1029, 1000, 2100));
        Check.same("28 a year behind it", 0, sure(1001, 1000, 2100));
        Check.same("28 the first year", 0, sure(1000, 1000, 2100));
        Check.same("28 the last year", 20, sure(2100, 2070, 2099));
    }

    /** "of the greatest depth of a logged search of this kind" */
    private static void oneSearchHasAllYears() {
        Scene scene = new Scene();
        scene.book(1800, Scene.ONE);
        scene.search("talk", 1770, 1784, 100, 0, Scene.TWO);
        scene.search("talk", 1785, 1799, 100, 0, Scene.TWO);
        Check.same("28 not two halves", 0, scene.desk.sure(0));
        scene.search("talk", 1770, 1799, 50, 0, Scene.TWO);
        Check.same("28 one whole", 10, scene.desk.sure(0));
        scene.search("talk", 1770, 1799, 49, 0, Scene.TWO);
        Check.same("28 not the last one", 10, scene.desk.sure(0));
        scene.search("talk", 1770, 1799, 55, 0, Scene.TWO);
        Check.same("28 the greatest depth, not their sum", 11, scene.desk.sure(0));
        scene.type("talk");
        Check.argument("10 refused", () -> scene.desk.search(1770, 1799, 101, 0));
        Check.same("28 what was refused was not logged", 11, scene.desk.sure(0));
    }

    /** "divided by 5, cut" */
    private static void hundredthsAreCut() {
        for (int depth = 1; depth <= 10; depth++) {
            Scene scene = new Scene();
            scene.book(1800, Scene.ONE);
            scene.search("letter", 1000, 2100, depth, 0, Scene.TWO);
            Check.same("28 depth " + depth, depth / 5, scene.desk.sure(0));
        }
        Scene scene = new Scene();
        scene.book(1800, Scene.ONE);
        for (int kind = 0; kind < 5; kind++) {
            Check.same("28 one of each of " + kind, 0, scene.desk.sure(0));
            scene.search(VERSION_KINDS[kind], 1000, 2100, 1, 0, Scene.TWO);
        }
        Check.same("28 the sum is cut, not its parts", 1, scene.desk.sure(0));
    }

    /** "over the five kinds but denials" */
    private static void hundredthsAreHundredAtMost() {
        Scene scene = new Scene();
        scene.book(1800, Scene.ONE);
        Check.same("28 without searches", 0, scene.desk.sure(0));
        scene.search("denial", 1000, 2100, 100, 0, Scene.TWO);
        Check.same("28 denials do not count", 0, scene.desk.sure(0));
        for (int kind = 0; kind < 5; kind++) {
            scene.search(VERSION_KINDS[kind], 1000, 2100, 100, 0, Scene.TWO);
            Check.same("28 kinds", 20 * (kind + 1), scene.desk.sure(0));
        }
        for (int many = 6; many < 20; many++) {
            scene.search("book", 1000, 2100, 100, 0, Scene.TWO);
        }
        Check.same("11 all that go", 20, scene.desk.searches());
        Check.same("28 no more than all", 100, scene.desk.sure(0));
    }

    /** "two versions have unlike roots" */
    private static void parallelsHaveUnlikeRoots() {
        Scene scene = new Scene();
        scene.book(1800, 0, 1, 2, 8);
        scene.book(1801, 0, 1, 2, 8);
        scene.book(1801, 0, 1, 3, 0);
        Check.same("29 itself", false, scene.desk.areParallel(0, 0));
        Check.same("29 one root, one text", false, scene.desk.areParallel(0, 1));
        Check.same("29 copies of one root", false, scene.desk.areParallel(1, 1));
        Check.same("19 another root", 2, scene.desk.rootOf(2));
        Check.same("29 unlike roots", true, scene.desk.areParallel(0, 2));
        Check.same("29 a copy's root", true, scene.desk.areParallel(1, 2));
    }

    /** "whose texts are near"; "the distance of the first one, as it is named, to the other one is 6 at most" */
    private static void parallelsAreNearBySix() {
        Scene scene = new Scene();
        scene.book(1800, 0, 1);
        scene.book(1800, 8, 7);
        scene.book(1800, 0, 1, 2, 2, 2, 2, 2, 2);
        scene.book(1800, 0, 1, 7, 7, 7, 7, 7, 7, 7);
        Check.same("14 six", 6, scene.desk.distance(0, 1));
        Check.same("29 six", true, scene.desk.areParallel(0, 1));
        Check.same("14 six left out", 6, scene.desk.distance(2, 0));
        Check.same("29 six left out", true, scene.desk.areParallel(2, 0));
        Check.same("29 six put in", false, scene.desk.areParallel(0, 2));
        Check.same("14 seven left out", 7, scene.desk.distance(3, 0));
        Check.same("29 seven left out", false, scene.desk.areParallel(3, 0));
        Check.same("29 seven put in", false, scene.desk.areParallel(0, 3));
        Check.same("45 all are origins", 1.0f, scene.desk.originShare());
    }

    /** "and at least 3 origins that name nobody, it among them" */
    private static void threeOriginsMakeAProverb() {
        Scene scene = new Scene();
        scene.book(1800, 0, 1);
        Check.same("30 one", false, scene.desk.isProverb(0));
        scene.book(1800, 8, 7);
        Check.same("30 two", false, scene.desk.isProverb(0));
        scene.book(1801, 0, 1);
        Check.same("30 a copy is none", false, scene.desk.isProverb(0));
        scene.document("book", 1800, 9, -1, -1, 1, 2, 2);
        Check.same("30 a hidden one is none", false, scene.desk.isProverb(0));
        scene.search("book", 1800, 1800, 1, 0, Scene.THREE);
        Check.same("45 three origins of four", 0.75f, scene.desk.originShare());
        Check.same("30 three", true, scene.desk.isProverb(0));
        Check.same("30 three, of a copy", true, scene.desk.isProverb(2));
        scene.book(1800, scene.desk.word(5, 0, 1000), scene.desk.word(6, 0, 1000));
        Check.same("30 four", true, scene.desk.isProverb(0));
    }

    /** "have texts that are near to its text" */
    private static void proverbsAreNearBySix() {
        Check.same("30 six away", true, isProverbWith(2, 2));
        Check.same("30 six left out", true, isProverbWith(0, 1, 2, 2, 2, 2, 2, 2));
        Check.same("30 seven left out", false, isProverbWith(0, 1, 2, 2, 2, 2, 2, 2, 2));
        Check.same("30 far away", false, isProverbWith(2, 2, 2, 2, 2, 2, 2, 2));
    }

    private static boolean isProverbWith(int... third) {
        Scene scene = new Scene();
        scene.book(1800, 0, 1);
        scene.book(1800, 8, 7);
        scene.book(1800, third);
        Check.same("45 three origins", 1.0f, scene.desk.originShare());
        return scene.desk.isProverb(0);
    }

    /** "whether the root of a version names nobody" */
    private static void proverbsNameNobody() {
        for (int named = 0; named < 3; named++) {
            Scene scene = new Scene();
            for (int each = 0; each < 3; each++) {
                int said = each == named ? Scene.CYD : Scene.NOBODY;
                int[] text = each == 0 ? new int[] {0, 1} : each == 1 ? new int[] {8, 7} : new int[] {2, 2};
                scene.document("book", 1800, 9, -1, said, 0, text);
            }
            Check.same("45 three origins", 1.0f, scene.desk.originShare());
            Check.same("30 two that name nobody", false, scene.desk.isProverb((named + 1) % 3));
            scene.book(1800, scene.desk.word(5, 0, 1000), scene.desk.word(6, 0, 1000));
            Check.same("30 three that name nobody", true, scene.desk.isProverb((named + 1) % 3));
            Check.same("30 a root that names somebody", false, scene.desk.isProverb(named));
        }
    }

    /** "Throws IndexOutOfBoundsException if there is no such document or person" */
    private static void peopleAreThere() {
        absentPeople("24 couldSay", (desk, person) -> desk.couldSay(0, person));
        absentPeople("26 verdict", (desk, person) -> desk.verdict(0, person));
        absentPeople("27 since", (desk, person) -> desk.since(0, person));
    }

    private static void absentPeople(String what, Check.Asked call) {
        Scene scene = new Scene();
        scene.naming(Scene.ADA, 1800, Scene.ONE);
        scene.naming(Scene.CYD, 1801, Scene.ONE);
        Check.index(what + " of nobody", () -> call.answer(scene.desk, -1));
        Check.index(what + " behind the last one", () -> call.answer(scene.desk, 3));
        for (int far : Check.FAR) {
            Check.index(what + " of " + far, () -> call.answer(scene.desk, far));
        }
        Check.goes(what + " of the first one", () -> call.answer(scene.desk, 0));
        Check.goes(what + " of the last one", () -> call.answer(scene.desk, 2));
    }

    /** "Throws IndexOutOfBoundsException if there is no such document, for either" */
    private static void documentsAreThere() {
        absentDocuments("24 couldSay", (desk, document) -> desk.couldSay(document, 0));
        absentDocuments("25 isPossible", (desk, document) -> desk.isPossible(document));
        absentDocuments("26 verdict", (desk, document) -> desk.verdict(document, 0));
        absentDocuments("27 since", (desk, document) -> desk.since(document, 0));
        absentDocuments("28 sure", (desk, document) -> desk.sure(document));
        absentDocuments("29 areParallel", (desk, document) -> desk.areParallel(document, 1));
        absentDocuments("29 areParallel, other", (desk, document) -> desk.areParallel(1, document));
        absentDocuments("30 isProverb", (desk, document) -> desk.isProverb(document));
    }

    private static void absentDocuments(String what, Check.Asked call) {
        Scene scene = new Scene();
        Check.index(what + " of none", () -> call.answer(scene.desk, 0));
        scene.naming(Scene.ADA, 1800, Scene.ONE);
        scene.naming(Scene.ADA, 1800, Scene.ONE);
        Check.goes(what + " of the first one", () -> call.answer(scene.desk, 0));
        Check.goes(what + " of the last one", () -> call.answer(scene.desk, 1));
        Check.index(what + " of -1", () -> call.answer(scene.desk, -1));
        Check.index(what + " behind the last one", () -> call.answer(scene.desk, 2));
        for (int far : Check.FAR) {
            Check.index(what + " of " + far, () -> call.answer(scene.desk, far));
        }
    }

    /** "Throws UnsupportedOperationException if it is no version"; "if one is no version" */
    private static void versionsAreAskedFor() {
        needsVersion("26 verdict", (desk, document) -> desk.verdict(document, 0));
        needsVersion("27 since", (desk, document) -> desk.since(document, 0));
        needsVersion("28 sure", (desk, document) -> desk.sure(document));
        needsVersion("29 areParallel", (desk, document) -> desk.areParallel(document, 3));
        needsVersion("29 areParallel, other", (desk, document) -> desk.areParallel(3, document));
        needsVersion("29 areParallel, both", (desk, document) -> desk.areParallel(document, document));
        needsVersion("30 isProverb", (desk, document) -> desk.isProverb(document));
        Scene scene = new Scene();
        scene.document("book", 1800, 9, -1, -1, 100, Scene.ONE);
        scene.denial(Scene.ADA, 1800, Scene.ONE);
        Check.same("24 known or not", true, scene.desk.couldSay(0, Scene.ADA));
        Check.same("24 a denial too", true, scene.desk.couldSay(1, Scene.ADA));
        Check.same("25 known or not", true, scene.desk.isPossible(0));
        Check.same("25 a denial too", true, scene.desk.isPossible(1));
    }

    private static void needsVersion(String what, Check.Asked call) {
        Scene scene = new Scene();
        scene.document("book", 1800, 9, -1, Scene.ADA, 1, Scene.ONE);
        scene.denial(Scene.ADA, 1800, Scene.ONE);
        scene.document("denial", 1800, 9, -1, Scene.ADA, 1, Scene.ONE);
        scene.naming(Scene.ADA, 1800, Scene.ONE);
        Check.unsupported(what + " of a hidden one", () -> call.answer(scene.desk, 0));
        Check.unsupported(what + " of a denial", () -> call.answer(scene.desk, 1));
        Check.unsupported(what + " of a hidden denial", () -> call.answer(scene.desk, 2));
        Check.goes(what + " of a version", () -> call.answer(scene.desk, 3));
        scene.search("book", 1800, 1800, 1, 0, Scene.ONE);
        Check.goes(what + " of one that was found", () -> call.answer(scene.desk, 0));
    }
}
