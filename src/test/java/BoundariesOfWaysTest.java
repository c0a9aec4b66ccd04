/** The boundary cases of "Denials" and "Ways" and of promises 17 to 23, each behind the sentence that names it. */
final class BoundariesOfWaysTest {
    private BoundariesOfWaysTest() {
    }

    public static void main(String[] args) {
        originsCostByTrust();
        yearsFromTenBehindTheBirth();
        yearsToFiveBehindTheDeath();
        livesMayBeTooShortForAny();
        denialsAreOfThisYearOrAnEarlierOne();
        denialsAreNearBySix();
        denialsMeasureFromTheirText();
        denialsAreKnown();
        denialsNameThisPerson();
        copiesCostByTheirDistance();
        twentyYearsAreWhole();
        elevenHundredYearsAreTheMost();
        onlyAnotherNameCosts();
        fameMakesNamesCheapDownToOne();
        fameIsThatOfItsYear();
        deniedNamesCostMore();
        namesThatStayAreNotDenied();
        costsOfTheDearest();
        originsGoAheadOfCopies();
        copiesOfLowerNumbersGoAhead();
        sourcesAreAhead();
        sourcesAreVersions();
        originsHaveNoSource();
        chainsAreOneToThirty();
        treesAreOneToThirty();
        indexesAreInRange();
        versionsAreAskedFor();
        Check.end();
    }

    /** "An origin costs 40, 9 less its trust" */
    private static void originsCostByTrust() {
        Check.same("18 trust 9", 40, costOfOrigin(9, Scene.NOBODY, 1800));
        Check.same("18 trust 8", 41, costOfOrigin(8, Scene.NOBODY, 1800));
        Check.same("18 trust 1", 48, costOfOrigin(1, Scene.NOBODY, 1800));
        Check.same("18 trust 0", 49, costOfOrigin(0, Scene.NOBODY, 1800));
    }

    private static int costOfOrigin(int trust, int said, int year) {
        Scene scene = new Scene();
        return scene.desk.cost(scene.document("paper", year, trust, -1, said, 0, Scene.ONE, Scene.TWO));
    }

    /** "20 if its year is not from 10 years behind the birth" */
    private static void yearsFromTenBehindTheBirth() {
        Check.same("18 the first year of all", 60, costOfOrigin(9, Scene.ADA, 1000));
        Check.same("18 the year of birth", 60, costOfOrigin(9, Scene.ADA, 1700));
        Check.same("18 nine years behind", 60, costOfOrigin(9, Scene.ADA, 1709));
        Check.same("18 ten years behind", 40, costOfOrigin(9, Scene.ADA, 1710));
    }

    /** "to 5 behind the death of this one" */
    private static void yearsToFiveBehindTheDeath() {
        Check.same("18 the year of death", 40, costOfOrigin(9, Scene.ADA, 1770));
        Check.same("18 five years behind", 40, costOfOrigin(9, Scene.ADA, 1775));
        Check.same("18 six years behind", 60, costOfOrigin(9, Scene.ADA, 1776));
        Check.same("18 the last year of all", 60, costOfOrigin(9, Scene.ADA, 2100));
    }

    /** "from 10 years behind the birth to 5 behind the death": a life of five years leaves one year, a shorter one none. */
    private static void livesMayBeTooShortForAny() {
        for (int year = 1808; year <= 1812; year++) {
            Check.same("18 a life of five years, " + year, year == 1810 ? 40 : 60, costByLife(1800, 1805, year));
            Check.same("18 a life of four years, " + year, 60, costByLife(1800, 1804, year));
            Check.same("18 a life of no year, " + year, 60, costByLife(1800, 1800, year));
        }
        Check.same("18 born last of all", 60, costByLife(2100, 2100, 2100));
        Check.same("18 born ten years ahead of the last year", 40, costByLife(2090, 2100, 2100));
        Check.same("18 born nine years ahead of the last year", 60, costByLife(2091, 2100, 2100));
        Check.same("18 all years", 40, costByLife(1000, 2100, 1010));
    }

    private static int costByLife(int born, int died, int year) {
        Scene scene = new Scene();
        int person = scene.desk.person(born, died);
        return scene.desk.cost(scene.naming(person, year, Scene.ONE));
    }

    /** "a known denial which names this person, of this year or an earlier one" */
    private static void denialsAreOfThisYearOrAnEarlierOne() {
        Check.same("18 the first year", 55, costDenied(1000, 1750));
        Check.same("18 a year ahead", 55, costDenied(1749, 1750));
        Check.same("18 this year", 55, costDenied(1750, 1750));
        Check.same("18 a year behind", 40, costDenied(1751, 1750));
        Check.same("18 the last year", 40, costDenied(2100, 1750));
        Check.same("18 both in the last year", 75, costDenied(2100, 2100));
    }

    private static int costDenied(int denied, int year) {
        Scene scene = new Scene();
        scene.denial(Scene.ADA, denied, Scene.ONE, Scene.TWO);
        return scene.desk.cost(scene.naming(Scene.ADA, year, Scene.ONE, Scene.TWO));
    }

    /** "Two texts are near if the distance ... is 6 at most." */
    private static void denialsAreNearBySix() {
        Check.same("18 none away", 55, costDeniedBy(0, 1));
        Check.same("18 one away", 55, costDeniedBy(0, 4));
        Check.same("18 three away", 55, costDeniedBy(0, 8));
        Check.same("18 six away", 55, costDeniedBy(8, 8));
        Check.same("18 seven away", 40, costDeniedBy(8, 8, 8));
        Check.same("18 twelve away", 40, costDeniedBy(8, 8, 8, 8, 8, 8, 8, 8));
    }

    private static int costDeniedBy(int... denied) {
        Scene scene = new Scene();
        scene.denial(Scene.ADA, 1750, denied);
        return scene.desk.cost(scene.naming(Scene.ADA, 1750, Scene.ONE, Scene.TWO));
    }

    /** "by the distance of the denial's text to it" */
    private static void denialsMeasureFromTheirText() {
        Check.same("18 six left out", 55, costDeniedBy(0, 1, 8, 8, 8, 8, 8, 8));
        Check.same("18 seven left out", 40, costDeniedBy(0, 1, 8, 8, 8, 8, 8, 8, 8));
        Scene three = new Scene();
        three.denial(Scene.ADA, 1750, Scene.ONE);
        Check.same("18 three put in", 55, three.desk.cost(three.naming(Scene.ADA, 1750, 0, 8, 8, 8)));
        Scene more = new Scene();
        more.denial(Scene.ADA, 1750, Scene.ONE);
        Check.same("18 three put in and one changed", 40, more.desk.cost(more.naming(Scene.ADA, 1750, 3, 8, 8, 8)));
    }

    /** "if there is a known denial" */
    private static void denialsAreKnown() {
        Scene scene = new Scene();
        scene.document("denial", 1750, 9, -1, Scene.ADA, 1, Scene.ONE);
        int named = scene.naming(Scene.ADA, 1750, Scene.ONE);
        Check.same("18 a hidden denial", 40, scene.desk.cost(named));
        scene.search("book", 1750, 1750, 100, 0, Scene.ONE);
        Check.same("18 another kind was searched", 40, scene.desk.cost(named));
        scene.search("denial", 1750, 1750, 1, 0, Scene.ONE);
        Check.same("18 a denial that was found", 55, scene.desk.cost(named));
        Scene other = new Scene();
        other.document("letter", 1740, 9, Scene.ADA, Scene.ADA, 0, 8, 8, 8, 8, 8, 8);
        Check.same("18 other kinds deny nothing", 40, other.desk.cost(other.naming(Scene.ADA, 1750, 8, 8, 0, 0, 0, 0)));
    }

    /** "which names this person" */
    private static void denialsNameThisPerson() {
        Scene scene = new Scene();
        scene.document("denial", 1750, 9, Scene.ADA, Scene.BEN, 0, Scene.ONE);
        Check.same("18 an author denies nothing for herself", 40, scene.desk.cost(scene.naming(Scene.ADA, 1760, 0)));
        Scene nobody = new Scene();
        nobody.denial(Scene.ADA, 1750, Scene.ONE);
        Check.same("18 nobody has denied", 40, nobody.desk.cost(nobody.book(1760, Scene.ONE)));
        Scene several = new Scene();
        several.denial(Scene.BEN, 1700, Scene.ONE);
        several.denial(Scene.ADA, 1700, Scene.ONE);
        several.denial(Scene.ADA, 1700, Scene.ONE);
        Check.same("18 several denials count once", 55, several.desk.cost(several.naming(Scene.ADA, 1760, 0)));
    }

    /** "A copy costs 10 times the distance of the text from which it is copied to its own" */
    private static void copiesCostByTheirDistance() {
        Check.same("18 none away", 0, costOfCopy(1800, 0, 1, 2, 8));
        Check.same("18 one away", 10, costOfCopy(1800, 3, 1, 2, 8));
        Check.same("18 three away", 30, costOfCopy(1800, 3, 4, 5, 8));
        Check.same("18 one left out", 10, costOfCopy(1800, 0, 1, 2));
        Check.same("18 one put in", 20, costOfCopy(1800, 0, 1, 2, 8, 8));
        Check.same("18 another concept", 30, costOfCopy(1800, 0, 1, 2, 0));
        Check.same("18 more than an origin", 40, costOfCopy(1800, 3, 4, 2, 0));
    }

    /** What a copy of full trust costs, by its year and text, behind "0 1 2 8" of the year 1800. */
    private static int costOfCopy(int year, int... text) {
        Scene scene = new Scene();
        scene.book(1800, 0, 1, 2, 8);
        return scene.desk.cost(scene.book(year, text));
    }

    /** "1 for each 20 whole years between" */
    private static void twentyYearsAreWhole() {
        Check.same("18 no years", 0, costOfCopy(1800, 0, 1, 2, 8));
        Check.same("18 nineteen years", 0, costOfCopy(1819, 0, 1, 2, 8));
        Check.same("18 twenty years", 1, costOfCopy(1820, 0, 1, 2, 8));
        Check.same("18 thirty-nine years", 1, costOfCopy(1839, 0, 1, 2, 8));
        Check.same("18 forty years", 2, costOfCopy(1840, 0, 1, 2, 8));
        Check.same("18 three hundred years", 15, costOfCopy(2100, 0, 1, 2, 8));
    }

    /** "Years are 1000 to 2100.": no more lies between. */
    private static void elevenHundredYearsAreTheMost() {
        Scene scene = new Scene();
        scene.naming(Scene.ADA, 1000, Scene.ONE);
        int last = scene.naming(Scene.ADA, 2100, Scene.ONE);
        Check.same("18 eleven hundred years", 55, scene.desk.cost(last));
        Check.same("17 eleven hundred years", 0, scene.desk.source(last));
        Scene nearly = new Scene();
        nearly.naming(Scene.ADA, 1001, Scene.ONE);
        Check.same("18 a year less", 54, nearly.desk.cost(nearly.naming(Scene.ADA, 2100, Scene.ONE)));
    }

    /** "and, if it names another one: 2 if nobody" */
    private static void onlyAnotherNameCosts() {
        Check.same("18 nobody, then nobody", 0, costOfNames(-1, -1, 0));
        Check.same("18 one, then the same one", 0, costOfNames(Scene.BEN, Scene.BEN, 0));
        Check.same("18 one, then nobody", 2, costOfNames(Scene.BEN, -1, 0));
        Check.same("18 nobody, then one", 20, costOfNames(-1, Scene.BEN, 0));
        Check.same("18 one, then another one", 20, costOfNames(Scene.CYD, Scene.BEN, 0));
        Check.same("18 the first of all, then another one", 20, costOfNames(Scene.ADA, Scene.BEN, 0));
    }

    private static int costOfNames(int first, int second, int fame) {
        Scene scene = new Scene();
        scene.desk.setFame(Scene.BEN, fame, 0, 1000);
        scene.document("book", 1810, 9, -1, first, 0, Scene.ONE);
        return scene.desk.cost(scene.document("book", 1810, 9, -1, second, 0, Scene.ONE));
    }

    /** "otherwise 20 less the fame of whom it names in its year, at least 1" */
    private static void fameMakesNamesCheapDownToOne() {
        Check.same("18 fame 0", 20, costOfNames(-1, Scene.BEN, 0));
        Check.same("18 fame 1", 19, costOfNames(-1, Scene.BEN, 1));
        Check.same("18 fame 18", 2, costOfNames(-1, Scene.BEN, 18));
        Check.same("18 fame 19", 1, costOfNames(-1, Scene.BEN, 19));
        Check.same("18 fame 20", 1, costOfNames(-1, Scene.BEN, 20));
        Check.same("18 fame does not make a lost name cheap", 2, costOfNames(Scene.BEN, -1, 20));
    }

    /** "the fame of whom it names in its year" */
    private static void fameIsThatOfItsYear() {
        for (int from : new int[] {1839, 1840, 1841}) {
            Scene scene = new Scene();
            scene.desk.setFame(Scene.BEN, 15, 10, from);
            scene.book(1830, Scene.ONE);
            int due = from == 1841 ? 20 : from == 1840 ? 5 : 4;
            Check.same("18 famous from " + from, due, scene.desk.cost(scene.naming(Scene.BEN, 1840, Scene.ONE)));
        }
        Scene later = new Scene();
        later.book(1830, Scene.ONE);
        later.naming(Scene.BEN, 1840, Scene.ONE);
        Check.same("18 not yet famous", 20, later.desk.cost(1));
        later.desk.setFame(Scene.BEN, 15, 0, 1840);
        Check.same("18 all is found anew with fame", 5, later.desk.cost(1));
    }

    /** "and 15 if that one has denied its text by its year" */
    private static void deniedNamesCostMore() {
        for (int denied : new int[] {1000, 1839, 1840, 1841, 2100}) {
            Scene scene = new Scene();
            scene.desk.setFame(Scene.BEN, 15, 0, 1000);
            scene.denial(Scene.BEN, denied, Scene.ONE);
            scene.book(1830, Scene.ONE);
            int due = denied <= 1840 ? 20 : 5;
            Check.same("18 denied in " + denied, due, scene.desk.cost(scene.naming(Scene.BEN, 1840, Scene.ONE)));
        }
        Scene other = new Scene();
        other.desk.setFame(Scene.BEN, 15, 0, 1000);
        other.denial(Scene.CYD, 1700, Scene.ONE);
        other.naming(Scene.CYD, 1810, Scene.ONE);
        Check.same("18 denied by the one named ahead", 5, other.desk.cost(other.naming(Scene.BEN, 1810, Scene.ONE)));
        Check.same("18 a denied name that is lost", 2, other.desk.cost(other.document("book", 1810, 0, -1, -1, 0, 0)));
    }

    /** "if it names another one": otherwise no name costs, denied or not. */
    private static void namesThatStayAreNotDenied() {
        Scene scene = new Scene();
        scene.denial(Scene.BEN, 1800, Scene.ONE);
        int first = scene.naming(Scene.BEN, 1840, Scene.ONE);
        int second = scene.naming(Scene.BEN, 1840, Scene.ONE);
        Check.same("18 an origin", 55, scene.desk.cost(first));
        Check.same("18 a copy with the same name", 0, scene.desk.cost(second));
        Check.same("17 a copy with the same name", first, scene.desk.source(second));
    }

    /** "Each version came about by the way that costs least": up to the dearest origin. */
    private static void costsOfTheDearest() {
        Scene scene = new Scene();
        scene.denial(Scene.ADA, 1000, Scene.ONE);
        int dear = scene.document("book", 2100, 0, -1, Scene.ADA, 0, Scene.ONE);
        Check.same("18 no trust, out of time, denied", 84, scene.desk.cost(dear));
        int free = scene.document("book", 2100, 0, -1, Scene.ADA, 0, Scene.ONE);
        Check.same("18 a copy for nothing", 0, scene.desk.cost(free));
    }

    /** "an origin ahead of copies" */
    private static void originsGoAheadOfCopies() {
        for (int trust = 8; trust <= 9; trust++) {
            Scene scene = new Scene();
            scene.book(1800, 0, 1, 2, 8);
            int four = scene.document("book", 1800, trust, -1, -1, 0, 3, 4, 2, 8, 8);
            Check.same("14 four away", 4, scene.desk.distance(0, four));
            Check.same("18 forty", 40, scene.desk.cost(four));
            Check.same("20 an origin for the same, a copy for less", trust == 9 ? 1 : 2, scene.desk.chain(four));
        }
    }

    /** "copies of lower numbers ahead" */
    private static void copiesOfLowerNumbersGoAhead() {
        Scene scene = new Scene();
        int high = scene.book(1800, Scene.ONE);
        int copy = scene.book(1819, Scene.ONE);
        int early = scene.book(1800, Scene.ONE);
        Check.same("17 the lower one of one year", high, scene.desk.source(copy));
        int earlier = scene.book(1799, Scene.ONE);
        Check.same("17 the lower one, not the earlier one", high, scene.desk.source(copy));
        Check.same("17 the only one ahead", earlier, scene.desk.source(high));
        Check.same("17 the lower one of those ahead", high, scene.desk.source(early));
        Scene cheaper = new Scene();
        cheaper.book(1800, Scene.ONE);
        int nearer = cheaper.book(1801, Scene.ONE);
        Check.same("17 a higher one for less", nearer, cheaper.desk.source(cheaper.book(1820, Scene.ONE)));
    }

    /** "or a copy of a version ahead of it"; "by years, of one year by numbers" */
    private static void sourcesAreAhead() {
        Scene scene = new Scene();
        int middle = scene.book(1800, Scene.ONE);
        int behind = scene.book(1801, Scene.ONE);
        Check.absent("17 none a year behind", () -> scene.desk.source(middle));
        Check.same("17 one a year ahead", middle, scene.desk.source(behind));
        int same = scene.book(1800, Scene.ONE);
        Check.absent("17 none of one year with a higher number", () -> scene.desk.source(middle));
        Check.same("17 one of one year with a lower number", middle, scene.desk.source(same));
        int ahead = scene.book(1799, Scene.ONE);
        Check.same("17 a higher number a year ahead", ahead, scene.desk.source(middle));
        Check.absent("17 none is ahead of it", () -> scene.desk.source(ahead));
    }

    /** "All known documents that are no denials are versions." */
    private static void sourcesAreVersions() {
        Scene scene = new Scene();
        scene.document("book", 1800, 9, -1, Scene.BEN, 1, Scene.ONE);
        scene.denial(Scene.BEN, 1800, Scene.ONE);
        int version = scene.document("book", 1810, 9, -1, Scene.CYD, 0, Scene.ONE);
        Check.absent("17 neither a hidden one nor a denial", () -> scene.desk.source(version));
        scene.document("book", 1805, 9, -1, Scene.CYD, 1, Scene.ONE);
        scene.search("book", 1805, 1805, 1, 0, Scene.ONE);
        Check.same("17 once it was found", 3, scene.desk.source(version));
    }

    /** "Throws NoSuchElementException if it is an origin" */
    private static void originsHaveNoSource() {
        Scene scene = new Scene();
        scene.book(1800, Scene.ONE);
        Check.absent("17 a single one", () -> scene.desk.source(0));
        scene.book(1801, Scene.ONE);
        Check.same("17 a copy of the document 0", 0, scene.desk.source(1));
        scene.book(1799, Scene.ONE);
        Check.same("17 an origin no more", 2, scene.desk.source(0));
    }

    /** "Returns how many versions are in its chain, itself and the root too." */
    private static void chainsAreOneToThirty() {
        WhosaidDesk desk = longestChain();
        for (int link = 0; link < 30; link++) {
            Check.same("20 from the root to " + link, link + 1, desk.chain(link));
            Check.same("19 the root of " + link, 0, desk.rootOf(link));
            Check.same("23 below " + link, 29 - link, desk.below(link));
        }
        Check.same("17 of the last one", 28, desk.source(29));
        Check.same("18 of the last one", 10, desk.cost(29));
    }

    /** Each version tells one word more in the next tongue, so that each is a copy of the one ahead. */
    private static WhosaidDesk longestChain() {
        WhosaidDesk desk = new WhosaidDesk();
        for (int tongue = 0; tongue < 4; tongue++) {
            desk.word(0, tongue, 1000);
        }
        for (int link = 0; link < 30; link++) {
            for (int place = 0; place < 10; place++) {
                desk.say((link + 9 - place) / 10);
            }
            for (char letter : "talk".toCharArray()) {
                desk.letter(letter);
            }
            desk.document(1000, 9, -1, -1, 0);
        }
        return desk;
    }

    /** "the versions with one root are a tree": of one version up to all thirty. */
    private static void treesAreOneToThirty() {
        WhosaidDesk desk = longestChain();
        for (int index = 0; index < 30; index++) {
            Check.same("21 thirty", 30, desk.versions(index));
            Check.same("22 of one year by numbers", index, desk.versionAt(29 - index, index));
        }
        Scene single = new Scene();
        single.book(1800, Scene.ONE);
        Check.same("21 one", 1, single.desk.versions(0));
        Check.same("22 one", 0, single.desk.versionAt(0, 0));
        Check.same("23 none", 0, single.desk.below(0));
        Check.same("20 one", 1, single.desk.chain(0));
        Check.same("19 itself", 0, single.desk.rootOf(0));
    }

    /** "Throws NoSuchElementException if there is no such one" */
    private static void indexesAreInRange() {
        Scene scene = new Scene();
        scene.book(1800, Scene.ONE);
        scene.book(1801, Scene.ONE);
        scene.book(1801, 8, 8, 8, 8, 8, 8);
        scene.document("book", 1802, 9, -1, -1, 1, Scene.ONE);
        Check.absent("22 index -1", () -> scene.desk.versionAt(0, -1));
        Check.same("22 index 0", 0, scene.desk.versionAt(1, 0));
        Check.same("22 the last index", 1, scene.desk.versionAt(0, 1));
        Check.absent("22 behind the last index", () -> scene.desk.versionAt(0, 2));
        Check.absent("22 behind the last index of another tree", () -> scene.desk.versionAt(2, 1));
        for (int far : Check.FAR) {
            Check.absent("22 index " + far, () -> scene.desk.versionAt(0, far));
        }
        WhosaidDesk full = longestChain();
        Check.absent("22 index 30 of thirty", () -> full.versionAt(0, 30));
    }

    /** "Throws IndexOutOfBoundsException if there is no such document"; "if it is no version" */
    private static void versionsAreAskedFor() {
        needsVersion("17 source", (desk, document) -> desk.source(document));
        needsVersion("18 cost", (desk, document) -> desk.cost(document));
        needsVersion("19 rootOf", (desk, document) -> desk.rootOf(document));
        needsVersion("20 chain", (desk, document) -> desk.chain(document));
        needsVersion("21 versions", (desk, document) -> desk.versions(document));
        needsVersion("22 versionAt", (desk, document) -> desk.versionAt(document, 0));
        needsVersion("23 below", (desk, document) -> desk.below(document));
    }

    private static void needsVersion(String what, Check.Asked call) {
        Scene scene = new Scene();
        Check.index(what + " of none", () -> call.answer(scene.desk, 0));
        scene.document("book", 1800, 9, -1, -1, 1, Scene.ONE);
        scene.denial(Scene.ADA, 1800, Scene.ONE);
        scene.document("denial", 1800, 9, -1, Scene.ADA, 1, Scene.ONE);
        scene.book(1800, Scene.ONE);
        scene.book(1800, Scene.ONE);
        Check.unsupported(what + " of a hidden one", () -> call.answer(scene.desk, 0));
        Check.unsupported(what + " of a denial", () -> call.answer(scene.desk, 1));
        Check.unsupported(what + " of a hidden denial", () -> call.answer(scene.desk, 2));
        Check.goes(what + " of the last one", () -> call.answer(scene.desk, 4));
        Check.index(what + " of -1", () -> call.answer(scene.desk, -1));
        Check.index(what + " behind the last one", () -> call.answer(scene.desk, 5));
        for (int far : Check.FAR) {
            Check.index(what + " of " + far, () -> call.answer(scene.desk, far));
        }
        scene.search("book", 1800, 1800, 1, 0, Scene.ONE);
        scene.search("denial", 1800, 1800, 1, 0, Scene.ONE);
        Check.unsupported(what + " of a denial that was found", () -> call.answer(scene.desk, 2));
        scene.document("book", 1799, 9, -1, -1, 0, Scene.ONE);
        Check.goes(what + " of one that was found", () -> call.answer(scene.desk, 0));
    }
}
