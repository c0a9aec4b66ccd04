/** Promises 17 to 23. */
final class WaysTest {
    private WaysTest() {
    }

    public static void main(String[] args) {
        originsCostByTrust();
        originsCostByTheYearsOfWhomTheyName();
        originsCostByDenials();
        denialsAreNearAndKnown();
        denialsMayBeHidden();
        copiesCostByDistance();
        copiesCostByYears();
        copiesCostByNames();
        copiesCostByDenials();
        originsGoAheadOfCopies();
        lowerNumbersGoAhead();
        onlyVersionsAheadAreCopied();
        chainsGoUpToRoots();
        treesAreOrderedByYears();
        belowAreAllWhoseChainsGoThrough();
        nonVersionsAreRefused();
        Check.end();
    }

    private static void originsCostByTrust() {
        Scene scene = new Scene();
        Check.same("18 full trust", 40, costOfOrigin(scene, 9, Scene.NOBODY, 1800));
        Check.same("18 no trust", 49, costOfOrigin(new Scene(), 0, Scene.NOBODY, 1800));
        Check.same("18 some trust", 43, costOfOrigin(new Scene(), 6, Scene.NOBODY, 1800));
        Check.absent("17 an origin", () -> scene.desk.source(0));
    }

    private static int costOfOrigin(Scene scene, int trust, int said, int year) {
        int made = scene.document("paper", year, trust, Scene.NOBODY, said, 0, Scene.ONE, Scene.TWO);
        return scene.desk.cost(made);
    }

    private static void originsCostByTheYearsOfWhomTheyName() {
        Check.same("18 nine years old", 60, costOfOrigin(new Scene(), 9, Scene.ADA, 1709));
        Check.same("18 ten years old", 40, costOfOrigin(new Scene(), 9, Scene.ADA, 1710));
        Check.same("18 dead for five years", 40, costOfOrigin(new Scene(), 9, Scene.ADA, 1775));
        Check.same("18 dead for six years", 60, costOfOrigin(new Scene(), 9, Scene.ADA, 1776));
        Check.same("18 not yet born", 60, costOfOrigin(new Scene(), 9, Scene.ADA, 1000));
    }

    private static void originsCostByDenials() {
        Check.same("18 denied ahead", 55, costDenied(Scene.ADA, 1749));
        Check.same("18 denied in the year", 55, costDenied(Scene.ADA, 1750));
        Check.same("18 denied later", 40, costDenied(Scene.ADA, 1751));
        Check.same("18 another one denied", 40, costDenied(Scene.CYD, 1749));
        Scene twice = new Scene();
        twice.denial(Scene.ADA, 1700, Scene.ONE, Scene.TWO);
        twice.denial(Scene.ADA, 1701, Scene.ONE, Scene.TWO);
        Check.same("18 denied twice counts once", 55, costOfOrigin(twice, 9, Scene.ADA, 1750));
        Scene late = new Scene();
        late.denial(Scene.ADA, 1700, Scene.ONE, Scene.TWO);
        Check.same("18 denied and out of time", 75, costOfOrigin(late, 9, Scene.ADA, 1990));
        Scene nobody = new Scene();
        nobody.denial(Scene.ADA, 1700, Scene.ONE, Scene.TWO);
        Check.same("18 who is not named", 40, costOfOrigin(nobody, 9, Scene.NOBODY, 1750));
    }

    private static int costDenied(int denier, int year) {
        Scene scene = new Scene();
        scene.denial(denier, year, Scene.ONE, Scene.TWO);
        return costOfOrigin(scene, 9, Scene.ADA, 1750);
    }

    private static void denialsAreNearAndKnown() {
        Check.same("18 six away", 55, costDeniedBy(Scene.FOUR, Scene.FOUR));
        Check.same("18 seven away", 40, costDeniedBy(Scene.FOUR, Scene.FOUR, Scene.FOUR));
        Check.same("18 from the denial, six left out", 55, costDeniedBy(Scene.ONE, Scene.TWO, 8, 8, 8, 8, 8, 8));
        Check.same("18 from the denial, seven left out", 40, costDeniedBy(Scene.ONE, Scene.TWO, 8, 8, 8, 8, 8, 8, 8));
        Check.same("18 three put in", 55, costOfLong(Scene.ONE));
        Check.same("18 four put in", 40, costOfLong());
    }

    private static int costDeniedBy(int... text) {
        Scene scene = new Scene();
        scene.denial(Scene.ADA, 1740, text);
        return costOfOrigin(scene, 9, Scene.ADA, 1750);
    }

    private static int costOfLong(int... more) {
        Scene scene = new Scene();
        int[] denied = new int[more.length + 1];
        denied[0] = Scene.TWO;
        System.arraycopy(more, 0, denied, 1, more.length);
        scene.denial(Scene.ADA, 1740, denied);
        int made = scene.document("paper", 1750, 9, -1, Scene.ADA, 0, 1, 0, 0, 0, 0);
        return scene.desk.cost(made);
    }

    private static void denialsMayBeHidden() {
        Scene scene = new Scene();
        scene.document("denial", 1740, 9, -1, Scene.ADA, 10, Scene.ONE, Scene.TWO);
        Check.same("18 nobody knows", 40, costOfOrigin(scene, 9, Scene.ADA, 1750));
        scene.search("denial", 1740, 1740, 10, 0, Scene.ONE);
        Check.same("18 then it is found", 55, scene.desk.cost(1));
        Scene later = new Scene();
        Check.same("18 not yet", 40, costOfOrigin(later, 9, Scene.ADA, 1750));
        later.denial(Scene.ADA, 1740, Scene.ONE, Scene.TWO);
        Check.same("18 all is found anew", 55, later.desk.cost(0));
    }

    private static void copiesCostByDistance() {
        Scene scene = new Scene();
        scene.book(1800, Scene.ONE, Scene.TWO, Scene.THREE);
        int shorter = scene.book(1800, Scene.ONE, Scene.TWO);
        int longer = scene.book(1801, Scene.ONE, Scene.TWO, Scene.THREE, Scene.FOUR);
        int french = scene.book(1802, Scene.UN, Scene.DEUX, Scene.TROIS);
        Check.same("18 a word left out", 10, scene.desk.cost(shorter));
        Check.same("17 a word left out", 0, scene.desk.source(shorter));
        Check.same("18 a word put in", 20, scene.desk.cost(longer));
        Check.same("17 a word put in", 0, scene.desk.source(longer));
        Check.same("18 three in another tongue", 30, scene.desk.cost(french));
        Check.same("17 three in another tongue", 0, scene.desk.source(french));
    }

    private static void copiesCostByYears() {
        Scene scene = new Scene();
        scene.book(1200, Scene.ONE, Scene.TWO);
        int soon = scene.book(1219, Scene.ONE, Scene.DEUX);
        Check.same("18 nineteen years", 10, scene.desk.cost(soon));
        int last = scene.book(2019, Scene.ONE, Scene.TWO);
        Check.same("18 819 years cost as much as an origin", 40, scene.desk.cost(last));
        Check.absent("17 819 years", () -> scene.desk.source(last));
        Scene other = new Scene();
        other.book(1200, Scene.ONE, Scene.TWO);
        Check.same("18 twenty years", 1, other.desk.cost(other.book(1220, Scene.ONE, Scene.TWO)));
        Check.same("18 from the nearer one", 0, other.desk.cost(other.book(1239, Scene.ONE, Scene.TWO)));
        Check.same("17 the nearer one", 1, other.desk.source(2));
        other.book(1999, Scene.ONE, Scene.TWO);
        Check.same("18 760 years", 38, other.desk.cost(3));
    }

    private static void copiesCostByNames() {
        Scene scene = new Scene();
        WhosaidDesk desk = scene.desk;
        desk.setFame(Scene.BEN, 5, 2, 1850);
        int nobody = scene.book(1840, Scene.ONE);
        Check.same("18 the same nobody", 0, desk.cost(scene.book(1841, Scene.ONE)));
        int ahead = scene.naming(Scene.BEN, 1849, Scene.ONE);
        Check.same("18 unknown as yet", 20, desk.cost(ahead));
        Check.same("17 from nobody", nobody, desk.source(ahead));
        int again = scene.naming(Scene.BEN, 1850, Scene.ONE);
        Check.same("18 the same name", 0, desk.cost(again));
        Scene famous = new Scene();
        famous.desk.setFame(Scene.BEN, 5, 2, 1850);
        famous.book(1850, Scene.ONE);
        Check.same("18 fame in its year", 13, famous.desk.cost(famous.naming(Scene.BEN, 1860, Scene.ONE)));
        Check.same("18 another name", 20, famous.desk.cost(famous.naming(Scene.CYD, 1861, Scene.ONE)));
        Check.same("18 the name is lost", 0, famous.desk.cost(famous.book(1862, Scene.ONE)));
        Scene most = new Scene();
        most.desk.setFame(Scene.BEN, 20, 20, 1800);
        most.naming(Scene.CYD, 1800, Scene.ONE);
        Check.same("18 at least one", 1, most.desk.cost(most.naming(Scene.BEN, 1850, Scene.ONE)) - 50 / 20);
        Check.same("18 nobody is named any more", 2, most.desk.cost(most.book(1851, Scene.ONE)));
        Check.same("17 of whom it was named last", 1, most.desk.source(2));
    }

    private static void copiesCostByDenials() {
        Scene scene = new Scene();
        scene.desk.setFame(Scene.BEN, 20, 0, 1800);
        scene.denial(Scene.BEN, 1850, Scene.ONE);
        scene.book(1840, Scene.ONE);
        int ahead = scene.naming(Scene.BEN, 1849, Scene.ONE);
        Check.same("18 ahead of the denial", 1, scene.desk.cost(ahead));
        int after = scene.naming(Scene.BEN, 1850, Scene.ONE);
        Check.same("18 the same name is not asked for denials", 0, scene.desk.cost(after));
        Scene other = new Scene();
        other.desk.setFame(Scene.BEN, 20, 0, 1800);
        other.denial(Scene.BEN, 1850, Scene.ONE);
        other.book(1840, Scene.ONE);
        Check.same("18 in the year of the denial", 16, other.desk.cost(other.naming(Scene.BEN, 1850, Scene.ONE)));
        Check.same("18 nobody can deny", 0, other.desk.cost(other.book(1851, Scene.ONE)));
    }

    private static void originsGoAheadOfCopies() {
        Scene tie = new Scene();
        tie.book(1800, 0, 1, 2, 0);
        int four = tie.book(1801, 3, 4, 5, 3);
        Check.same("14 four away", 4, tie.desk.distance(0, four));
        Check.same("18 a tie", 40, tie.desk.cost(four));
        Check.absent("17 a tie is an origin", () -> tie.desk.source(four));
        Scene less = new Scene();
        less.book(1800, 0, 1, 2, 0);
        int distrusted = less.document("book", 1801, 8, -1, -1, 0, 3, 4, 5, 3);
        Check.same("17 one less is a copy", 0, less.desk.source(distrusted));
        Check.same("18 one less is a copy", 40, less.desk.cost(distrusted));
    }

    private static void lowerNumbersGoAhead() {
        Scene scene = new Scene();
        int late = scene.book(1810, Scene.ONE);
        int early = scene.book(1800, Scene.ONE);
        int copy = scene.book(1811, Scene.ONE);
        Check.same("17 the lower number", late, scene.desk.source(copy));
        Check.same("17 of the earlier one", early, scene.desk.source(late));
        int third = scene.book(1805, Scene.ONE);
        Check.same("17 still the lower number", late, scene.desk.source(copy));
        Check.same("17 the lower of both ahead", early, scene.desk.source(third));
        Check.same("17 not the nearer year", early, scene.desk.source(late));
    }

    private static void onlyVersionsAheadAreCopied() {
        Scene scene = new Scene();
        int first = scene.book(1800, Scene.ONE);
        int second = scene.book(1800, Scene.ONE);
        scene.document("book", 1799, 9, -1, -1, 1, Scene.ONE);
        scene.denial(Scene.ADA, 1799, Scene.ONE);
        Check.same("17 of one year by numbers", first, scene.desk.source(second));
        Check.absent("17 no later, hidden or denying one", () -> scene.desk.source(first));
        int earlier = scene.book(1799, Scene.ONE);
        Check.same("17 by years", earlier, scene.desk.source(first));
    }

    private static void chainsGoUpToRoots() {
        Scene scene = new Scene();
        WhosaidDesk desk = scene.desk;
        int third = scene.book(1820, 0, 1, 2, 8, 7, 3);
        int second = scene.book(1810, 0, 1, 2, 8, 7);
        int first = scene.book(1800, 0, 1, 2, 8);
        int other = scene.book(1805, 7, 7, 7, 7);
        Check.same("20 alone", 1, desk.chain(first));
        Check.same("20 of the root", 2, desk.chain(second));
        Check.same("20 of a copy", 3, desk.chain(third));
        Check.same("19 itself", first, desk.rootOf(first));
        Check.same("19 through another one", first, desk.rootOf(third));
        Check.same("19 another root", other, desk.rootOf(other));
        Check.same("17 by steps", second, desk.source(third));
    }

    private static void treesAreOrderedByYears() {
        Scene scene = new Scene();
        WhosaidDesk desk = scene.desk;
        int late = scene.book(1850, Scene.ONE, Scene.TWO, Scene.THREE);
        int early = scene.book(1800, Scene.ONE, Scene.TWO, Scene.THREE);
        int other = scene.book(1801, 8, 8, 8, 8, 8);
        int same = scene.book(1800, Scene.ONE, Scene.TWO, Scene.THREE);
        int middle = scene.book(1820, Scene.ONE, Scene.TWO, Scene.THREE);
        Check.same("21 four in the tree", 4, desk.versions(late));
        Check.same("21 alone", 1, desk.versions(other));
        Check.same("22 first", early, desk.versionAt(late, 0));
        Check.same("22 of one year", same, desk.versionAt(early, 1));
        Check.same("22 third", middle, desk.versionAt(same, 2));
        Check.same("22 last", late, desk.versionAt(middle, 3));
        Check.same("22 of the other tree", other, desk.versionAt(other, 0));
        Check.absent("22 -1", () -> desk.versionAt(late, -1));
        Check.absent("22 too far", () -> desk.versionAt(late, 4));
        Check.absent("22 too far in the other tree", () -> desk.versionAt(other, 1));
    }

    private static void belowAreAllWhoseChainsGoThrough() {
        Scene scene = new Scene();
        WhosaidDesk desk = scene.desk;
        int root = scene.book(1800, 0, 1, 2, 8);
        int left = scene.book(1810, 0, 1, 2, 8, 7);
        int right = scene.book(1811, 3, 1, 2, 8);
        int leaf = scene.book(1820, 0, 1, 2, 8, 7, 7);
        int twin = scene.book(1821, 6, 1, 2, 8, 7);
        Check.same("17 leaf", left, desk.source(leaf));
        Check.same("17 twin", left, desk.source(twin));
        Check.same("23 root", 4, desk.below(root));
        Check.same("23 left", 2, desk.below(left));
        Check.same("23 right", 0, desk.below(right));
        Check.same("23 leaf", 0, desk.below(leaf));
        Check.same("21 versions", 5, desk.versions(leaf));
    }

    private static void nonVersionsAreRefused() {
        Scene scene = new Scene();
        scene.book(1800, Scene.ONE);
        scene.document("book", 1800, 9, -1, -1, 1, Scene.ONE);
        scene.denial(Scene.ADA, 1800, Scene.ONE);
        for (int none : new int[] {-1, 3, Integer.MAX_VALUE, Integer.MIN_VALUE}) {
            refuseAbsent(scene.desk, none);
        }
        refuseNoVersion(scene.desk, 1);
        refuseNoVersion(scene.desk, 2);
    }

    private static void refuseAbsent(WhosaidDesk desk, int none) {
        Check.index("17 absent", () -> desk.source(none));
        Check.index("18 absent", () -> desk.cost(none));
        Check.index("19 absent", () -> desk.rootOf(none));
        Check.index("20 absent", () -> desk.chain(none));
        Check.index("21 absent", () -> desk.versions(none));
        Check.index("22 absent", () -> desk.versionAt(none, 0));
        Check.index("23 absent", () -> desk.below(none));
    }

    private static void refuseNoVersion(WhosaidDesk desk, int document) {
        Check.unsupported("17 no version", () -> desk.source(document));
        Check.unsupported("18 no version", () -> desk.cost(document));
        Check.unsupported("19 no version", () -> desk.rootOf(document));
        Check.unsupported("20 no version", () -> desk.chain(document));
        Check.unsupported("21 no version", () -> desk.versions(document));
        Check.unsupported("22 no version", () -> desk.versionAt(document, 9));
        Check.unsupported("23 no version", () -> desk.below(document));
    }
}
