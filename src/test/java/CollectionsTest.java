/** Promises 31 to 39. */
final class CollectionsTest {
    private CollectionsTest() {
    }

    public static void main(String[] args) {
        collectionsAreNumbered();
        versionsAreEntered();
        entriesAreRefused();
        slipsFollowTheEntryAhead();
        mistakesAndNeighboursAreCommon();
        neighboursStandInTheSameOrder();
        collectionsAreCopied();
        collectionsAreCopiedFromThoseAhead();
        wrongCollectionsAreRefused();
        quotesAreTold();
        quotesAreRefused();
        mistakenQuotesArePushed();
        quotesWaitByTheVerdictOfNow();
        Check.end();
    }

    /** Version 0 is Ada's; 1 to 4 name, by mistake, Ben, Ben, Cyd and nobody; 5 is Ben's own; 6 names Ben. */
    private static Scene manyVersions() {
        Scene scene = new Scene();
        scene.by(Scene.ADA, 1760, Scene.ONE);
        scene.naming(Scene.BEN, 1850, Scene.ONE);
        scene.naming(Scene.BEN, 1851, Scene.ONE);
        scene.naming(Scene.CYD, 1852, Scene.ONE);
        scene.book(1853, Scene.ONE);
        scene.naming(Scene.BEN, 1840, 8, 8, 8, 8, 8, 8);
        scene.naming(Scene.BEN, 1854, Scene.ONE);
        return scene;
    }

    private static void fill(WhosaidDesk desk, int collection, int... entries) {
        for (int entry : entries) {
            desk.enter(collection, entry);
        }
    }

    private static void collectionsAreNumbered() {
        WhosaidDesk desk = new WhosaidDesk();
        Check.argument("31 year 999", () -> desk.collection(999));
        Check.argument("31 year 2101", () -> desk.collection(2101));
        Check.same("31 first", 0, desk.collection(2100));
        for (int number = 1; number < 5; number++) {
            Check.same("31 number", number, desk.collection(1000));
        }
        Check.state("31 full", () -> desk.collection(1000));
        Check.argument("31 out of range ahead of full", () -> desk.collection(999));
        Check.same("33 the last one is there", 0, desk.slips(4));
    }

    private static void versionsAreEntered() {
        Scene scene = new Scene();
        for (int year = 1800; year < 1810; year++) {
            scene.book(year, Scene.ONE);
        }
        scene.desk.collection(1700);
        scene.desk.collection(1900);
        for (int many = 1; many <= 8; many++) {
            Check.same("32 many", many, scene.desk.enter(0, many));
        }
        Check.state("32 full", () -> scene.desk.enter(0, 9));
        Check.unsupported("32 in it ahead of full", () -> scene.desk.enter(0, 8));
        Check.same("32 another collection", 1, scene.desk.enter(1, 8));
        Check.same("34 all stand in it still", 7, scene.desk.common(0, 0));
        Check.same("33 eight without slips", 0, scene.desk.slips(0));
    }

    private static void entriesAreRefused() {
        Scene scene = new Scene();
        WhosaidDesk desk = scene.desk;
        scene.book(1800, Scene.ONE);
        scene.document("book", 1801, 9, -1, -1, 3, Scene.ONE);
        scene.denial(Scene.ADA, 1801, Scene.ONE);
        desk.collection(1900);
        for (int none : new int[] {-1, 3, Integer.MAX_VALUE, Integer.MIN_VALUE}) {
            Check.index("32 no collection", () -> desk.enter(none, 0));
            Check.index("32 no collection ahead of no version", () -> desk.enter(none, 1));
            Check.index("32 no document", () -> desk.enter(0, none));
        }
        Check.unsupported("32 a hidden one", () -> desk.enter(0, 1));
        Check.unsupported("32 a denial", () -> desk.enter(0, 2));
        Check.same("32 nothing was entered", 1, desk.enter(0, 0));
        Check.unsupported("32 twice", () -> desk.enter(0, 0));
        scene.search("book", 1801, 1801, 3, 0, Scene.ONE);
        Check.same("32 found by now", 2, desk.enter(0, 1));
    }

    private static void slipsFollowTheEntryAhead() {
        Scene scene = manyVersions();
        WhosaidDesk desk = scene.desk;
        Check.same("26 Ben did not say it", 'm', desk.verdict(1, Scene.BEN));
        Check.same("26 Ben said the other one", 's', desk.verdict(5, Scene.BEN));
        Check.same("26 Cyd did not say it", 'm', desk.verdict(3, Scene.CYD));
        desk.collection(1900);
        Check.same("33 empty", 0, desk.slips(0));
        desk.enter(0, 1);
        Check.same("33 the first entry is none", 0, desk.slips(0));
        desk.enter(0, 2);
        Check.same("33 the same one", 1, desk.slips(0));
        desk.enter(0, 3);
        Check.same("33 another one", 1, desk.slips(0));
        desk.enter(0, 6);
        Check.same("33 not the entry ahead", 1, desk.slips(0));
        desk.enter(0, 5);
        Check.same("33 no mistake", 1, desk.slips(0));
        desk.collection(1900);
        fill(desk, 1, 5, 6, 4, 0);
        Check.same("33 behind no mistake, and nobody twice", 1, desk.slips(1));
    }

    private static void mistakesAndNeighboursAreCommon() {
        Scene scene = manyVersions();
        WhosaidDesk desk = scene.desk;
        desk.collection(1900);
        desk.collection(1910);
        fill(desk, 0, 1, 0, 5);
        Check.same("34 with an empty one", 0, desk.common(0, 1));
        fill(desk, 1, 1);
        Check.same("34 a mistake", 2, desk.common(0, 1));
        fill(desk, 1, 0);
        Check.same("34 and neighbours", 3, desk.common(0, 1));
        fill(desk, 1, 3);
        Check.same("34 a mistake of the one only", 3, desk.common(0, 1));
        fill(desk, 1, 5);
        Check.same("34 not neighbours in the one", 3, desk.common(0, 1));
        Check.same("34 turned", 3, desk.common(1, 0));
        Check.same("34 with itself", 4, desk.common(0, 0));
        Check.same("34 with itself, of four", 7, desk.common(1, 1));
    }

    private static void neighboursStandInTheSameOrder() {
        Scene scene = manyVersions();
        WhosaidDesk desk = scene.desk;
        desk.collection(1900);
        desk.collection(1910);
        fill(desk, 0, 0, 4, 5);
        fill(desk, 1, 5, 4, 0);
        Check.same("34 the other order", 0, desk.common(0, 1));
        desk.collection(1920);
        fill(desk, 2, 1, 4, 5, 0);
        Check.same("34 at other places", 1, desk.common(0, 2));
        Check.same("34 no ring", 0, desk.common(1, 2));
    }

    private static void collectionsAreCopied() {
        Scene scene = manyVersions();
        WhosaidDesk desk = scene.desk;
        desk.collection(1900);
        desk.collection(1910);
        desk.collection(1920);
        fill(desk, 0, 1, 3);
        fill(desk, 1, 1);
        fill(desk, 2, 1);
        Check.absent("35 two are too few", () -> desk.copiedFrom(2));
        fill(desk, 1, 0);
        fill(desk, 2, 0);
        Check.same("34 three", 3, desk.common(2, 1));
        Check.same("35 three are enough", 1, desk.copiedFrom(2));
        fill(desk, 2, 3);
        Check.same("34 four", 4, desk.common(2, 0));
        Check.same("35 most in common", 0, desk.copiedFrom(2));
        fill(desk, 1, 4);
        fill(desk, 1, 3);
        Check.same("34 five", 5, desk.common(2, 1));
        Check.same("35 most in common by now", 1, desk.copiedFrom(2));
        Check.absent("35 the first one", () -> desk.copiedFrom(0));
    }

    private static void collectionsAreCopiedFromThoseAhead() {
        Scene scene = manyVersions();
        WhosaidDesk desk = scene.desk;
        desk.collection(1920);
        desk.collection(1910);
        desk.collection(1910);
        desk.collection(1900);
        for (int each = 0; each < 4; each++) {
            fill(desk, each, 1, 3);
        }
        Check.same("35 of several the lowest number", 1, desk.copiedFrom(0));
        Check.same("35 by years", 3, desk.copiedFrom(1));
        Check.same("35 of one year by numbers", 1, desk.copiedFrom(2));
        Check.absent("35 none is ahead", () -> desk.copiedFrom(3));
        Check.absent("35 an empty fifth one", () -> desk.copiedFrom(desk.collection(2000)));
    }

    private static void wrongCollectionsAreRefused() {
        WhosaidDesk desk = new WhosaidDesk();
        desk.collection(1900);
        for (int none : new int[] {-1, 1, Integer.MAX_VALUE, Integer.MIN_VALUE}) {
            Check.index("33 absent", () -> desk.slips(none));
            Check.index("34 absent", () -> desk.common(none, 0));
            Check.index("34 other absent", () -> desk.common(0, none));
            Check.index("35 absent", () -> desk.copiedFrom(none));
        }
        Check.same("34 empty with itself", 0, desk.common(0, 0));
    }

    private static void quotesAreTold() {
        Scene scene = manyVersions();
        for (int many = 1; many <= 20; many++) {
            Check.same("36 many", many, scene.desk.quote(many % 10, 1, Scene.BEN));
        }
        Check.state("36 full", () -> scene.desk.quote(0, 1, Scene.BEN));
        Check.same("37 all wait", 20, scene.desk.pushes());
        Check.same("38 all are pushed", 20, scene.desk.push());
        Check.same("39 two each", 2, scene.desk.pushedTo(9));
        Check.state("36 full for good", () -> scene.desk.quote(0, 1, Scene.BEN));
    }

    private static void quotesAreRefused() {
        Scene scene = manyVersions();
        WhosaidDesk desk = scene.desk;
        int hidden = scene.document("book", 1801, 9, -1, -1, 3, Scene.ONE);
        int denial = scene.denial(Scene.ADA, 1801, 8, 8, 8, 8, 8);
        for (int none : new int[] {-1, denial + 1, Integer.MAX_VALUE, Integer.MIN_VALUE}) {
            Check.index("36 no document", () -> desk.quote(-1, none, 0));
            Check.index("36 no person", () -> desk.quote(-1, hidden, none));
        }
        Check.argument("36 outlet -1 ahead of no version", () -> desk.quote(-1, hidden, 0));
        Check.argument("36 outlet 10", () -> desk.quote(10, 0, 0));
        Check.unsupported("36 a hidden one", () -> desk.quote(0, hidden, 0));
        Check.unsupported("36 a denial", () -> desk.quote(9, denial, 0));
        Check.same("36 nothing was told", 1, desk.quote(9, 1, Scene.BEN));
        for (int many = 2; many <= 20; many++) {
            desk.quote(0, 0, 0);
        }
        Check.unsupported("36 no version ahead of full", () -> desk.quote(0, hidden, 0));
        Check.argument("39 outlet -1", () -> desk.pushedTo(-1));
        Check.argument("39 outlet 10", () -> desk.pushedTo(10));
        Check.same("39 none yet", 0, desk.pushedTo(9));
        Check.same("39 none at all", 0, desk.pushedTo(0));
    }

    private static void mistakenQuotesArePushed() {
        Scene scene = manyVersions();
        WhosaidDesk desk = scene.desk;
        desk.quote(0, 0, Scene.ADA);
        desk.quote(1, 5, Scene.BEN);
        Check.same("37 w and s do not wait", 0, desk.pushes());
        Check.same("38 nothing to push", 0, desk.push());
        desk.quote(0, 2, Scene.BEN);
        desk.quote(0, 5, Scene.CYD);
        desk.quote(9, 0, Scene.BEN);
        Check.same("37 m and u wait", 3, desk.pushes());
        Check.same("39 not yet", 0, desk.pushedTo(0));
        Check.same("38 three", 3, desk.push());
        Check.same("37 none wait any more", 0, desk.pushes());
        Check.same("38 once each", 0, desk.push());
        Check.same("39 two", 2, desk.pushedTo(0));
        Check.same("39 none", 0, desk.pushedTo(1));
        Check.same("39 one", 1, desk.pushedTo(9));
        desk.quote(9, 0, Scene.BEN);
        Check.same("37 the same once more", 1, desk.pushes());
        Check.same("38 the same once more", 1, desk.push());
        Check.same("39 both", 2, desk.pushedTo(9));
    }

    private static void quotesWaitByTheVerdictOfNow() {
        Scene scene = manyVersions();
        WhosaidDesk desk = scene.desk;
        desk.quote(3, 5, Scene.BEN);
        Check.same("37 said", 0, desk.pushes());
        scene.denial(Scene.BEN, 1900, 8, 8, 8, 8, 8);
        Check.same("37 denied", 1, desk.pushes());
        desk.push();
        scene.by(Scene.BEN, 1830, 8, 8, 8, 8, 8, 8);
        Check.same("26 written after all", 'w', desk.verdict(5, Scene.BEN));
        Check.same("39 pushed for good", 1, desk.pushedTo(3));
        desk.quote(4, 0, Scene.CYD);
        scene.by(Scene.CYD, 1759, Scene.ONE);
        Check.same("37 a quote that came true", 0, desk.pushes());
        Check.same("38 is not pushed", 0, desk.push());
        Check.same("39 nor counted", 0, desk.pushedTo(4));
        Scene kinds = new Scene();
        kinds.book(1800, 0, 1, 2, 8);
        kinds.by(Scene.CYD, 1801, 3, 1, 2, 8);
        kinds.by(Scene.BEN, 1802, 0, 1, 2, 8, 8);
        kinds.book(1803, 0, 1, 2, 8, 8);
        kinds.desk.quote(0, 3, Scene.CYD);
        kinds.desk.quote(0, 3, Scene.BEN);
        Check.same("26 t", 't', kinds.desk.verdict(3, Scene.CYD));
        Check.same("26 p", 'p', kinds.desk.verdict(3, Scene.BEN));
        Check.same("37 t and p do not wait", 0, kinds.desk.pushes());
    }
}
