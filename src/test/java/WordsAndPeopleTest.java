/** Promises 1 to 8. */
final class WordsAndPeopleTest {
    private WordsAndPeopleTest() {
    }

    public static void main(String[] args) {
        aNewDeskIsEmpty();
        wordsAreNumbered();
        wordsOutOfRangeAreRefused();
        theBufferTakesTen();
        wipingEmptiesBufferAndName();
        lettersAreTyped();
        peopleAreNumbered();
        fameIsTold();
        fameGrows();
        fameOutOfRangeIsRefused();
        Check.end();
    }

    private static void aNewDeskIsEmpty() {
        WhosaidDesk desk = new WhosaidDesk();
        Check.same("1 documents", 0, desk.documents());
        Check.same("1 known", 0, desk.known());
        Check.same("1 searches", 0, desk.searches());
        Check.same("1 moved", 0, desk.moved());
        Check.same("1 pushes", 0, desk.pushes());
        Check.same("1 buffer", 0, desk.wipe());
        Check.index("1 no word", () -> desk.say(0));
        Check.index("1 no person", () -> desk.fame(0, 1900));
        Check.index("1 no document", () -> desk.isKnown(0));
        Check.index("1 no collection", () -> desk.slips(0));
    }

    private static void wordsAreNumbered() {
        WhosaidDesk desk = new WhosaidDesk();
        for (int number = 0; number < 40; number++) {
            Check.same("2 number", number, desk.word(number % 31, number % 4, 1000 + number));
        }
        Check.state("2 full", () -> desk.word(0, 0, 1000));
        Check.argument("2 out of range ahead of full", () -> desk.word(31, 0, 1000));
        Check.same("2 the last one is there", 1, desk.say(39));
        Check.index("2 no more", () -> desk.say(40));
    }

    private static void wordsOutOfRangeAreRefused() {
        WhosaidDesk desk = new WhosaidDesk();
        Check.argument("2 concept -1", () -> desk.word(-1, 0, 1000));
        Check.argument("2 concept 31", () -> desk.word(31, 0, 1000));
        Check.argument("2 tongue -1", () -> desk.word(0, -1, 1000));
        Check.argument("2 tongue 4", () -> desk.word(0, 4, 1000));
        Check.argument("2 year 999", () -> desk.word(0, 0, 999));
        Check.argument("2 year 2101", () -> desk.word(0, 0, 2101));
        Check.same("2 nothing was added", 0, desk.word(30, 3, 2100));
        Check.same("2 the least numbers", 1, desk.word(0, 0, 1000));
    }

    private static void theBufferTakesTen() {
        WhosaidDesk desk = new WhosaidDesk();
        desk.word(0, 0, 1000);
        Check.index("3 -1", () -> desk.say(-1));
        Check.index("3 one too many", () -> desk.say(1));
        for (int many = 1; many <= 10; many++) {
            Check.same("3 many", many, desk.say(0));
        }
        Check.state("3 full", () -> desk.say(0));
        Check.index("3 no word ahead of full", () -> desk.say(1));
        Check.same("3 still ten", 10, desk.wipe());
    }

    private static void wipingEmptiesBufferAndName() {
        Scene scene = new Scene();
        scene.say(Scene.ONE, Scene.TWO);
        scene.type("book");
        Check.same("4 words", 2, scene.desk.wipe());
        Check.same("4 none left", 0, scene.desk.wipe());
        Check.same("4 the name is empty", 1, scene.desk.letter('p'));
        Check.same("4 the buffer is empty", 1, scene.desk.say(Scene.ONE));
    }

    private static void lettersAreTyped() {
        WhosaidDesk desk = new WhosaidDesk();
        Check.argument("5 ahead of a", () -> desk.letter('`'));
        Check.argument("5 behind z", () -> desk.letter('{'));
        Check.argument("5 capital", () -> desk.letter('B'));
        Check.argument("5 far", () -> desk.letter((char) 65535));
        Check.same("5 a", 1, desk.letter('a'));
        Check.same("5 z", 2, desk.letter('z'));
        for (int many = 3; many <= 10; many++) {
            Check.same("5 many", many, desk.letter('m'));
        }
        Check.state("5 full", () -> desk.letter('m'));
        Check.argument("5 out of range ahead of full", () -> desk.letter(' '));
    }

    private static void peopleAreNumbered() {
        WhosaidDesk desk = new WhosaidDesk();
        Check.argument("6 born 999", () -> desk.person(999, 1000));
        Check.argument("6 died 2101", () -> desk.person(1000, 2101));
        Check.argument("6 died ahead", () -> desk.person(1500, 1499));
        Check.argument("6 both behind", () -> desk.person(2101, 2101));
        Check.same("6 first", 0, desk.person(1000, 2100));
        Check.same("6 died in the year of birth", 1, desk.person(2100, 2100));
        for (int number = 2; number < 12; number++) {
            Check.same("6 number", number, desk.person(1500, 1600));
        }
        Check.state("6 full", () -> desk.person(1500, 1600));
        Check.argument("6 out of range ahead of full", () -> desk.person(1500, 1400));
    }

    private static void fameIsTold() {
        Scene scene = new Scene();
        WhosaidDesk desk = scene.desk;
        Check.same("8 none at first", 0, desk.fame(Scene.ADA, 2100));
        Check.same("7 none before", 0, desk.setFame(Scene.ADA, 7, 3, 1800));
        Check.same("7 before", 7, desk.setFame(Scene.ADA, 4, 0, 1700));
        Check.same("7 before of another one", 0, desk.setFame(Scene.BEN, 20, 20, 2100));
        Check.same("7 growth is told anew", 4, desk.fame(Scene.ADA, 2100));
        Check.same("7 the year is told anew", 4, desk.fame(Scene.ADA, 1700));
        Check.same("7 ahead of the year", 0, desk.fame(Scene.ADA, 1699));
        Check.same("7 before, not grown", 4, desk.setFame(Scene.ADA, 0, 20, 1000));
    }

    private static void fameGrows() {
        Scene scene = new Scene();
        WhosaidDesk desk = scene.desk;
        desk.setFame(Scene.BEN, 2, 3, 1850);
        Check.same("8 ahead", 0, desk.fame(Scene.BEN, 1849));
        Check.same("8 from the year on", 2, desk.fame(Scene.BEN, 1850));
        Check.same("8 cut to nothing", 2, desk.fame(Scene.BEN, 1853));
        Check.same("8 one more", 3, desk.fame(Scene.BEN, 1854));
        Check.same("8 cut", 7, desk.fame(Scene.BEN, 1869));
        Check.same("8 nearly most", 19, desk.fame(Scene.BEN, 1909));
        Check.same("8 most", 20, desk.fame(Scene.BEN, 1910));
        Check.same("8 no more than most", 20, desk.fame(Scene.BEN, 2100));
        Check.same("8 of nobody else", 0, desk.fame(Scene.ADA, 1910));
    }

    private static void fameOutOfRangeIsRefused() {
        Scene scene = new Scene();
        WhosaidDesk desk = scene.desk;
        desk.setFame(Scene.ADA, 5, 1, 1800);
        Check.index("7 person -1", () -> desk.setFame(-1, 1, 1, 1900));
        Check.index("7 person 3", () -> desk.setFame(3, 1, 1, 1900));
        Check.index("7 person ahead of numbers", () -> desk.setFame(3, 21, 1, 1900));
        Check.argument("7 fame -1", () -> desk.setFame(Scene.ADA, -1, 0, 1900));
        Check.argument("7 fame 21", () -> desk.setFame(Scene.ADA, 21, 0, 1900));
        Check.argument("7 growth -1", () -> desk.setFame(Scene.ADA, 0, -1, 1900));
        Check.argument("7 growth 21", () -> desk.setFame(Scene.ADA, 0, 21, 1900));
        Check.argument("7 year 999", () -> desk.setFame(Scene.ADA, 0, 0, 999));
        Check.argument("7 year 2101", () -> desk.setFame(Scene.ADA, 0, 0, 2101));
        Check.same("7 nothing was told", 6, desk.fame(Scene.ADA, 1810));
        Check.index("8 person -1", () -> desk.fame(-1, 1900));
        Check.index("8 person 3", () -> desk.fame(3, 1900));
        Check.index("8 person ahead of year", () -> desk.fame(3, 999));
        Check.argument("8 year 999", () -> desk.fame(Scene.ADA, 999));
        Check.argument("8 year 2101", () -> desk.fame(Scene.ADA, 2101));
        Check.same("8 the last year", 20, desk.fame(Scene.ADA, 2100));
        Check.same("8 the first year", 0, desk.fame(Scene.ADA, 1000));
    }
}
