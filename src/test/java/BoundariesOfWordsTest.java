/** The boundary cases of "Words" and of promises 1 to 8, each behind the sentence that names it. */
final class BoundariesOfWordsTest {
    private BoundariesOfWordsTest() {
    }

    public static void main(String[] args) {
        yearsAreInRange();
        aNewDeskHasNothing();
        conceptsAreInRange();
        tonguesAreInRange();
        thereAreFortyWords();
        onlyWordsThatAreThereAreSaid();
        tenWordsAreSaid();
        wipingGoesAtAnyLength();
        lettersAreInRange();
        tenLettersAreTyped();
        refusedLettersAreNotTyped();
        nobodyDiesAheadOfTheBirth();
        thereAreTwelvePeople();
        fameAndGrowthAreInRange();
        fameIsToldOfPeopleWhoAreThere();
        whatWasToldBeforeIsNoneAtFirst();
        fameIsNoneAheadOfItsYear();
        growthIsCut();
        fameIsTwentyAtMost();
        Check.end();
    }

    /** "Years are 1000 to 2100." */
    private static void yearsAreInRange() {
        years("2 word", (desk, year) -> desk.word(0, 0, year));
        years("6 person, born", (desk, year) -> desk.person(year, Math.max(year, 2100)));
        years("6 person, died", (desk, year) -> desk.person(1000, year));
        years("7 setFame", (desk, year) -> desk.setFame(Scene.ADA, 1, 1, year));
        years("8 fame", (desk, year) -> desk.fame(Scene.ADA, year));
        years("9 document", (desk, year) -> desk.document(year, 5, -1, -1, 0));
        years("10 search, from", (desk, year) -> desk.search(year, Math.max(year, 2100), 1, 0));
        years("10 search, to", (desk, year) -> desk.search(1000, year, 1, 0));
        years("31 collection", (desk, year) -> desk.collection(year));
    }

    private static void years(String what, Check.Asked call) {
        for (int year : new int[] {1000, 1001, 2099, 2100}) {
            Check.goes(what + " in " + year, () -> call.answer(readyDesk(), year));
        }
        for (int year : new int[] {999, 2101, 0, -1000}) {
            Check.argument(what + " in " + year, () -> call.answer(readyDesk(), year));
        }
        for (int year : Check.FAR) {
            Check.argument(what + " in " + year, () -> call.answer(readyDesk(), year));
        }
    }

    private static WhosaidDesk readyDesk() {
        Scene scene = new Scene();
        scene.type("book");
        scene.say(Scene.ONE);
        return scene.desk;
    }

    /** "Creates a desk without words, people and documents." */
    private static void aNewDeskHasNothing() {
        WhosaidDesk desk = new WhosaidDesk();
        Check.index("1 no word", () -> desk.say(0));
        Check.index("1 no person to tell fame of", () -> desk.setFame(0, 0, 0, 1000));
        Check.index("1 no person", () -> desk.fame(0, 1000));
        Check.index("1 no author", () -> desk.document(1000, 0, 0, -1, 0));
        Check.index("1 nobody to name", () -> desk.document(1000, 0, -1, 0, 0));
        Check.index("1 no document", () -> desk.isKnown(0));
        Check.index("1 no distance", () -> desk.distance(0, 0));
        Check.index("1 no collection", () -> desk.common(0, 0));
        Check.same("1 no letters", 1, desk.letter('a'));
        Check.same("1 no words in the buffer", 0, desk.wipe());
        Check.same("1 first word", 0, desk.word(0, 0, 1000));
        Check.same("1 first person", 0, desk.person(1000, 1000));
        Check.same("1 first collection", 0, desk.collection(1000));
        Check.same("1 documents", 0, desk.documents());
    }

    /** "the concept, 0 to 30" */
    private static void conceptsAreInRange() {
        WhosaidDesk desk = new WhosaidDesk();
        Check.argument("2 concept -1", () -> desk.word(-1, 0, 1000));
        Check.argument("2 concept 31", () -> desk.word(31, 0, 1000));
        for (int far : Check.FAR) {
            Check.argument("2 concept " + far, () -> desk.word(far, 0, 1000));
        }
        Check.same("2 concept 0", 0, desk.word(0, 0, 1000));
        Check.same("2 concept 30", 1, desk.word(30, 0, 1000));
    }

    /** "the tongue, 0 to 3" */
    private static void tonguesAreInRange() {
        WhosaidDesk desk = new WhosaidDesk();
        Check.argument("2 tongue -1", () -> desk.word(0, -1, 1000));
        Check.argument("2 tongue 4", () -> desk.word(0, 4, 1000));
        for (int far : Check.FAR) {
            Check.argument("2 tongue " + far, () -> desk.word(0, far, 1000));
        }
        Check.same("2 tongue 0", 0, desk.word(0, 0, 1000));
        Check.same("2 tongue 3", 1, desk.word(0, 3, 1000));
    }

    /** "At most 40 words are numbered from 0"; "Throws IllegalStateException if there are 40". */
    private static void thereAreFortyWords() {
        WhosaidDesk desk = new WhosaidDesk();
        for (int number = 0; number < 39; number++) {
            Check.same("2 from 0 on", number, desk.word(30, 3, 2100));
        }
        Check.index("3 the fortieth is not there", () -> desk.say(39));
        Check.same("2 the fortieth", 39, desk.word(0, 0, 1000));
        Check.state("2 a forty-first", () -> desk.word(0, 0, 1000));
        Check.state("2 and never more", () -> desk.word(30, 3, 2100));
        Check.same("3 the fortieth is there", 1, desk.say(39));
        Check.index("3 the forty-first is not", () -> desk.say(40));
    }

    /** "Throws IndexOutOfBoundsException if there is no such word" */
    private static void onlyWordsThatAreThereAreSaid() {
        WhosaidDesk desk = new WhosaidDesk();
        Check.index("3 none is there", () -> desk.say(0));
        desk.word(0, 0, 1000);
        desk.word(0, 0, 1000);
        Check.index("3 -1", () -> desk.say(-1));
        Check.index("3 behind the last one", () -> desk.say(2));
        for (int far : Check.FAR) {
            Check.index("3 " + far, () -> desk.say(far));
        }
        Check.same("3 the first one", 1, desk.say(0));
        Check.same("3 the last one", 2, desk.say(1));
    }

    /** "Words are said into a buffer, at most 10."; "Throws IllegalStateException if it has 10". */
    private static void tenWordsAreSaid() {
        Scene scene = new Scene();
        for (int many = 1; many <= 10; many++) {
            Check.same("3 many", many, scene.desk.say(Scene.ONE));
        }
        Check.state("3 an eleventh", () -> scene.desk.say(Scene.ONE));
        scene.type("talk");
        scene.desk.search(1000, 2100, 1, 0);
        Check.state("3 an eleventh behind a search", () -> scene.desk.say(Scene.ONE));
        Check.same("4 ten", 10, scene.desk.wipe());
        Check.same("3 the first one again", 1, scene.desk.say(Scene.ONE));
        for (int many = 2; many <= 10; many++) {
            scene.desk.say(Scene.ONE);
        }
        scene.type("talk");
        scene.desk.document(1800, 5, -1, -1, 0);
        Check.same("3 the first one behind a document", 1, scene.desk.say(Scene.ONE));
    }

    /** "Empties the buffer and the name. Returns how many words it had." */
    private static void wipingGoesAtAnyLength() {
        Scene scene = new Scene();
        Check.same("4 empty", 0, scene.desk.wipe());
        scene.desk.letter('b');
        Check.same("4 a name without words", 0, scene.desk.wipe());
        scene.type("ook");
        scene.say(Scene.ONE);
        Check.argument("4 the letter is gone", () -> scene.desk.document(1800, 5, -1, -1, 0));
        Check.same("4 one", 1, scene.desk.wipe());
        scene.type("aaaaaaaaaa");
        scene.say(0, 0, 0, 0, 0, 0, 0, 0, 0, 0);
        Check.same("4 both full", 10, scene.desk.wipe());
        Check.same("4 emptied", 0, scene.desk.wipe());
        Check.same("4 ten letters are gone", 1, scene.desk.letter('b'));
        scene.type("ook");
        Check.unsupported("4 ten words are gone", () -> scene.desk.document(1800, 5, -1, -1, 0));
    }

    /** "a letter, 'a' to 'z'" */
    private static void lettersAreInRange() {
        WhosaidDesk desk = new WhosaidDesk();
        char[] others = {'a' - 1, 'z' + 1, 'A', 'Z', '0', ' ', 0, 127, 'a' + 256, 'b' + 128, 228, 65535};
        for (char other : others) {
            Check.argument("5 letter " + (int) other, () -> desk.letter(other));
        }
        Check.same("5 a", 1, desk.letter('a'));
        Check.same("5 z", 2, desk.letter('z'));
    }

    /** "A name is typed by letters, at most 10"; "Throws IllegalStateException if 10 are typed". */
    private static void tenLettersAreTyped() {
        Scene scene = new Scene();
        for (int many = 1; many <= 10; many++) {
            Check.same("5 many", many, scene.desk.letter((char) ('a' + many)));
        }
        Check.state("5 an eleventh", () -> scene.desk.letter('a'));
        scene.say(Scene.ONE);
        Check.argument("9 ten letters are no kind", () -> scene.desk.document(1800, 5, -1, -1, 0));
        Check.argument("10 ten letters are no kind", () -> scene.desk.search(1800, 1900, 1, 0));
        Check.state("5 still an eleventh", () -> scene.desk.letter('a'));
        scene.desk.wipe();
        Check.same("5 the first one again", 1, scene.desk.letter('a'));
    }

    /** "A method that throws an exception changes nothing." */
    private static void refusedLettersAreNotTyped() {
        Scene scene = new Scene();
        scene.type("boo");
        Check.argument("5 refused", () -> scene.desk.letter('K'));
        scene.say(Scene.ONE);
        Check.same("5 the last letter of the kind", 4, scene.desk.letter('k'));
        Check.same("9 a book", 0, scene.desk.document(1800, 5, -1, -1, 0));
    }

    /** "the year of death, not ahead of it" */
    private static void nobodyDiesAheadOfTheBirth() {
        WhosaidDesk desk = new WhosaidDesk();
        Check.argument("6 a year ahead", () -> desk.person(1500, 1499));
        Check.argument("6 the first year ahead of the last one", () -> desk.person(2100, 1000));
        Check.argument("6 ahead of the first year", () -> desk.person(1000, 999));
        Check.same("6 in one year", 0, desk.person(1500, 1500));
        Check.same("6 a year behind", 1, desk.person(1500, 1501));
        Check.same("6 the first year twice", 2, desk.person(1000, 1000));
        Check.same("6 the last year twice", 3, desk.person(2100, 2100));
        Check.same("6 all years", 4, desk.person(1000, 2100));
    }

    /** "People, at most 12, are numbered from 0"; "Throws IllegalStateException if there are 12". */
    private static void thereAreTwelvePeople() {
        WhosaidDesk desk = new WhosaidDesk();
        for (int number = 0; number < 11; number++) {
            Check.same("6 from 0 on", number, desk.person(1700, 1800));
        }
        Check.index("8 the twelfth is not there", () -> desk.fame(11, 1800));
        Check.same("6 the twelfth", 11, desk.person(1700, 1800));
        Check.state("6 a thirteenth", () -> desk.person(1700, 1800));
        Check.same("8 the twelfth is there", 0, desk.fame(11, 1800));
        Check.index("8 the thirteenth is not", () -> desk.fame(12, 1800));
    }

    /** "the fame, 0 to 20"; "the growth, 0 to 20" */
    private static void fameAndGrowthAreInRange() {
        Scene scene = new Scene();
        WhosaidDesk desk = scene.desk;
        Check.argument("7 fame -1", () -> desk.setFame(0, -1, 0, 1800));
        Check.argument("7 fame 21", () -> desk.setFame(0, 21, 0, 1800));
        Check.argument("7 growth -1", () -> desk.setFame(0, 0, -1, 1800));
        Check.argument("7 growth 21", () -> desk.setFame(0, 0, 21, 1800));
        for (int far : Check.FAR) {
            Check.argument("7 fame " + far, () -> desk.setFame(0, far, 0, 1800));
            Check.argument("7 growth " + far, () -> desk.setFame(0, 0, far, 1800));
        }
        Check.same("7 fame 20, growth 0", 0, desk.setFame(0, 20, 0, 1800));
        Check.same("7 fame 0, growth 20", 20, desk.setFame(0, 0, 20, 1800));
        Check.same("7 fame 20, growth 20", 0, desk.setFame(0, 20, 20, 1800));
        Check.same("7 fame 0, growth 0", 20, desk.setFame(0, 0, 0, 1800));
    }

    /** "Throws IndexOutOfBoundsException if there is no such person" */
    private static void fameIsToldOfPeopleWhoAreThere() {
        Scene scene = new Scene();
        WhosaidDesk desk = scene.desk;
        Check.index("7 -1", () -> desk.setFame(-1, 1, 1, 1800));
        Check.index("7 behind the last one", () -> desk.setFame(3, 1, 1, 1800));
        Check.index("8 -1", () -> desk.fame(-1, 1800));
        Check.index("8 behind the last one", () -> desk.fame(3, 1800));
        for (int far : Check.FAR) {
            Check.index("7 " + far, () -> desk.setFame(far, 1, 1, 1800));
            Check.index("8 " + far, () -> desk.fame(far, 1800));
        }
        desk.setFame(0, 3, 0, 1800);
        desk.setFame(2, 5, 0, 1800);
        Check.same("8 the first one", 3, desk.fame(0, 1800));
        Check.same("8 between", 0, desk.fame(1, 1800));
        Check.same("8 the last one", 5, desk.fame(2, 1800));
    }

    /** "Returns what was told before as fame."; "0 at first" */
    private static void whatWasToldBeforeIsNoneAtFirst() {
        Scene scene = new Scene();
        Check.same("8 in the first year", 0, scene.desk.fame(0, 1000));
        Check.same("8 in the last year", 0, scene.desk.fame(0, 2100));
        Check.same("7 none before", 0, scene.desk.setFame(0, 20, 20, 1000));
        Check.same("7 as told, not as grown", 20, scene.desk.setFame(0, 1, 20, 1000));
        Check.argument("7 refused", () -> scene.desk.setFame(0, 7, 7, 999));
        Check.same("7 what was refused was not told", 1, scene.desk.setFame(0, 0, 0, 1000));
    }

    /** "The fame of a person is 0 ahead of a year" */
    private static void fameIsNoneAheadOfItsYear() {
        Scene scene = new Scene();
        scene.desk.setFame(0, 20, 20, 1801);
        Check.same("8 in the first year", 0, scene.desk.fame(0, 1000));
        Check.same("8 a year ahead", 0, scene.desk.fame(0, 1800));
        Check.same("8 in its year", 20, scene.desk.fame(0, 1801));
        scene.desk.setFame(0, 20, 20, 2100);
        Check.same("8 a year ahead of the last one", 0, scene.desk.fame(0, 2099));
        Check.same("8 in the last year", 20, scene.desk.fame(0, 2100));
        scene.desk.setFame(0, 4, 0, 1000);
        Check.same("8 from the first year on", 4, scene.desk.fame(0, 1000));
    }

    /** "the growth, 0 at first, times the years since, divided by 10, cut, more" */
    private static void growthIsCut() {
        Scene scene = new Scene();
        scene.desk.setFame(0, 0, 1, 1800);
        Check.same("8 nine years", 0, scene.desk.fame(0, 1809));
        Check.same("8 ten years", 1, scene.desk.fame(0, 1810));
        Check.same("8 nineteen years", 1, scene.desk.fame(0, 1819));
        Check.same("8 twenty years", 2, scene.desk.fame(0, 1820));
        scene.desk.setFame(0, 0, 19, 1800);
        Check.same("8 in its year", 0, scene.desk.fame(0, 1800));
        Check.same("8 1.9", 1, scene.desk.fame(0, 1801));
        Check.same("8 3.8", 3, scene.desk.fame(0, 1802));
        scene.desk.setFame(0, 7, 0, 1800);
        Check.same("8 no growth", 7, scene.desk.fame(0, 2100));
    }

    /** "20 at most" */
    private static void fameIsTwentyAtMost() {
        Scene scene = new Scene();
        scene.desk.setFame(0, 10, 1, 1800);
        Check.same("8 nearly twenty", 19, scene.desk.fame(0, 1899));
        Check.same("8 twenty", 20, scene.desk.fame(0, 1900));
        Check.same("8 no twenty-one", 20, scene.desk.fame(0, 1910));
        scene.desk.setFame(0, 20, 20, 1000);
        Check.same("8 1100 years of the most", 20, scene.desk.fame(0, 2100));
        scene.desk.setFame(0, 0, 20, 1000);
        Check.same("8 1100 years from nothing", 20, scene.desk.fame(0, 2100));
    }
}
