import java.io.IOException;
import java.nio.file.Files;
import java.nio.file.Path;
import java.util.List;

/** The scene of README.md, line by line, and what its comments say of the answers. */
final class ReadmeTest {
    private ReadmeTest() {
    }

    public static void main(String[] args) throws IOException {
        theSceneAnswersAsItSays();
        theSceneIsThatOfTheReadme();
        Check.end();
    }

    private static void theSceneAnswersAsItSays() {
        WhosaidDesk desk = new WhosaidDesk();
        int haste = desk.word(0, 0, 1000);               // concept 0, tongue 0, there since 1000
        int makes = desk.word(1, 0, 1000);
        int waste = desk.word(2, 0, 1000);
        int ada = desk.person(1700, 1770);
        int ben = desk.person(1800, 1880);

        say(desk, haste, waste);
        type(desk, "book");
        int book = desk.document(1760, 6, ada, -1, 0);   // trust 6, by Ada, names nobody, known
        say(desk, haste, waste);
        type(desk, "talk");
        int talk = desk.document(1850, 5, -1, ben, 0);   // names Ben

        int from = desk.source(talk);                    // book: a copy costs less than an origin
        char hers = desk.verdict(talk, ada);             // 'w', she wrote the root
        char his = desk.verdict(talk, ben);              // 'm', he is named by mistake
        Check.same("17 from", book, from);
        Check.same("26 hers", 'w', hers);
        Check.same("26 his", 'm', his);

        say(desk, haste, makes, waste);
        type(desk, "letter");
        int letter = desk.document(1720, 9, -1, -1, 40); // not known until it is found
        Check.same("12 the letter ahead of the search", false, desk.isKnown(letter));
        say(desk, haste, waste);
        type(desk, "letter");
        int found = desk.search(1700, 1800, 50, 1);      // 1, with one other word between the two
        int moved = desk.moved();                        // 2, as the letter is the root of both now
        char still = desk.verdict(talk, ada);            // 'p', her book is the version most copied
        Check.same("10 found", 1, found);
        Check.same("12 the letter behind the search", true, desk.isKnown(letter));
        Check.same("13 moved", 2, moved);
        Check.same("19 the root of the book", letter, desk.rootOf(book));
        Check.same("19 the root of the talk", letter, desk.rootOf(talk));
        Check.same("26 still", 'p', still);

        desk.quote(3, talk, ben);                        // outlet 3 tells it as Ben's
        int corrected = desk.push();                     // 1, and pushedTo(3) is 1 then
        Check.same("38 corrected", 1, corrected);
        Check.same("39 to outlet 3", 1, desk.pushedTo(3));
    }

    private static void theSceneIsThatOfTheReadme() throws IOException {
        List<String> played = trimmed(Path.of("src/test/java/ReadmeTest.java"));
        boolean inScene = false;
        int lines = 0;
        for (String line : trimmed(Path.of("README.md"))) {
            if (line.startsWith("```")) {
                inScene = line.equals("```java");
            } else if (inScene) {
                lines++;
                Check.same("README.md: \"" + line + "\" is played here", true, played.contains(line));
            }
        }
        Check.same("README.md has a scene", true, lines > 0);
    }

    private static List<String> trimmed(Path file) throws IOException {
        return Files.readAllLines(file).stream().map(String::trim).toList();
    }

    private static void say(WhosaidDesk desk, int... words) {
        for (int word : words) {
            desk.say(word);
        }
    }

    private static void type(WhosaidDesk desk, String name) {
        for (char sign : name.toCharArray()) {
            desk.letter(sign);
        }
    }
}
