/** A desk with words and people that the tests share, and short ways to fill it. */
final class Scene {
    static final int ONE = 0;
    static final int TWO = 1;
    static final int THREE = 2;
    static final int UN = 3;
    static final int DEUX = 4;
    static final int TROIS = 5;
    static final int SINGLE = 6;
    static final int STEAM = 7;
    static final int FOUR = 8;
    static final int EINS = 9;

    static final int ADA = 0;
    static final int BEN = 1;
    static final int CYD = 2;
    static final int NOBODY = -1;

    final WhosaidDesk desk = new WhosaidDesk();

    Scene() {
        desk.word(0, 0, 1000);
        desk.word(1, 0, 1000);
        desk.word(2, 0, 1000);
        desk.word(0, 1, 1000);
        desk.word(1, 1, 1000);
        desk.word(2, 1, 1000);
        desk.word(0, 0, 1000);
        desk.word(3, 0, 1850);
        desk.word(4, 0, 1000);
        desk.word(0, 2, 1000);
        desk.person(1700, 1770);
        desk.person(1800, 1880);
        desk.person(1750, 1820);
    }

    void say(int... words) {
        for (int word : words) {
            desk.say(word);
        }
    }

    void type(String name) {
        for (int place = 0; place < name.length(); place++) {
            desk.letter(name.charAt(place));
        }
    }

    int document(String kind, int year, int trust, int author, int said, int hidden, int... text) {
        desk.wipe();
        type(kind);
        say(text);
        return desk.document(year, trust, author, said, hidden);
    }

    /** A known book of full trust that names nobody and has no author. */
    int book(int year, int... text) {
        return document("book", year, 9, NOBODY, NOBODY, 0, text);
    }

    int by(int author, int year, int... text) {
        return document("book", year, 9, author, NOBODY, 0, text);
    }

    int naming(int said, int year, int... text) {
        return document("book", year, 9, NOBODY, said, 0, text);
    }

    int denial(int said, int year, int... text) {
        return document("denial", year, 9, NOBODY, said, 0, text);
    }

    int search(String kind, int from, int to, int depth, int gap, int... words) {
        desk.wipe();
        type(kind);
        say(words);
        return desk.search(from, to, depth, gap);
    }

    String path(int document, int other) {
        StringBuilder letters = new StringBuilder();
        for (int index = 0; index < desk.steps(document, other); index++) {
            letters.append(desk.stepAt(document, other, index));
        }
        return letters.toString();
    }
}
