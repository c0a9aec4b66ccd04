/** Promises 2 to 47 on desks that hold as much as goes within 512 calls, with the model beside them. */
final class FullDeskTest {
    private static final int MOST_CALLS = 512;
    private static final String[] KINDS = {"book", "paper", "letter", "talk", "notes", "denial"};

    private final int kinds;
    private WhosaidDesk desk;
    private Model model;
    private int calls;

    private FullDeskTest(int kinds) {
        this.kinds = kinds;
    }

    public static void main(String[] args) {
        for (int kinds = 1; kinds <= KINDS.length; kinds++) {
            FullDeskTest full = new FullDeskTest(kinds);
            full.fill();
            full.askOfDocuments();
            full.fill();
            full.askOfCollections();
            full.fill();
            full.askOfQuotes();
        }
        Check.end();
    }

    private void fill() {
        desk = new WhosaidDesk();
        model = new Model();
        calls = 0;
        for (int each = 0; each < 40; each++) {
            int year = 1000 + 25 * each;
            both("word", desk.word(each % 4, each % 3, year), model.word(each % 4, each % 3, year));
        }
        for (int each = 0; each < 12; each++) {
            int born = 1600 + 30 * each;
            both("person", desk.person(born, born + 70), model.person(born, born + 70));
            both("setFame", desk.setFame(each, each, 5, born), model.setFame(each, each, 5, born));
        }
        for (int document = 0; document < 30; document++) {
            addDocument(document);
        }
        both("say", desk.say(0), model.say(0));
        for (int search = 0; search < 20; search++) {
            int depth = 5 * search + 5;
            type(KINDS[search % KINDS.length]);
            both("search", desk.search(1000, 2100, depth, 9), model.search(1000, 2100, depth, 9));
            both("moved", desk.moved(), model.moved());
        }
    }

    private void addDocument(int document) {
        int year = 1650 + document * 77 % 400;
        int trust = document % 10;
        int author = document % 13 - 1;
        int said = kinds == KINDS.length ? document % 12 : document * 5 % 13 - 1;
        int hidden = document % 3 == 0 ? document : 0;
        type(KINDS[document % kinds]);
        for (int place = 0; place < 2; place++) {
            int word = (place * (1 + document % 3) + document % 4) % 40;
            both("say", desk.say(word), model.say(word));
        }
        both("document", desk.document(year, trust, author, said, hidden),
                model.document(year, trust, author, said, hidden));
    }

    private void type(String kind) {
        for (int place = 0; place < kind.length(); place++) {
            both("letter", desk.letter(kind.charAt(place)), model.letter(kind.charAt(place)));
        }
    }

    private void askOfDocuments() {
        for (int one = 0; one < 30; one++) {
            int it = one;
            either("source", () -> desk.source(it), () -> model.source(it));
            either("cost", () -> desk.cost(it), () -> model.cost(it));
            either("rootOf", () -> desk.rootOf(it), () -> model.rootOf(it));
            either("chain", () -> desk.chain(it), () -> model.chain(it));
            either("versions", () -> desk.versions(it), () -> model.versions(it));
            either("versionAt", () -> desk.versionAt(0, it), () -> model.versionAt(0, it));
            either("below", () -> desk.below(it), () -> model.below(it));
            either("isPossible", () -> desk.isPossible(it), () -> model.isPossible(it));
            either("sure", () -> desk.sure(it), () -> model.sure(it));
            either("isProverb", () -> desk.isProverb(it), () -> model.isProverb(it));
            either("distance", () -> desk.distance(it, 29), () -> model.distance(it, 29));
            either("steps", () -> desk.steps(29, it), () -> model.steps(29, it));
            either("stepAt", () -> desk.stepAt(29, it, 1), () -> model.stepAt(29, it, 1));
            either("areParallel", () -> desk.areParallel(it, 29), () -> model.areParallel(it, 29));
            for (int person = 0; person < 12; person++) {
                askOfPerson(it, person);
            }
        }
        either("checksum", () -> desk.checksum(), () -> model.checksum());
        either("totalCost", () -> desk.totalCost(), () -> model.totalCost());
        either("originShare", () -> desk.originShare(), () -> model.originShare());
        either("meanChain", () -> desk.meanChain(), () -> model.meanChain());
        either("isSound", () -> desk.isSound(), () -> true);
    }

    private void askOfPerson(int it, int person) {
        either("couldSay", () -> desk.couldSay(it, person), () -> model.couldSay(it, person));
        either("verdict", () -> desk.verdict(it, person), () -> model.verdict(it, person));
        either("since", () -> desk.since(it, person), () -> model.since(it, person));
    }

    private void askOfCollections() {
        for (int shelf = 0; shelf < 5; shelf++) {
            both("collection", desk.collection(2000), model.collection(2000));
        }
        for (int entry = 0; entry < 50; entry++) {
            int shelf = entry % 5;
            int document = (entry / 5 * 2 + shelf) % 30;
            either("enter", () -> desk.enter(shelf, document), () -> model.enter(shelf, document));
        }
        for (int shelf = 0; shelf < 5; shelf++) {
            int it = shelf;
            either("slips", () -> desk.slips(it), () -> model.slips(it));
            either("copiedFrom", () -> desk.copiedFrom(it), () -> model.copiedFrom(it));
            either("common", () -> desk.common(it, 4), () -> model.common(it, 4));
        }
    }

    private void askOfQuotes() {
        for (int quote = 0; quote < 30; quote++) {
            int it = quote;
            either("quote", () -> desk.quote(it % 10, it, it % 12), () -> model.quote(it % 10, it, it % 12));
        }
        both("pushes", desk.pushes(), model.pushes());
        both("push", desk.push(), model.push());
        for (int outlet = 0; outlet < 10; outlet++) {
            both("pushedTo", desk.pushedTo(outlet), model.pushedTo(outlet));
        }
        Check.same("calls that are promised", true, calls <= MOST_CALLS);
    }

    private void both(String what, Object got, Object want) {
        calls++;
        Check.same(what, want, got);
    }

    private void either(String what, Check.Call got, Check.Call want) {
        if (calls >= MOST_CALLS) {
            fill();
        }
        calls++;
        Check.same(what, Check.answerOf(want), Check.answerOf(got));
    }
}
