import java.util.ArrayList;
import java.util.Comparator;
import java.util.HashMap;
import java.util.HashSet;
import java.util.List;
import java.util.Map;
import java.util.NoSuchElementException;
import java.util.Optional;
import java.util.Set;

/**
 * The document's terms put down a second time, slowly and as near to its words as goes: nothing is kept but what was
 * told and, until the next change, the sources found. The random runs compare the class with it.
 */
public final class Model {
    private static final List<String> KINDS = List.of("book", "paper", "letter", "talk", "notes", "denial");

    private static final class Paper {
        int number;
        int year;
        int trust;
        int author;
        int said;
        int hidden;
        String kind;
        List<int[]> text;
        boolean known;

        boolean isVersion() {
            return known && !kind.equals("denial");
        }
    }

    private static final class Quote {
        int outlet;
        int document;
        int person;
        boolean pushed;
    }

    private final List<int[]> words = new ArrayList<>();
    private final List<int[]> people = new ArrayList<>();
    private final List<Paper> papers = new ArrayList<>();
    private final List<int[]> logged = new ArrayList<>();
    private final List<Integer> collectionYears = new ArrayList<>();
    private final List<List<Integer>> collections = new ArrayList<>();
    private final List<Quote> quotes = new ArrayList<>();
    private final Map<Paper, Optional<Paper>> sources = new HashMap<>();
    private List<int[]> buffer = new ArrayList<>();
    private String name = "";
    private int moved;

    public int word(int concept, int tongue, int since) {
        within(concept, 0, 30);
        within(tongue, 0, 3);
        within(since, 1000, 2100);
        full(words.size() == 40);
        words.add(new int[] {words.size(), concept, tongue, since});
        return words.size() - 1;
    }

    public int say(int word) {
        oneOf(word, words.size());
        full(buffer.size() == 10);
        buffer.add(words.get(word));
        return buffer.size();
    }

    public int wipe() {
        int had = buffer.size();
        buffer = new ArrayList<>();
        name = "";
        return had;
    }

    public int letter(char letter) {
        within(letter, 'a', 'z');
        full(name.length() == 10);
        name += letter;
        return name.length();
    }

    public int person(int born, int died) {
        within(born, 1000, 2100);
        within(died, 1000, 2100);
        within(died, born, 2100);
        full(people.size() == 12);
        people.add(new int[] {born, died, 0, 0, 1000});
        return people.size() - 1;
    }

    public int setFame(int person, int fame, int growth, int from) {
        oneOf(person, people.size());
        within(fame, 0, 20);
        within(growth, 0, 20);
        within(from, 1000, 2100);
        int[] roots = roots();
        int[] it = people.get(person);
        int before = it[2];
        it[2] = fame;
        it[3] = growth;
        it[4] = from;
        countMoved(roots);
        return before;
    }

    public int fame(int person, int year) {
        oneOf(person, people.size());
        within(year, 1000, 2100);
        int[] it = people.get(person);
        return year < it[4] ? 0 : Math.min(20, it[2] + it[3] * (year - it[4]) / 10);
    }

    public int document(int year, int trust, int author, int said, int hidden) {
        if (author != -1) {
            oneOf(author, people.size());
        }
        if (said != -1) {
            oneOf(said, people.size());
        }
        within(year, 1000, 2100);
        within(trust, 0, 9);
        within(hidden, 0, 100);
        within(KINDS.indexOf(name), 0, 5);
        unsupported(buffer.isEmpty());
        unsupported(name.equals("denial") && said == -1);
        full(papers.size() == 30);
        int[] roots = roots();
        Paper it = new Paper();
        it.number = papers.size();
        it.year = year;
        it.trust = trust;
        it.author = author;
        it.said = said;
        it.hidden = hidden;
        it.kind = name;
        it.text = buffer;
        it.known = hidden == 0;
        papers.add(it);
        wipe();
        countMoved(roots);
        return it.number;
    }

    public int search(int from, int to, int depth, int gap) {
        within(from, 1000, 2100);
        within(to, 1000, 2100);
        within(to, from, 2100);
        within(depth, 1, 100);
        within(gap, 0, 9);
        within(KINDS.indexOf(name), 0, 5);
        unsupported(buffer.isEmpty());
        full(logged.size() == 20);
        int[] roots = roots();
        logged.add(new int[] {KINDS.indexOf(name), from, to, depth});
        int found = 0;
        for (Paper it : papers) {
            boolean looked = !it.known && it.kind.equals(name) && it.hidden <= depth;
            if (looked && it.year >= from && it.year <= to && stands(it.text, 0, it.text.size() - 1, 0, gap)) {
                it.known = true;
                found++;
            }
        }
        name = "";
        countMoved(roots);
        return found;
    }

    private boolean stands(List<int[]> text, int from, int to, int word, int gap) {
        if (word == buffer.size()) {
            return true;
        }
        for (int place = from; place <= to && place < text.size(); place++) {
            if (text.get(place)[1] == buffer.get(word)[1] && stands(text, place + 1, place + 1 + gap, word + 1, gap)) {
                return true;
            }
        }
        return false;
    }

    public int searches() {
        return logged.size();
    }

    public boolean isKnown(int document) {
        return paper(document).known;
    }

    public int moved() {
        return moved;
    }

    private int[] roots() {
        int[] roots = new int[papers.size()];
        for (Paper it : papers) {
            roots[it.number] = it.isVersion() ? root(it).number : -1;
        }
        return roots;
    }

    private void countMoved(int[] before) {
        sources.clear();
        int[] now = roots();
        moved = 0;
        for (int each = 0; each < before.length; each++) {
            moved += before[each] != -1 && before[each] != now[each] ? 1 : 0;
        }
    }

    public int distance(int document, int other) {
        return distance(paper(document).text, paper(other).text);
    }

    private static int pair(int[] one, int[] other) {
        return one[0] == other[0] ? 0 : one[1] == other[1] ? 1 : 3;
    }

    private static int distance(List<int[]> one, List<int[]> other) {
        return sums(one, other)[one.size()][other.size()];
    }

    /** From the beginning on: what it costs to make the first words of the one into the first words of the other. */
    private static int[][] sums(List<int[]> one, List<int[]> other) {
        int[][] sums = new int[one.size() + 1][other.size() + 1];
        for (int i = 0; i <= one.size(); i++) {
            for (int j = 0; j <= other.size(); j++) {
                int least = i == 0 && j == 0 ? 0 : Integer.MAX_VALUE;
                if (i > 0) {
                    least = Math.min(least, sums[i - 1][j] + 1);
                }
                if (j > 0) {
                    least = Math.min(least, sums[i][j - 1] + 2);
                }
                if (i > 0 && j > 0) {
                    least = Math.min(least, sums[i - 1][j - 1] + pair(one.get(i - 1), other.get(j - 1)));
                }
                sums[i][j] = least;
            }
        }
        return sums;
    }

    private static String path(int[][] sums, List<int[]> one, List<int[]> other, int i, int j) {
        if (i == 0 && j == 0) {
            return "";
        }
        if (i > 0 && j > 0) {
            int[] a = one.get(i - 1);
            int[] b = other.get(j - 1);
            if (sums[i][j] == sums[i - 1][j - 1] + pair(a, b)) {
                String step = a[0] == b[0] ? "=" : a[1] != b[1] ? "w" : a[2] == b[2] ? "s" : "t";
                return path(sums, one, other, i - 1, j - 1) + step;
            }
        }
        if (i > 0 && sums[i][j] == sums[i - 1][j] + 1) {
            return path(sums, one, other, i - 1, j) + "d";
        }
        return path(sums, one, other, i, j - 1) + "i";
    }

    private String path(int document, int other) {
        List<int[]> one = paper(document).text;
        List<int[]> two = paper(other).text;
        return path(sums(one, two), one, two, one.size(), two.size());
    }

    public int steps(int document, int other) {
        return path(document, other).length();
    }

    public char stepAt(int document, int other, int index) {
        String path = path(document, other);
        oneOf(index, path.length());
        return path.charAt(index);
    }

    private static boolean near(Paper one, Paper other) {
        return distance(one.text, other.text) <= 6;
    }

    private boolean denied(int person, Paper it, int year) {
        for (Paper each : papers) {
            boolean denial = each.known && each.kind.equals("denial") && each.said == person;
            if (denial && each.year <= year && near(each, it)) {
                return true;
            }
        }
        return false;
    }

    private static boolean ahead(Paper one, Paper other) {
        return one.year != other.year ? one.year < other.year : one.number < other.number;
    }

    private List<Paper> allVersions() {
        List<Paper> all = new ArrayList<>();
        for (Paper it : papers) {
            if (it.isVersion()) {
                all.add(it);
            }
        }
        all.sort(Comparator.comparingInt((Paper it) -> it.year).thenComparingInt(it -> it.number));
        return all;
    }

    private int asOrigin(Paper it) {
        int cost = 40 + 9 - it.trust;
        if (it.said != -1) {
            int[] person = people.get(it.said);
            cost += it.year < person[0] + 10 || it.year > person[1] + 5 ? 20 : 0;
            cost += denied(it.said, it, it.year) ? 15 : 0;
        }
        return cost;
    }

    private int asCopy(Paper it, Paper from) {
        int cost = 10 * distance(from.text, it.text) + (it.year - from.year) / 20;
        if (it.said != from.said) {
            if (it.said == -1) {
                cost += 2;
            } else {
                cost += Math.max(1, 20 - fame(it.said, it.year)) + (denied(it.said, it, it.year) ? 15 : 0);
            }
        }
        return cost;
    }

    private Paper from(Paper it) {
        return sources.computeIfAbsent(it, key -> Optional.ofNullable(bestFrom(key))).orElse(null);
    }

    private Paper bestFrom(Paper it) {
        Paper best = null;
        int least = asOrigin(it);
        for (Paper each : papers) {
            if (each.isVersion() && ahead(each, it) && asCopy(it, each) < least) {
                least = asCopy(it, each);
                best = each;
            }
        }
        return best;
    }

    private Paper root(Paper it) {
        Paper up = it;
        while (from(up) != null) {
            up = from(up);
        }
        return up;
    }

    private List<Paper> tree(Paper it) {
        List<Paper> tree = new ArrayList<>();
        for (Paper each : allVersions()) {
            if (root(each) == root(it)) {
                tree.add(each);
            }
        }
        return tree;
    }

    public int source(int document) {
        Paper from = from(version(document));
        absent(from == null);
        return from.number;
    }

    public int cost(int document) {
        Paper it = version(document);
        return from(it) == null ? asOrigin(it) : asCopy(it, from(it));
    }

    public int rootOf(int document) {
        return root(version(document)).number;
    }

    public int chain(int document) {
        int many = 0;
        for (Paper up = version(document); up != null; up = from(up)) {
            many++;
        }
        return many;
    }

    public int versions(int document) {
        return tree(version(document)).size();
    }

    public int versionAt(int document, int index) {
        List<Paper> tree = tree(version(document));
        absent(index < 0 || index >= tree.size());
        return tree.get(index).number;
    }

    public int below(int document) {
        return below(version(document));
    }

    private int below(Paper it) {
        int many = 0;
        for (Paper each : allVersions()) {
            for (Paper up = from(each); up != null; up = from(up)) {
                many += up == it ? 1 : 0;
            }
        }
        return many;
    }

    public boolean couldSay(int document, int person) {
        Paper it = paper(document);
        oneOf(person, people.size());
        return could(it, person);
    }

    private boolean could(Paper it, int person) {
        int[] who = people.get(person);
        boolean could = it.year - who[0] >= 10;
        for (int[] word : it.text) {
            could = could && word[3] <= it.year && word[3] <= who[1];
        }
        return could;
    }

    public boolean isPossible(int document) {
        Paper it = paper(document);
        return it.text.stream().allMatch(word -> word[3] <= it.year);
    }

    public char verdict(int document, int person) {
        Paper it = paper(document);
        oneOf(person, people.size());
        version(document);
        Paper root = root(it);
        if (root.author == person) {
            return 'w';
        }
        if (root.said == person && could(root, person) && !denied(person, root, 2100)) {
            return 's';
        }
        List<Paper> tree = tree(it);
        for (int tongue = 0; tongue <= 3; tongue++) {
            int its = tongue;
            Paper first = tree.stream().filter(each -> each.text.get(0)[2] == its).findFirst().orElse(root);
            if (first != root && first.author == person) {
                return 't';
            }
        }
        Paper most = null;
        for (Paper each : tree) {
            if (each != root && below(each) >= 1 && (most == null || below(each) > below(most))) {
                most = each;
            }
        }
        if (most != null && most.author == person) {
            return 'p';
        }
        return tree.stream().anyMatch(each -> each.said == person) ? 'm' : 'u';
    }

    public int since(int document, int person) {
        Paper it = paper(document);
        oneOf(person, people.size());
        version(document);
        for (Paper each : tree(it)) {
            if (each.said == person) {
                return each.year;
            }
        }
        throw new NoSuchElementException();
    }

    public int sure(int document) {
        Paper root = root(version(document));
        int sum = 0;
        for (int kind = 0; kind < 5; kind++) {
            int greatest = 0;
            for (int[] search : logged) {
                boolean all = search[0] == kind;
                for (int year = root.year - 30; year <= root.year - 1; year++) {
                    all = all && search[1] <= year && year <= search[2];
                }
                greatest = all ? Math.max(greatest, search[3]) : greatest;
            }
            sum += greatest;
        }
        return sum / 5;
    }

    public boolean areParallel(int document, int other) {
        paper(document);
        paper(other);
        Paper root = root(version(document));
        Paper otherRoot = root(version(other));
        return root != otherRoot && near(root, otherRoot);
    }

    public boolean isProverb(int document) {
        Paper root = root(version(document));
        int many = 0;
        for (Paper each : allVersions()) {
            many += from(each) == null && each.said == -1 && near(each, root) ? 1 : 0;
        }
        return root.said == -1 && many >= 3;
    }

    public int collection(int year) {
        within(year, 1000, 2100);
        full(collections.size() == 5);
        collectionYears.add(year);
        collections.add(new ArrayList<>());
        return collections.size() - 1;
    }

    public int enter(int collection, int document) {
        oneOf(collection, collections.size());
        version(document);
        unsupported(collections.get(collection).contains(document));
        full(collections.get(collection).size() == 8);
        collections.get(collection).add(document);
        return collections.get(collection).size();
    }

    private boolean mistake(int document) {
        int said = papers.get(document).said;
        return said != -1 && verdict(document, said) == 'm';
    }

    public int slips(int collection) {
        oneOf(collection, collections.size());
        List<Integer> entries = collections.get(collection);
        int many = 0;
        for (int place = 1; place < entries.size(); place++) {
            int said = papers.get(entries.get(place)).said;
            many += mistake(entries.get(place)) && papers.get(entries.get(place - 1)).said == said ? 1 : 0;
        }
        return many;
    }

    public int common(int collection, int other) {
        oneOf(collection, collections.size());
        oneOf(other, collections.size());
        int sum = 0;
        for (int entry : collections.get(collection)) {
            sum += collections.get(other).contains(entry) && mistake(entry) ? 2 : 0;
        }
        Set<String> neighbours = neighbours(collections.get(collection));
        neighbours.retainAll(neighbours(collections.get(other)));
        return sum + neighbours.size();
    }

    private static Set<String> neighbours(List<Integer> entries) {
        Set<String> neighbours = new HashSet<>();
        for (int place = 1; place < entries.size(); place++) {
            neighbours.add(entries.get(place - 1) + " " + entries.get(place));
        }
        return neighbours;
    }

    public int copiedFrom(int collection) {
        oneOf(collection, collections.size());
        int best = -1;
        for (int each = collections.size() - 1; each >= 0; each--) {
            int years = collectionYears.get(collection) - collectionYears.get(each);
            boolean isAhead = years > 0 || years == 0 && each < collection;
            if (isAhead && common(collection, each) >= 3
                    && (best == -1 || common(collection, each) >= common(collection, best))) {
                best = each;
            }
        }
        absent(best == -1);
        return best;
    }

    public int quote(int outlet, int document, int person) {
        paper(document);
        oneOf(person, people.size());
        within(outlet, 0, 9);
        version(document);
        full(quotes.size() == 20);
        Quote it = new Quote();
        it.outlet = outlet;
        it.document = document;
        it.person = person;
        quotes.add(it);
        return quotes.size();
    }

    private List<Quote> waiting() {
        List<Quote> waiting = new ArrayList<>();
        for (Quote it : quotes) {
            if (!it.pushed && "mu".indexOf(verdict(it.document, it.person)) >= 0) {
                waiting.add(it);
            }
        }
        return waiting;
    }

    public int pushes() {
        return waiting().size();
    }

    public int push() {
        List<Quote> waiting = waiting();
        for (Quote it : waiting) {
            it.pushed = true;
        }
        return waiting.size();
    }

    public int pushedTo(int outlet) {
        within(outlet, 0, 9);
        return (int) quotes.stream().filter(it -> it.pushed && it.outlet == outlet).count();
    }

    public int totalCost() {
        return allVersions().stream().mapToInt(it -> cost(it.number)).sum();
    }

    public int leastOfAll() {
        List<Paper> all = allVersions();
        unsupported(all.size() > 5);
        return least(all, 0);
    }

    private int least(List<Paper> all, int place) {
        if (place == all.size()) {
            return 0;
        }
        int least = asOrigin(all.get(place)) + least(all, place + 1);
        for (Paper from : all.subList(0, place)) {
            least = Math.min(least, asCopy(all.get(place), from) + least(all, place + 1));
        }
        return least;
    }

    public int documents() {
        return papers.size();
    }

    public int known() {
        return allVersions().size();
    }

    public long checksum() {
        long sum = 3;
        for (Paper it : papers) {
            Paper from = it.isVersion() ? from(it) : null;
            sum = sum * 31 + it.year + 7 * (from == null ? -1 : from.number) + (it.known ? 1 : 0);
        }
        return sum;
    }

    public float originShare() {
        absent(known() == 0);
        long origins = allVersions().stream().filter(it -> from(it) == null).count();
        return (float) origins / (float) known();
    }

    public double meanChain() {
        absent(known() == 0);
        return (double) allVersions().stream().mapToInt(it -> chain(it.number)).sum() / (double) known();
    }

    public boolean isSound() {
        return true;
    }

    private Paper paper(int document) {
        oneOf(document, papers.size());
        return papers.get(document);
    }

    private Paper version(int document) {
        unsupported(!paper(document).isVersion());
        return paper(document);
    }

    private static void within(int number, int least, int most) {
        if (number < least || number > most) {
            throw new IllegalArgumentException();
        }
    }

    private static void oneOf(int number, int count) {
        if (number < 0 || number >= count) {
            throw new IndexOutOfBoundsException();
        }
    }

    private static void full(boolean is) {
        if (is) {
            throw new IllegalStateException();
        }
    }

    private static void unsupported(boolean is) {
        if (is) {
            throw new UnsupportedOperationException();
        }
    }

    private static void absent(boolean is) {
        if (is) {
            throw new NoSuchElementException();
        }
    }
}
