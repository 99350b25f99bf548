import java.util.ArrayList;
import java.util.Collections;
import java.util.HashMap;
import java.util.HashSet;
import java.util.List;
import java.util.Map;
import java.util.Set;
import java.util.TreeMap;
import java.util.TreeSet;

/**
 * The document once more, as slow and as near to its words as can be: it keeps nothing that it found, and shares no
 * way of finding with the program. RandomRunsTest holds the two against each other.
 */
final class NaiveLetters {
    private static final int NONE = -1, UNKNOWN = -1001, OUTSIDE = -1002, NOT = -1003, FULL = -1004, LARGE = -1005;

    private record Line(int depth, List<Integer> text) {
    }

    private record Place(int x, int line) {
    }

    private static final class Letter {
        int writer;
        int day;
        int names;
        boolean taken;
        final List<Line> lines = new ArrayList<>();
    }

    private final List<Letter> letters = new ArrayList<>();
    private List<Integer> draft = new ArrayList<>();
    private final List<Integer> pattern = new ArrayList<>();
    private final StringBuilder text = new StringBuilder();
    private int known = NONE;
    private int faultAt = NONE;
    private int near = 0;
    private int fit = 50;
    private int trust = 1;
    private int keep = 14;
    private int deep = 5;

    // ---- helpers

    int letterCount() {
        return letters.size();
    }

    private boolean letterIs(int x) {
        return 0 <= x && x < letters.size();
    }

    private boolean lineIs(int x, int line) {
        return letterIs(x) && 0 <= line && line < letters.get(x).lines.size();
    }

    private Set<Integer> seenSet() {
        Set<Integer> seen = new TreeSet<>();
        for (int x = 0; x < letters.size(); x++) {
            if (!letters.get(x).taken && (known == NONE || x < known)) {
                seen.add(x);
            }
        }
        return seen;
    }

    private static int distance(List<Integer> a, List<Integer> b) {
        int[][] table = new int[a.size() + 1][b.size() + 1];
        for (int i = a.size(); i >= 0; i--) {
            for (int j = b.size(); j >= 0; j--) {
                if (i == a.size()) {
                    table[i][j] = b.size() - j;
                } else if (j == b.size()) {
                    table[i][j] = a.size() - i;
                } else if (a.get(i).equals(b.get(j))) {
                    table[i][j] = table[i + 1][j + 1];
                } else {
                    table[i][j] = 1 + Math.min(table[i + 1][j + 1], Math.min(table[i + 1][j], table[i][j + 1]));
                }
            }
        }
        return table[0][0];
    }

    private boolean like(Line quoted, Line other) {
        return quoted.depth > 0 && other.depth == quoted.depth - 1 && distance(quoted.text, other.text) <= near;
    }

    private int pairs(int x, int y) {
        List<Line> a = letters.get(x).lines;
        List<Line> b = letters.get(y).lines;
        int[][] most = new int[a.size() + 1][b.size() + 1];
        for (int i = a.size() - 1; i >= 0; i--) {
            for (int j = b.size() - 1; j >= 0; j--) {
                most[i][j] = Math.max(most[i + 1][j], most[i][j + 1]);
                if (like(a.get(i), b.get(j))) {
                    most[i][j] = Math.max(most[i][j], 1 + most[i + 1][j + 1]);
                }
            }
        }
        return most[0][0];
    }

    private int quotedLines(int x) {
        return (int) letters.get(x).lines.stream().filter(l -> l.depth > 0).count();
    }

    private static List<Integer> way(Map<Integer, Integer> parents, int x) {
        List<Integer> way = new ArrayList<>();
        Integer at = x;
        while (at != null) {
            way.add(at);
            at = parents.get(at);
        }
        return way;
    }

    private Map<Integer, Integer> parents(Set<Integer> seen) {
        Map<Integer, Integer> parents = new TreeMap<>();
        for (int x : seen) {
            Letter letter = letters.get(x);
            List<Integer> may = new ArrayList<>();
            boolean named = false;
            for (int y : seen) {
                if (y == x || way(parents, y).contains(x)) {
                    continue;
                }
                if (trust == 1 && letter.names == y) {
                    named = true;
                }
                int day = letters.get(y).day;
                if (day == NONE || letter.day == NONE || day <= letter.day) {
                    may.add(y);
                }
            }
            if (named) {
                parents.put(x, letter.names);
                continue;
            }
            int best = may.stream().mapToInt(y -> pairs(x, y)).max().orElse(0);
            if (best >= 1 && best * 100 >= fit * quotedLines(x)) {
                for (int y : may) {
                    if (pairs(x, y) == best) {
                        parents.put(x, y);
                        break;
                    }
                }
            }
        }
        return parents;
    }

    /** null: there is none. */
    private Place heldTo(Map<Integer, Integer> parents, Place place) {
        Line line = letters.get(place.x).lines.get(place.line);
        Integer y = parents.get(place.x);
        if (y == null || line.depth == 0) {
            return null;
        }
        Place likeOne = null;
        List<Line> lines = letters.get(y).lines;
        for (int l = 0; l < lines.size(); l++) {
            if (lines.get(l).depth != line.depth - 1) {
                continue;
            }
            if (lines.get(l).text.equals(line.text)) {
                return new Place(y, l);
            }
            if (likeOne == null && like(line, lines.get(l))) {
                likeOne = new Place(y, l);
            }
        }
        return likeOne;
    }

    private Place source(Map<Integer, Integer> parents, Place place) {
        if (letters.get(place.x).lines.get(place.line).depth == 0) {
            return place;
        }
        Place next = heldTo(parents, place);
        return next == null ? null : source(parents, next);
    }

    private List<Place> places(Set<Integer> seen) {
        List<Place> places = new ArrayList<>();
        for (int x : seen) {
            for (int l = 0; l < letters.get(x).lines.size(); l++) {
                places.add(new Place(x, l));
            }
        }
        return places;
    }

    private Map<Integer, List<List<Integer>>> pieces() {
        Set<Integer> seen = seenSet();
        Map<Integer, Integer> parents = parents(seen);
        Map<Integer, List<List<Integer>>> pieces = new TreeMap<>();
        for (Place place : places(seen)) {
            Line line = letters.get(place.x).lines.get(place.line);
            if (line.depth == 1 && heldTo(parents, place) == null) {
                pieces.computeIfAbsent(place.x, k -> new ArrayList<>()).add(line.text);
            }
        }
        return pieces;
    }

    private static List<Set<Integer>> groups(Map<Integer, List<List<Integer>>> pieces) {
        List<Set<Integer>> groups = new ArrayList<>();
        for (int x : pieces.keySet()) {
            Set<Integer> joined = new TreeSet<>(Set.of(x));
            List<Set<Integer>> others = new ArrayList<>();
            for (Set<Integer> group : groups) {
                boolean common = false;
                for (int y : group) {
                    common |= !Collections.disjoint(pieces.get(x), pieces.get(y));
                }
                if (common) {
                    joined.addAll(group);
                } else {
                    others.add(group);
                }
            }
            others.add(joined);
            groups = others;
        }
        groups.sort((a, b) -> Integer.compare(a.iterator().next(), b.iterator().next()));
        return groups;
    }

    private static int compareTexts(List<Integer> a, List<Integer> b) {
        for (int k = 0; k < Math.min(a.size(), b.size()); k++) {
            if (!a.get(k).equals(b.get(k))) {
                return Integer.compare(a.get(k), b.get(k));
            }
        }
        return Integer.compare(a.size(), b.size());
    }

    private static int compareRows(List<List<Integer>> a, List<List<Integer>> b) {
        if (a.size() != b.size()) {
            return Integer.compare(a.size(), b.size());
        }
        for (int k = 0; k < a.size(); k++) {
            int c = compareTexts(a.get(k), b.get(k));
            if (c != 0) {
                return c;
            }
        }
        return 0;
    }

    private static List<List<Integer>> row(List<List<List<Integer>>> rests,
            Map<List<List<List<Integer>>>, List<List<Integer>>> done) {
        if (rests.stream().allMatch(List::isEmpty)) {
            return new ArrayList<>();
        }
        List<List<Integer>> best = done.get(rests);
        if (best != null) {
            return best;
        }
        Set<List<Integer>> heads = new HashSet<>();
        for (List<List<Integer>> rest : rests) {
            if (!rest.isEmpty()) {
                heads.add(rest.get(0));
            }
        }
        for (List<Integer> head : heads) {
            List<List<List<Integer>>> next = new ArrayList<>();
            for (List<List<Integer>> rest : rests) {
                boolean goes = !rest.isEmpty() && rest.get(0).equals(head);
                next.add(goes ? rest.subList(1, rest.size()) : rest);
            }
            List<List<Integer>> candidate = new ArrayList<>();
            candidate.add(head);
            candidate.addAll(row(next, done));
            if (best == null || compareRows(candidate, best) < 0) {
                best = candidate;
            }
        }
        done.put(rests, best);
        return best;
    }

    private static List<List<Integer>> lostRow(Map<Integer, List<List<Integer>>> pieces, Set<Integer> group) {
        List<List<List<Integer>>> own = new ArrayList<>();
        for (int x : group) {
            own.add(pieces.get(x));
        }
        return row(own, new HashMap<>());
    }

    // ---- the calls

    int word(int w) {
        if (w < 1 || w > 63) {
            return OUTSIDE;
        }
        if (draft.size() == 8) {
            return FULL;
        }
        draft.add(w);
        return draft.size();
    }

    int letter(int writer, int day, int names) {
        if (names != NONE && !letterIs(names)) {
            return UNKNOWN;
        }
        return add(writer, day, names);
    }

    private int add(int writer, int day, int names) {
        if (writer < 0 || writer > 9 || day < -1 || day > 9999) {
            return OUTSIDE;
        }
        if (letters.size() == 40) {
            return FULL;
        }
        Letter letter = new Letter();
        letter.writer = writer;
        letter.day = day;
        letter.names = names;
        letters.add(letter);
        return letters.size() - 1;
    }

    int line(int x, int depth) {
        if (!letterIs(x)) {
            return UNKNOWN;
        }
        if (depth < 0 || depth > 5) {
            return OUTSIDE;
        }
        List<Line> lines = letters.get(x).lines;
        if (lines.size() == 14) {
            return FULL;
        }
        lines.add(new Line(depth, draft));
        draft = new ArrayList<>();
        return lines.size() - 1;
    }

    int answer(int x, int writer, int day) {
        if (!letterIs(x)) {
            return UNKNOWN;
        }
        int made = add(writer, day, x);
        if (made >= 0) {
            List<Line> quotes = new ArrayList<>();
            for (Line line : letters.get(x).lines) {
                if (line.depth + 1 <= deep) {
                    quotes.add(new Line(line.depth + 1, line.text));
                }
            }
            letters.get(made).lines.addAll(quotes.subList(Math.max(0, quotes.size() - keep), quotes.size()));
        }
        return made;
    }

    int take(int x) {
        return !letterIs(x) ? UNKNOWN : letters.get(x).taken ? NOT : turn(x);
    }

    int put(int x) {
        return !letterIs(x) ? UNKNOWN : !letters.get(x).taken ? NOT : turn(x);
    }

    private int turn(int x) {
        letters.get(x).taken = !letters.get(x).taken;
        return 1;
    }

    int known(int k) {
        if (k < -1 || k > letters.size()) {
            return OUTSIDE;
        }
        known = k;
        return k;
    }

    int about(int x, int what) {
        if (!letterIs(x)) {
            return UNKNOWN;
        }
        if (what < 0 || what > 11) {
            return OUTSIDE;
        }
        Letter letter = letters.get(x);
        Set<Integer> seen = seenSet();
        if (what < 6) {
            return new int[] {letter.writer, letter.day, letter.names, letter.lines.size(), quotedLines(x),
                seen.contains(x) ? 1 : 0}[what];
        }
        if (!seen.contains(x)) {
            return NONE;
        }
        Map<Integer, Integer> parents = parents(seen);
        List<Integer> way = way(parents, x);
        int root = way.get(way.size() - 1);
        switch (what) {
            case 6:
                return parents.getOrDefault(x, NONE);
            case 7:
                return root;
            case 8:
                return way.size() - 1;
            case 9:
                return (int) parents.values().stream().filter(y -> y == x).count();
            case 10:
                return (int) seen.stream().filter(y -> way(parents, y).contains(root)).count();
            default:
                return parents.containsKey(x) ? pairs(x, parents.get(x)) : NONE;
        }
    }

    int told(int x, int line, int what) {
        if (!lineIs(x, line)) {
            return UNKNOWN;
        }
        if (what < 0 || what > 9) {
            return OUTSIDE;
        }
        Line it = letters.get(x).lines.get(line);
        if (what < 2) {
            return what == 0 ? it.depth : it.text.size();
        }
        return what - 2 < it.text.size() ? it.text.get(what - 2) : NONE;
    }

    int differ(int x, int line, int y, int other) {
        if (!lineIs(x, line) || !lineIs(y, other)) {
            return UNKNOWN;
        }
        return distance(letters.get(x).lines.get(line).text, letters.get(y).lines.get(other).text);
    }

    int fit(int x, int y) {
        if (!letterIs(x) || !letterIs(y)) {
            return UNKNOWN;
        }
        return x == y || !seenSet().contains(x) || !seenSet().contains(y) ? NOT : pairs(x, y);
    }

    int count(int what) {
        if (what < 0 || what > 10) {
            return OUTSIDE;
        }
        Set<Integer> seen = seenSet();
        Map<Integer, Integer> parents = parents(seen);
        switch (what) {
            case 0:
                return letters.size();
            case 1:
                return seen.size();
            case 2:
                return draft.size();
            case 3:
                return seen.size() - parents.size();
            case 4:
                return (int) places(seen).stream().filter(p -> isAltered(parents, p)).count();
            case 5:
                return (int) places(seen).stream().filter(p -> source(parents, p) == null).count();
            case 6:
                return groups(pieces()).size();
            case 7:
                return quarrels().size();
            case 8:
                return pattern.size();
            case 9:
                return text.length();
            default:
                return known;
        }
    }

    private boolean isAltered(Map<Integer, Integer> parents, Place place) {
        Place other = heldTo(parents, place);
        return other != null
            && !letters.get(other.x).lines.get(other.line).text.equals(letters.get(place.x).lines.get(place.line).text);
    }

    int origin(int x, int line, int what) {
        if (!lineIs(x, line)) {
            return UNKNOWN;
        }
        if (what < 0 || what > 2) {
            return OUTSIDE;
        }
        Set<Integer> seen = seenSet();
        if (!seen.contains(x)) {
            return NOT;
        }
        Place source = source(parents(seen), new Place(x, line));
        return source == null ? NONE : what == 0 ? source.x : what == 1 ? source.line : letters.get(source.x).writer;
    }

    int altered(int x, int line) {
        if (!lineIs(x, line)) {
            return UNKNOWN;
        }
        Set<Integer> seen = seenSet();
        return !seen.contains(x) ? NOT : isAltered(parents(seen), new Place(x, line)) ? 1 : 0;
    }

    int echoes(int x, int line) {
        if (!lineIs(x, line)) {
            return UNKNOWN;
        }
        Set<Integer> seen = seenSet();
        Map<Integer, Integer> parents = parents(seen);
        Place it = new Place(x, line);
        return (int) places(seen).stream().filter(p -> it.equals(source(parents, p))).count();
    }

    int group(int x) {
        if (!letterIs(x)) {
            return UNKNOWN;
        }
        List<Set<Integer>> groups = groups(pieces());
        for (int g = 0; g < groups.size(); g++) {
            if (groups.get(g).contains(x)) {
                return g;
            }
        }
        return NONE;
    }

    int lost(int g, int what) {
        Map<Integer, List<List<Integer>>> pieces = pieces();
        List<Set<Integer>> groups = groups(pieces);
        if (g < 0 || g >= groups.size()) {
            return UNKNOWN;
        }
        if (what < 0 || what > 2) {
            return OUTSIDE;
        }
        Set<Integer> group = groups.get(g);
        if (what < 2) {
            return what == 0 ? group.size() : group.iterator().next();
        }
        return group.size() > 4 ? LARGE : lostRow(pieces, group).size();
    }

    int lostWord(int g, int i, int k) {
        Map<Integer, List<List<Integer>>> pieces = pieces();
        List<Set<Integer>> groups = groups(pieces);
        if (g < 0 || g >= groups.size()) {
            return UNKNOWN;
        }
        if (groups.get(g).size() > 4) {
            return LARGE;
        }
        List<List<Integer>> row = lostRow(pieces, groups.get(g));
        if (i < 0 || i >= row.size()) {
            return NONE;
        }
        return k == NONE ? row.get(i).size() : k >= 0 && k < row.get(i).size() ? row.get(i).get(k) : NONE;
    }

    int order(int i) {
        Set<Integer> left = seenSet();
        Map<Integer, Integer> parents = parents(left);
        List<Integer> written = new ArrayList<>();
        while (!left.isEmpty()) {
            for (int x : left) {
                if (!parents.containsKey(x) || written.contains(parents.get(x))) {
                    written.add(x);
                    left.remove(x);
                    break;
                }
            }
        }
        return i >= 0 && i < written.size() ? written.get(i) : NONE;
    }

    private List<Integer> quarrels() {
        List<Integer> quarrels = new ArrayList<>();
        parents(seenSet()).forEach((x, y) -> {
            int day = letters.get(x).day;
            if (day != NONE && letters.get(y).day != NONE && day < letters.get(y).day) {
                quarrels.add(x);
            }
        });
        return quarrels;
    }

    int quarrel(int i) {
        List<Integer> quarrels = quarrels();
        return i >= 0 && i < quarrels.size() ? quarrels.get(i) : NONE;
    }

    int span(int x, int what) {
        if (!letterIs(x)) {
            return UNKNOWN;
        }
        if (what < 0 || what > 1) {
            return OUTSIDE;
        }
        Set<Integer> seen = seenSet();
        if (!seen.contains(x)) {
            return NOT;
        }
        if (letters.get(x).day != NONE) {
            return letters.get(x).day;
        }
        Map<Integer, Integer> parents = parents(seen);
        int answer = what == 0 ? 0 : 9999;
        for (int y : seen) {
            int day = letters.get(y).day;
            if (day == NONE) {
                continue;
            }
            if (what == 0 && way(parents, x).contains(y)) {
                answer = Math.max(answer, day);
            }
            if (what == 1 && way(parents, y).contains(x)) {
                answer = Math.min(answer, day);
            }
        }
        return answer;
    }

    int sign(int w) {
        if (w < 0 || w > 63) {
            return OUTSIDE;
        }
        if (pattern.size() == 4) {
            return FULL;
        }
        pattern.add(w);
        return pattern.size();
    }

    int clear() {
        int had = pattern.size();
        pattern.clear();
        return had;
    }

    int seek(int writer, int where, int i) {
        if (writer < -1 || writer > 9 || where < 0 || where > 2) {
            return OUTSIDE;
        }
        if (pattern.isEmpty()) {
            return NOT;
        }
        List<Integer> found = new ArrayList<>();
        for (Place place : places(seenSet())) {
            Line line = letters.get(place.x).lines.get(place.line);
            boolean fits = writer == NONE || letters.get(place.x).writer == writer;
            fits &= where == 0 || where == 1 && line.depth == 0 || where == 2 && line.depth > 0;
            boolean stands = false;
            for (int from = 0; from + pattern.size() <= line.text.size(); from++) {
                boolean here = true;
                for (int k = 0; k < pattern.size(); k++) {
                    here &= pattern.get(k) == 0 || pattern.get(k).equals(line.text.get(from + k));
                }
                stands |= here;
            }
            if (fits && stands) {
                found.add(14 * place.x + place.line);
            }
        }
        return i == NONE ? found.size() : i >= 0 && i < found.size() ? found.get(i) : NONE;
    }

    int still(int x) {
        if (!letterIs(x)) {
            return UNKNOWN;
        }
        if (!letters.get(x).taken) {
            return NOT;
        }
        Set<Integer> seen = seenSet();
        letters.get(x).taken = false;
        Map<Integer, Integer> parents = parents(seenSet());
        letters.get(x).taken = true;
        int set = 0;
        for (int l = 0; l < letters.get(x).lines.size(); l++) {
            Place own = new Place(x, l);
            for (Place place : places(seen)) {
                Line line = letters.get(place.x).lines.get(place.line);
                if (line.depth > 0 && line.text.equals(letters.get(x).lines.get(l).text)
                    && own.equals(source(parents, place))) {
                    set |= 1 << l;
                }
            }
        }
        return set;
    }

    int feed(int n, long bytes) {
        if (n < 1 || n > 8) {
            return OUTSIDE;
        }
        if (text.length() + n > 120) {
            return FULL;
        }
        for (int k = n - 1; k >= 0; k--) {
            text.append((char) (bytes >> 8 * k & 255));
        }
        return text.length();
    }

    int read() {
        String all = text.toString();
        text.setLength(0);
        faultAt = NONE;
        List<String> tokens = new ArrayList<>();
        List<Integer> starts = new ArrayList<>();
        java.util.regex.Matcher matcher = java.util.regex.Pattern.compile("[a-z]+|[0-9]+|[^ ]", java.util.regex.Pattern.DOTALL).matcher(all);
        while (matcher.find()) {
            tokens.add(matcher.group());
            starts.add(matcher.start());
        }
        tokens.add("END");
        starts.add(all.length());
        Map<String, Integer> bounds = Map.of("near", 2, "fit", 100, "keep", 14, "deep", 5, "trust", 1);
        Map<String, Integer> told = new HashMap<>();
        int kinds = 0;
        for (int t = 0; t < tokens.size(); t++) {
            String token = tokens.get(t);
            if (t % 3 == 0 && token.equals("END")) {
                break;
            }
            String kind = tokens.get(t - t % 3);
            int wrong = 0;
            if (t % 3 == 0) {
                wrong = !bounds.containsKey(token) ? 1 : told.containsKey(token) ? 3 : 0;
            } else if (t % 3 == 2) {
                wrong = token.equals(";") ? 0 : 1;
            } else if (kind.equals("trust")) {
                wrong = token.equals("yes") || token.equals("no") ? 0 : 1;
                told.put(kind, token.equals("yes") ? 1 : 0);
            } else if (!token.matches("[0-9]+")) {
                wrong = 1;
            } else if (token.length() > 3 || Integer.parseInt(token) > bounds.get(kind)) {
                wrong = 2;
            } else {
                told.put(kind, Integer.parseInt(token));
            }
            if (wrong != 0) {
                faultAt = starts.get(t);
                return -10 - wrong;
            }
        }
        near = told.getOrDefault("near", 0);
        fit = told.getOrDefault("fit", 50);
        trust = told.getOrDefault("trust", 1);
        keep = told.getOrDefault("keep", 14);
        deep = told.getOrDefault("deep", 5);
        return told.size();
    }

    int fault() {
        return faultAt;
    }

    int rule(int what) {
        return what < 0 || what > 4 ? OUTSIDE : new int[] {near, fit, trust, keep, deep}[what];
    }
}
