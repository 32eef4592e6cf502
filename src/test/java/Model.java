import java.util.ArrayList;
import java.util.Arrays;
import java.util.Comparator;
import java.util.List;
import java.util.regex.Matcher;
import java.util.regex.Pattern;

/**
 * The document a second time, as slow and as near to its words as it goes: WAYS are listed one by one, values are
 * tried out, choices are sorted. It shares nothing with the class but the document.
 */
final class Model {
    static final int BAD = -1, NO = -2, FULL = -3, NONE = -4;

    /** KINDS and BOUNDS (from, to, weight). */
    private record Held(List<Integer> kinds, List<int[]> bounds) {
        Held copied() {
            return new Held(new ArrayList<>(kinds), new ArrayList<>(bounds));
        }
    }

    private record Way(int length, List<Integer> levels) { }

    private record Term(int level, int k) { }

    private static final Pattern ITEM = Pattern.compile("(v)(\\d\\d?);|([cd])(\\d\\d?),(\\d\\d?),(\\d\\d?);");

    private final StringBuilder text = new StringBuilder(
            "v0;v1;v0;v3;v2;v1;v0;c0,1,1;c1,0,3;d3,2,2;c2,1,4;c4,2,5;c0,3,5;d5,6,1;c6,0,0;");
    private Held now;
    private final List<Held> history = new ArrayList<>();
    private final List<Held> kept = new ArrayList<>();
    private final List<Term> terms = new ArrayList<>();
    private Way round;
    private int above;
    private int refused;

    Model() {
        lay();
        text.setLength(0);
    }

    // ---- levels

    int write(int letter) {
        if (letter < 32 || letter > 126) {
            return BAD;
        }
        if (text.length() == 200) {
            return FULL;
        }
        return text.append((char) letter).length();
    }

    int wipe() {
        int was = text.length();
        text.setLength(0);
        return was;
    }

    int fault() {
        return read(new ArrayList<>());
    }

    /** FAULT or NONE; the ITEMS ahead of it. */
    private int read(List<int[]> items) {
        Matcher matcher = ITEM.matcher(text);
        int at = 0;
        int levels = 0;
        while (at < text.length()) {
            if (!matcher.find(at) || matcher.start() != at) {
                return at;
            }
            if (matcher.group(1) != null) {
                int kind = Integer.parseInt(matcher.group(2));
                if (kind > 3 || ++levels > 10) {
                    return at;
                }
                items.add(new int[] {kind});
            } else {
                int a = Integer.parseInt(matcher.group(4));
                int b = Integer.parseInt(matcher.group(5));
                int c = Integer.parseInt(matcher.group(6));
                boolean isC = matcher.group(3).equals("c");
                int[] asked = isC ? new int[] {a, b, c} : new int[] {a, -c, b};
                if (asked[0] >= levels || asked[2] >= levels || asked[0] == asked[2] || Math.abs(asked[1]) > 9) {
                    return at;
                }
                items.add(asked);
            }
            at = matcher.end();
        }
        return NONE;
    }

    int lay() {
        List<int[]> items = new ArrayList<>();
        if (read(items) != NONE || items.stream().noneMatch(item -> item.length == 1)) {
            return NO;
        }
        now = new Held(new ArrayList<>(), new ArrayList<>());
        terms.clear();
        kept.clear();
        round = null;
        refused = 0;
        for (int[] item : items) {
            if (item.length == 1) {
                now.kinds.add(item[0]);
            } else {
                ask(item[0], item[1], item[2]);
            }
        }
        history.clear();
        return now.bounds.size();
    }

    int level(int u, int what) {
        if (isNoLevel(u) || what < 0 || what > 4) {
            return BAD;
        }
        int[] values = values(-1, 0);
        switch (what) {
            case 0:
                return now.kinds.get(u);
            case 1:
                return values[u];
            case 2:
                List<Integer> order = new ArrayList<>();
                for (int v = 0; v < now.kinds.size(); v++) {
                    order.add(v);
                }
                order.sort(Comparator.comparing(v -> values[v]));
                return order.indexOf(u);
            case 3:
                int bits = 0;
                for (int v = 0; v < now.kinds.size(); v++) {
                    Integer there = reachOver(now.bounds, u, v);
                    Integer back = reachOver(now.bounds, v, u);
                    bits |= there != null && back != null && there == 0 && back == 0 ? 1 << v : 0;
                }
                return bits;
            default:
                return isFloating(u) ? 1 : 0;
        }
    }

    int bound(int b, int what) {
        if (isNoBound(b) || what < 0 || what > 4) {
            return BAD;
        }
        int[] bound = now.bounds.get(b);
        List<int[]> others = new ArrayList<>(now.bounds);
        others.remove(b);
        switch (what) {
            case 3:
                Integer without = reachOver(others, bound[0], bound[1]);
                return without != null && without >= bound[2] ? 1 : 0;
            case 4:
                if (reachOver(others, bound[1], bound[0]) == null) {
                    return NONE;
                }
                int slack = 0;
                while (!isRefused(others, bound[0], bound[2] + slack + 1, bound[1])) {
                    slack++;
                }
                return slack;
            default:
                return what == 2 ? bound[2] + 100 : bound[what];
        }
    }

    int reach(int u, int v) {
        if (isNoLevel(u) || isNoLevel(v)) {
            return BAD;
        }
        Integer length = reachOver(now.bounds, u, v);
        return length == null ? NONE : 1000 + length;
    }

    // ---- acts

    int ask(int u, int k, int v) {
        if (isNoLevel(u) || isNoLevel(v) || u == v || k < -9 || k > 9) {
            return BAD;
        }
        int weight = weight(k, v);
        if (isRefused(now.bounds, u, weight, v)) {
            refused++;
            round = ways(now.bounds, v, u).stream().min(Comparator.comparing((Way way) -> -way.length)
                    .thenComparing(way -> way.levels.size()).thenComparing(way -> way.levels.toString())).get();
            above = round.length + weight;
            return NO;
        }
        if (now.bounds.size() == 16) {
            return FULL;
        }
        history.add(now.copied());
        now.bounds.add(new int[] {u, v, weight});
        return now.bounds.size() - 1;
    }

    int retract(int b) {
        if (isNoBound(b)) {
            return BAD;
        }
        history.add(now.copied());
        now.bounds.remove(b);
        return now.bounds.size();
    }

    int rename(int u, int kind) {
        if (isNoLevel(u) || kind < 0 || kind > 3) {
            return BAD;
        }
        if (now.kinds.get(u) == kind) {
            return NO;
        }
        history.add(now.copied());
        return now.kinds.set(u, kind);
    }

    int undo() {
        trim();
        if (history.isEmpty()) {
            return NO;
        }
        now = history.remove(history.size() - 1);
        return history.size();
    }

    private void trim() {
        while (history.size() > 8) {
            history.remove(0);
        }
    }

    int round(int i) {
        if (i < -1 || i > 10) {
            return BAD;
        }
        if (round == null) {
            return NONE;
        }
        if (i == 10) {
            return above;
        }
        return i == -1 ? round.levels.size() : i < round.levels.size() ? round.levels.get(i) : NONE;
    }

    // ---- what follows

    int follows(int u, int k, int v) {
        if (isNoLevel(u) || isNoLevel(v) || k < -9 || k > 9) {
            return BAD;
        }
        return isSo(u, k, v) ? 1 : 0;
    }

    int raised(int u, int x, int v) {
        if (isNoLevel(u) || isNoLevel(v) || x < 0 || x > 99) {
            return BAD;
        }
        return values(u, x)[v];
    }

    int top(int u, int x, int v) {
        if (isNoLevel(u) || isNoLevel(v) || x < 0 || x > 99) {
            return BAD;
        }
        int greatest = NONE;
        for (int tried = 0; tried <= 400; tried++) {
            if (values(v, tried)[u] <= x && values(v, tried)[v] == tried) {
                greatest = tried;
            }
        }
        return greatest == NONE || greatest == 400 ? NONE : 1000 + greatest;
    }

    int stands(int u, int k, int v, int i) {
        if (isNoLevel(u) || isNoLevel(v) || u == v || k < -9 || k > 9 || i < -1 || i > 2) {
            return BAD;
        }
        List<List<Integer>> choices = new ArrayList<>();
        for (int bits = 0; bits < 1 << now.bounds.size(); bits++) {
            if (Integer.bitCount(bits) <= 3) {
                List<Integer> choice = new ArrayList<>();
                for (int b = 0; b < 16; b++) {
                    if ((bits >> b & 1) == 1) {
                        choice.add(b);
                    }
                }
                choices.add(choice);
            }
        }
        choices.sort(Comparator.comparing((List<Integer> choice) -> choice.size())
                .thenComparing((a, b) -> Arrays.compare(row(a), row(b))));
        for (List<Integer> choice : choices) {
            List<int[]> left = new ArrayList<>();
            for (int b = 0; b < now.bounds.size(); b++) {
                if (!choice.contains(b)) {
                    left.add(now.bounds.get(b));
                }
            }
            if (!isRefused(left, u, weight(k, v), v)) {
                return i == -1 ? choice.size() : i < choice.size() ? choice.get(i) : NONE;
            }
        }
        return NONE;
    }

    private static int[] row(List<Integer> numbers) {
        return numbers.stream().mapToInt(Integer::intValue).toArray();
    }

    // ---- the greatest of rows

    int term(int u, int k) {
        if (isNoLevel(u) || k < -9 || k > 9) {
            return BAD;
        }
        if (terms.size() == 6) {
            return FULL;
        }
        terms.add(new Term(u, k));
        return terms.size();
    }

    int empty() {
        int had = terms.size();
        terms.clear();
        return had;
    }

    int brief() {
        int bits = 0;
        for (int i : shortOnes(terms)) {
            bits |= 1 << i;
        }
        return bits;
    }

    private List<Integer> shortOnes(List<Term> of) {
        List<Integer> found = new ArrayList<>();
        for (int i = 0; i < of.size(); i++) {
            boolean covered = false;
            for (int j = 0; j < of.size(); j++) {
                boolean noMore = isSo(of.get(i).level, of.get(i).k - of.get(j).k, of.get(j).level);
                boolean round = isSo(of.get(j).level, of.get(j).k - of.get(i).k, of.get(i).level);
                covered |= i != j && noMore && (!round || j < i);
            }
            if (!covered) {
                found.add(i);
            }
        }
        return found;
    }

    int below(int v, int k) {
        if (isNoLevel(v) || k < -9 || k > 9) {
            return BAD;
        }
        return terms.stream().allMatch(term -> isSo(term.level, term.k - k, v)) ? 1 : 0;
    }

    int worth() {
        int[] values = values(-1, 0);
        return Math.max(0, terms.stream().mapToInt(term -> values[term.level] + term.k).max().orElse(0));
    }

    // ---- floating levels

    int roots(int u) {
        if (isNoLevel(u)) {
            return BAD;
        }
        if (!isFloating(u)) {
            return NO;
        }
        List<Term> rows = new ArrayList<>();
        for (int root : rootsOf(u)) {
            rows.add(new Term(root, reachOver(now.bounds, root, u)));
        }
        int bits = 0;
        for (int i : shortOnes(rows)) {
            bits |= 1 << rows.get(i).level;
        }
        return bits;
    }

    private List<Integer> rootsOf(int u) {
        List<Integer> found = new ArrayList<>();
        for (int root = 0; root < now.kinds.size(); root++) {
            if (!isFloating(root) && reachOver(now.bounds, root, u) != null) {
                found.add(root);
            }
        }
        return found;
    }

    int loose(int u, int what) {
        if (isNoLevel(u) || what < 0 || what > 1) {
            return BAD;
        }
        if (!isFloating(u)) {
            return NO;
        }
        if (what == 1) {
            for (int root : rootsOf(u)) {
                Integer back = reachOver(now.bounds, u, root);
                if (back != null && back + reachOver(now.bounds, root, u) == 0) {
                    return 1;
                }
            }
            return 0;
        }
        for (int v = 0; v < now.kinds.size(); v++) {
            if (!isFloating(v) && reachOver(now.bounds, u, v) != null) {
                return 0;
            }
        }
        return rootsOf(u).isEmpty() ? 1 : 0;
    }

    // ---- kept

    int keep() {
        if (kept.size() == 2) {
            return FULL;
        }
        kept.add(now.copied());
        return kept.size();
    }

    int back() {
        if (kept.isEmpty()) {
            return NO;
        }
        now = kept.remove(kept.size() - 1);
        history.clear();
        return kept.size();
    }

    int count(int what) {
        trim();
        int levels = now.kinds.size();
        switch (what) {
            case 0:
                return levels;
            case 1:
                return now.bounds.size();
            case 2:
                return refused;
            case 3:
                return Arrays.stream(values(-1, 0)).max().getAsInt();
            case 4:
                return (int) now.kinds.stream().filter(kind -> kind == 1 || kind == 3).count();
            case 5:
                return terms.size();
            case 6:
                return history.size();
            case 7:
                return kept.size();
            case 8:
                return text.length();
            case 9:
                int pairs = 0;
                for (int u = 0; u < levels; u++) {
                    for (int v = 0; v < levels; v++) {
                        pairs += u != v && reachOver(now.bounds, u, v) != null ? 1 : 0;
                    }
                }
                return pairs;
            default:
                return BAD;
        }
    }

    // ---- the words of the document

    private boolean isNoLevel(int u) {
        return u < 0 || u >= now.kinds.size();
    }

    private boolean isNoBound(int b) {
        return b < 0 || b >= now.bounds.size();
    }

    private boolean isFloating(int u) {
        return now.kinds.get(u) % 2 == 1;
    }

    private int weight(int k, int v) {
        return k + new int[] {0, 0, 1, -1}[now.kinds.get(v)];
    }

    /** All WAYS that come to no LEVEL twice: no round is above 0, so no other WAY is longer or of fewer BOUNDS. */
    private List<Way> ways(List<int[]> over, int from, int to) {
        List<Way> found = new ArrayList<>();
        follow(over, to, new Way(0, List.of(from)), found);
        return found;
    }

    private static void follow(List<int[]> over, int to, Way way, List<Way> found) {
        int at = way.levels.get(way.levels.size() - 1);
        if (at == to) {
            found.add(way);
            return;
        }
        for (int[] bound : over) {
            if (bound[0] == at && !way.levels.contains(bound[1])) {
                List<Integer> levels = new ArrayList<>(way.levels);
                levels.add(bound[1]);
                follow(over, to, new Way(way.length + bound[2], levels), found);
            }
        }
    }

    /** null: there is no WAY. */
    private Integer reachOver(List<int[]> over, int from, int to) {
        Integer greatest = null;
        for (Way way : ways(over, from, to)) {
            greatest = greatest == null ? way.length : Math.max(greatest, way.length);
        }
        return greatest;
    }

    private boolean isRefused(List<int[]> over, int u, int weight, int v) {
        Integer back = reachOver(over, v, u);
        return back != null && back + weight > 0;
    }

    private boolean isSo(int u, int k, int v) {
        Integer length = reachOver(now.bounds, u, v);
        return length != null && length >= k;
    }

    /** The least VALUES, that of u (if there is one) being x at least. */
    private int[] values(int u, int x) {
        int[] values = new int[now.kinds.size()];
        if (u >= 0) {
            values[u] = x;
        }
        boolean changed = true;
        while (changed) {
            changed = false;
            for (int[] bound : now.bounds) {
                if (values[bound[0]] + bound[2] > values[bound[1]]) {
                    values[bound[1]] = values[bound[0]] + bound[2];
                    changed = true;
                }
            }
        }
        return values;
    }
}
