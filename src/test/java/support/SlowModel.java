import java.util.ArrayDeque;
import java.util.ArrayList;
import java.util.Arrays;
import java.util.HashMap;
import java.util.HashSet;
import java.util.List;
import java.util.Map;
import java.util.Set;

/**
 * The document once more, in the slowest and plainest form: rows are texts of figures, every question is answered by
 * trying all there is. It shares nothing with the class but the document.
 */
final class SlowModel {
    static final int NONE = -1, UNKNOWN = -1000000001, OUTSIDE = -1000000002, NOT = -1000000003, FULL = -1000000004;

    /** Section 2; copied whole. */
    private static final class Now {
        String row = "";
        int sinceStand = 0;
        int rung = 0;
        boolean called = false;
        boolean wet = false;
        List<Integer> bellOf = new ArrayList<>();
        List<Integer> tired = new ArrayList<>();
        Set<Integer> out = new HashSet<>();

        Now copy() {
            Now c = new Now();
            c.row = row;
            c.sinceStand = sinceStand;
            c.rung = rung;
            c.called = called;
            c.wet = wet;
            c.bellOf = new ArrayList<>(bellOf);
            c.tired = new ArrayList<>(tired);
            c.out = new HashSet<>(out);
            return c;
        }
    }

    private static final class Told {
        List<Integer> weights = new ArrayList<>();
        List<Integer> method = new ArrayList<>();
        List<Integer> strengths = new ArrayList<>();
        List<Integer> call = new ArrayList<>();
    }

    private static final class Fault extends RuntimeException {
        private static final long serialVersionUID = 1L;
        final int number;
        final int at;

        Fault(int number, int at) {
            this.number = number;
            this.at = at;
        }
    }

    private final StringBuilder text = new StringBuilder();
    private Told told = new Told();
    private Now now = new Now();
    private final ArrayDeque<Now> past = new ArrayDeque<>();
    private final Map<Integer, Now> images = new HashMap<>();
    private final Map<Integer, Long> imageSeeds = new HashMap<>();
    private final List<int[]> heardAt = new ArrayList<>();
    private final List<int[]> book = new ArrayList<>();
    private long seed = 0;
    private int faultAt = NONE;

    // ---- text

    int feed(int letter) {
        if (letter < 0 || letter > 255) return OUTSIDE;
        if (text.length() == 240) return FULL;
        text.append((char) letter);
        return text.length();
    }

    private record Token(int at, String word) {
        boolean number() {
            return Character.isDigit(word.isEmpty() ? 'x' : word.charAt(0)) && word.charAt(0) < 128;
        }
    }

    private static List<Token> tokens(String s) {
        List<Token> all = new ArrayList<>();
        int i = 0;
        while (i < s.length()) {
            int k = i + 1;
            if (s.charAt(i) >= '0' && s.charAt(i) <= '9') {
                while (k < s.length() && s.charAt(k) >= '0' && s.charAt(k) <= '9') k++;
            }
            if (s.charAt(i) != ' ') all.add(new Token(i, s.substring(i, k)));
            i = k;
        }
        all.add(new Token(s.length(), ""));
        return all;
    }

    private static Told read(String s) {
        Told t = new Told();
        List<Token> all = tokens(s);
        String state = "clause";
        String kind = "";
        for (Token k : all) {
            if (state.equals("clause")) {
                if (k.word().isEmpty()) return t;
                if (!List.of("b", "m", "r", "c").contains(k.word())) throw new Fault(1, k.at());
                kind = k.word();
                if (t.weights.isEmpty() && !kind.equals("b")) throw new Fault(1, k.at());
                if (kind.equals("b") && !t.weights.isEmpty()) throw new Fault(3, k.at());
                if (kind.equals("m") && !t.method.isEmpty()) throw new Fault(3, k.at());
                if (kind.equals("c") && !t.call.isEmpty()) throw new Fault(3, k.at());
                if (kind.equals("r") && t.strengths.size() == t.weights.size()) throw new Fault(3, k.at());
                state = "number";
            } else if (state.equals("number")) {
                if (!k.number()) throw new Fault(1, k.at());
                readNumber(t, kind, k);
                state = "sign";
            } else if (k.word().equals(",")) {
                if (kind.equals("r") || kind.equals("c")) throw new Fault(1, k.at());
                if (kind.equals("b") && t.weights.size() == 6) throw new Fault(1, k.at());
                if (kind.equals("m") && t.method.size() == 12) throw new Fault(1, k.at());
                state = "number";
            } else if (k.word().equals(";")) {
                if (kind.equals("b") && t.weights.size() < 3) throw new Fault(1, k.at());
                state = "clause";
            } else {
                throw new Fault(1, k.at());
            }
        }
        throw new IllegalStateException("the end token ends the text");
    }

    private static void readNumber(Told t, String kind, Token k) {
        if (k.word().length() > 3) throw new Fault(2, k.at());
        int v = Integer.parseInt(k.word());
        if (kind.equals("b") || kind.equals("r")) {
            if (v < 1 || v > 20) throw new Fault(2, k.at());
            (kind.equals("b") ? t.weights : t.strengths).add(v);
        } else {
            if (v >= Math.pow(2, t.weights.size())) throw new Fault(2, k.at());
            if (!ByHand.isChange(v, t.weights.size())) throw new Fault(4, k.at());
            (kind.equals("m") ? t.method : t.call).add(v);
        }
    }

    int tower() {
        String s = text.toString();
        text.setLength(0);
        Told t;
        try {
            t = read(s);
        } catch (Fault f) {
            faultAt = f.at;
            return -10 - f.number;
        }
        faultAt = NONE;
        told = t;
        int all = (1 << t.weights.size()) - 1;
        if (!t.weights.isEmpty() && t.method.isEmpty()) t.method.add(all);
        if (!t.weights.isEmpty() && t.call.isEmpty()) t.call.add(all);
        now = new Now();
        now.row = rounds();
        for (int r = 0; r < t.strengths.size(); r++) {
            now.bellOf.add(r);
            now.tired.add(0);
        }
        past.clear();
        images.clear();
        heardAt.clear();
        book.clear();
        return bells();
    }

    int fault() {
        return faultAt;
    }

    // ---- helpers

    private int bells() {
        return told.weights.size();
    }

    private int suitors() {
        return told.strengths.size();
    }

    private boolean noTower() {
        return bells() == 0;
    }

    private String rounds() {
        return ByHand.rounds(bells());
    }

    private boolean isRow(int v) {
        char[] c = Integer.toString(v).toCharArray();
        Arrays.sort(c);
        return !noTower() && new String(c).equals(rounds());
    }

    private boolean badBell(int b) {
        return b < 0 || b >= bells();
    }

    private boolean badSuitor(int r) {
        return r < 0 || r >= suitors();
    }

    private static int setOf(Set<Integer> s) {
        int v = 0;
        for (int k : s) v |= 1 << k;
        return v;
    }

    private int lead() {
        return noTower() ? 0 : now.sinceStand % told.method.size();
    }

    private int suitorOf(int bell) {
        return now.bellOf.indexOf(bell);
    }

    /** Rows 0 (now) to n, tried. */
    private List<String> ahead(int n) {
        List<String> rows = new ArrayList<>();
        rows.add(now.row);
        for (int i = 0; i < n; i++) {
            int set = told.method.get((now.sinceStand + i) % told.method.size());
            if (i == 0 && now.called) set = told.call.get(0);
            rows.add(ByHand.changed(rows.get(i), set));
        }
        return rows;
    }

    private List<String> plain(int n) {
        List<String> rows = new ArrayList<>();
        rows.add(rounds());
        for (int i = 0; i < n; i++) rows.add(ByHand.changed(rows.get(i), told.method.get(i % told.method.size())));
        return rows;
    }

    private void remember() {
        past.addLast(now.copy());
        if (past.size() > 16) past.removeFirst();
    }

    private int wed() {
        if (suitors() < 2 || now.out.size() != suitors() - 1) return NONE;
        int r = 0;
        while (now.out.contains(r)) r++;
        return r;
    }

    private Set<Integer> late() {
        Set<Integer> fits = new HashSet<>();
        for (int b = 0; b < bells(); b++) {
            boolean all = true;
            for (int[] h : heardAt) {
                String was = plain(h[0]).get(h[0]);
                all &= ByHand.heardWith(was, b).equals(Integer.toString(h[1]));
            }
            if (all) fits.add(b);
        }
        return fits;
    }

    // ---- the face

    int told(int what) {
        return switch (what) {
            case 0 -> bells();
            case 1 -> told.method.size();
            case 2 -> suitors();
            case 3 -> text.length();
            case 4 -> now.rung;
            case 5 -> ByHand.asNumber(now.row);
            case 6 -> setOf(now.out);
            case 7 -> wed();
            case 8 -> now.called ? 1 : 0;
            case 9 -> now.wet ? 1 : 0;
            case 10 -> lead();
            case 11 -> heardAt.size();
            case 12 -> setOf(late());
            case 13 -> book.size();
            case 14 -> past.size();
            default -> OUTSIDE;
        };
    }

    int method(int i) {
        if (noTower()) return NOT;
        if (i == NONE) return told.call.get(0);
        return i < 0 || i >= told.method.size() ? NONE : told.method.get(i);
    }

    int bell(int b, int what) {
        if (badBell(b)) return UNKNOWN;
        return switch (what) {
            case 0 -> told.weights.get(b);
            case 1 -> now.row.indexOf((char) ('1' + b));
            case 2 -> suitorOf(b);
            default -> OUTSIDE;
        };
    }

    int suitor(int r, int what) {
        if (badSuitor(r)) return UNKNOWN;
        return switch (what) {
            case 0 -> told.strengths.get(r);
            case 1 -> now.bellOf.get(r);
            case 2 -> now.tired.get(r);
            case 3 -> now.out.contains(r) ? 1 : 0;
            default -> OUTSIDE;
        };
    }

    private void ringOne() {
        now.row = ahead(1).get(1);
        now.called = false;
        now.sinceStand++;
        now.rung++;
        for (int r = 0; r < suitors(); r++) {
            if (now.out.contains(r)) continue;
            int more = told.weights.get(now.bellOf.get(r)) - told.strengths.get(r);
            if (more < 0) more = 0;
            if (now.wet) more++;
            now.tired.set(r, Math.min(9999, now.tired.get(r) + more));
        }
        if (lead() == 0 && suitors() - now.out.size() >= 2) {
            int r = suitorOf(now.row.charAt(bells() - 1) - '1');
            if (r >= 0) now.out.add(r);
        }
    }

    int ring(int n) {
        if (n < 1 || n > 200) return OUTSIDE;
        if (noTower()) return NOT;
        if (now.rung > 9000) return FULL;
        remember();
        for (int i = 0; i < n; i++) ringOne();
        return ByHand.asNumber(now.row);
    }

    int call() {
        if (noTower() || now.called) return NOT;
        remember();
        now.called = true;
        return lead();
    }

    private void change2(int r, int q) {
        int b = now.bellOf.get(r);
        now.bellOf.set(r, now.bellOf.get(q));
        now.bellOf.set(q, b);
    }

    int swap(int r, int q) {
        if (badSuitor(r) || badSuitor(q) || r == q) return UNKNOWN;
        remember();
        change2(r, q);
        return now.bellOf.get(r);
    }

    int stand() {
        if (noTower()) return NOT;
        remember();
        int was = ByHand.asNumber(now.row);
        now.row = rounds();
        now.sinceStand = 0;
        now.called = false;
        now.tired.replaceAll(t -> 0);
        return was;
    }

    int wet(boolean is) {
        if (noTower()) return NOT;
        remember();
        int was = now.wet ? 1 : 0;
        now.wet = is;
        return was;
    }

    int forgive(int r) {
        if (badSuitor(r)) return UNKNOWN;
        if (!now.out.contains(r)) return NOT;
        remember();
        now.out.remove(r);
        return setOf(now.out);
    }

    private int draw(int n) {
        seed = ByHand.nextSeed(seed);
        return ByHand.drawOf(seed, n);
    }

    int drift(int n) {
        if (n < 1 || n > 60) return OUTSIDE;
        if (noTower()) return NOT;
        if (now.rung > 9000) return FULL;
        remember();
        for (int i = 0; i < n; i++) {
            int d = draw(8);
            if (d == 0) now.called = true;
            if (d == 1) now.wet = !now.wet;
            if (d == 2 && suitors() > 0) {
                int r = draw(suitors());
                int q = draw(suitors());
                if (r != q) change2(r, q);
            }
            ringOne();
        }
        return ByHand.asNumber(now.row);
    }

    int undo() {
        if (past.isEmpty()) return NOT;
        now = past.removeLast();
        return past.size();
    }

    int rowAt(int n) {
        if (n < 0 || n > 500) return OUTSIDE;
        if (noTower()) return NOT;
        return ByHand.asNumber(ahead(n).get(n));
    }

    int placeAt(int b, int n) {
        if (badBell(b)) return UNKNOWN;
        if (n < 0 || n > 500) return OUTSIDE;
        return ahead(n).get(n).indexOf((char) ('1' + b));
    }

    int round() {
        if (noTower()) return NOT;
        int at = ahead(1000).subList(1, 1001).indexOf(rounds());
        return at < 0 ? NONE : at + 1;
    }

    int trueFor() {
        if (noTower()) return NOT;
        List<String> rows = ahead(721);
        int n = 1;
        while (!rows.subList(0, n).contains(rows.get(n))) n++;
        return n - 1;
    }

    int touch(int n, int what) {
        if (n < 1 || n > 8 || what < 0 || what > 1) return OUTSIDE;
        if (noTower()) return NOT;
        int count = 0;
        int first = NONE;
        for (int set = 0; set < 1 << n; set++) {
            if (!isTouch(n, set)) continue;
            count++;
            if (first == NONE) first = set;
        }
        return what == 0 ? count : first;
    }

    private boolean isTouch(int n, int set) {
        List<String> rows = new ArrayList<>();
        String row = rounds();
        for (int l = 0; l < n; l++) {
            for (int i = 0; i < told.method.size(); i++) {
                rows.add(row);
                boolean called = i == told.method.size() - 1 && (set >> l) % 2 == 1;
                row = ByHand.changed(row, called ? told.call.get(0) : told.method.get(i));
            }
        }
        return row.equals(rounds()) && new HashSet<>(rows).size() == rows.size();
    }

    int ropes(int r) {
        if (r != NONE && badSuitor(r)) return UNKNOWN;
        int best = Integer.MAX_VALUE;
        List<Integer> found = new ArrayList<>();
        for (List<Integer> way : orders(suitors())) {
            int sum = 0;
            for (int s = 0; s < way.size(); s++) sum += Math.max(0, told.weights.get(way.get(s)) - told.strengths.get(s));
            if (sum < best) {
                best = sum;
                found = way;
            }
        }
        return r == NONE ? best : found.get(r);
    }

    /** All orders of 0 to n less 1, the lesser ones first. */
    private static List<List<Integer>> orders(int n) {
        List<List<Integer>> ways = new ArrayList<>();
        ways.add(new ArrayList<>());
        for (int i = 0; i < n; i++) {
            List<List<Integer>> longer = new ArrayList<>();
            for (List<Integer> way : ways) {
                for (int b = 0; b < n; b++) {
                    if (way.contains(b)) continue;
                    List<Integer> next = new ArrayList<>(way);
                    next.add(b);
                    longer.add(next);
                }
            }
            ways = longer;
        }
        return ways;
    }

    int last(int b, int n) {
        if (badBell(b)) return UNKNOWN;
        if (n < 1 || n > 500) return OUTSIDE;
        int often = 0;
        for (String row : ahead(n).subList(1, n + 1)) if (row.endsWith(Integer.toString(b + 1))) often++;
        return often;
    }

    int nextOut() {
        if (noTower()) return NONE;
        Now kept = now.copy();
        int found = NONE;
        for (int i = 0; i < 500 && found == NONE; i++) {
            ringOne();
            for (int r : now.out) if (!kept.out.contains(r)) found = r;
        }
        now = kept;
        return found;
    }

    int change(int row, int other) {
        if (!isRow(row) || !isRow(other)) return OUTSIDE;
        for (int set = 0; set < 1 << bells(); set++) {
            if (ByHand.isChange(set, bells()) && ByHand.asNumber(ByHand.changed(Integer.toString(row), set)) == other) return set;
        }
        return NONE;
    }

    int follow() {
        if (noTower()) return NOT;
        int count = 0;
        for (int set = 0; set < (1 << bells()) - 1; set++) if (ByHand.isChange(set, bells())) count++;
        return count;
    }

    int gap(int b, int n) {
        if (badBell(b)) return UNKNOWN;
        if (n < 1 || n > 500) return OUTSIDE;
        Set<String> rows = new HashSet<>();
        for (String row : ahead(n)) rows.add(row.replace(Integer.toString(b + 1), ""));
        return rows.size();
    }

    int dry(int n, int q) {
        if (n < 0 || n > 60 || q < 0 || q > 100) return OUTSIDE;
        long v = 1000000000;
        for (int i = 0; i < n; i++) v = v * q / 100;
        return (int) v;
    }

    int hear(int n, int row) {
        if (n < 0 || n > 500 || !isRow(row)) return OUTSIDE;
        if (heardAt.size() == 6) return FULL;
        heardAt.add(new int[] {n, row});
        return heardAt.size();
    }

    int listen() {
        if (noTower()) return NOT;
        Set<Integer> late = late();
        int best = late.size();
        int at = NONE;
        List<String> rows = plain(99);
        for (int n = 0; n <= 99; n++) {
            Map<String, Integer> parts = new HashMap<>();
            for (int b : late) parts.merge(ByHand.heardWith(rows.get(n), b), 1, Integer::sum);
            int greatest = 0;
            for (int part : parts.values()) greatest = Math.max(greatest, part);
            if (greatest < best) {
                best = greatest;
                at = n;
            }
        }
        return at;
    }

    int write(int b, int place) {
        if (badBell(b) || badBell(place)) return UNKNOWN;
        if (book.size() == 15) return FULL;
        book.add(new int[] {b, place});
        return book.size();
    }

    int tear() {
        int both = heardAt.size() + book.size();
        heardAt.clear();
        book.clear();
        return both;
    }

    int judge() {
        for (int i = 0; i < book.size(); i++) {
            if (now.row.charAt(book.get(i)[1]) != '1' + book.get(i)[0]) return i;
        }
        return NONE;
    }

    int seed(int v) {
        if (v < 0) return OUTSIDE;
        int was = (int) seed;
        seed = v;
        return was;
    }

    int keep(int i) {
        if (i != 0 && i != 1) return UNKNOWN;
        images.put(i, now.copy());
        imageSeeds.put(i, seed);
        past.clear();
        return 1;
    }

    int goBack(int i) {
        if (i != 0 && i != 1) return UNKNOWN;
        if (!images.containsKey(i)) return NOT;
        now = images.get(i).copy();
        seed = imageSeeds.get(i);
        past.clear();
        return 1;
    }
}
