import java.util.ArrayList;
import java.util.HashSet;
import java.util.List;
import java.util.NoSuchElementException;
import java.util.Set;

/**
 * The document once more, word by word and without any cleverness (all orders, all sets of holes, all ways to deal
 * coats are tried), so that random runs can be compared with it.
 */
final class PlainModel {
    private static final int NONE = -1;

    /** A FAULT on its way out of the reading. */
    private static final class Fault extends Exception {
        final int kind;
        final int place;

        Fault(int kind, int place) {
            this.kind = kind;
            this.place = place;
        }
    }

    private interface Node {
        int of(int[] values);
    }

    private static final class Token {
        final char kind; // w word, n number, s sign, e end
        final String text;
        final int place;

        Token(char kind, String text, int place) {
            this.kind = kind;
            this.text = text;
            this.place = place;
        }

        boolean is(String wanted) {
            return kind != 'e' && text.equals(wanted);
        }
    }

    private static final class Chapel {
        int threads = 8;
        boolean threadsTold;
        List<int[]> cards = new ArrayList<>();
        List<Integer> lace = new ArrayList<>();
        List<int[]> figures = new ArrayList<>();
        Node up;
        Node harm;
    }

    private static final class State {
        int sunday;
        int granted;
        int[] holes = new int[0];
        int[] wear = new int[0];
        int[] lace = new int[0];

        State copy() {
            State s = new State();
            s.sunday = sunday;
            s.granted = granted;
            s.holes = holes.clone();
            s.wear = wear.clone();
            s.lace = lace.clone();
            return s;
        }
    }

    private final List<Integer> tape = new ArrayList<>();
    private Chapel chapel = new Chapel();
    private State now = new State();
    private List<State> acts = new ArrayList<>();
    private List<int[]> seen = new ArrayList<>();
    private State imageState;
    private List<State> imageActs;
    private List<int[]> imageSeen;
    private int faultPlace = NONE;
    private final int[] status = new int[3];

    // ---- reading ----

    private List<Token> tokens;
    private int at;

    private static List<Token> tokensOf(int[] text) {
        List<Token> out = new ArrayList<>();
        int i = 0;
        while (i < text.length) {
            int b = text[i];
            if (b == 32 || b == 10) {
                i++;
                continue;
            }
            int j = i;
            StringBuilder sb = new StringBuilder();
            if (b >= 'a' && b <= 'z') {
                while (j < text.length && text[j] >= 'a' && text[j] <= 'z') sb.append((char) text[j++]);
                out.add(new Token('w', sb.toString(), i));
            } else if (b >= '0' && b <= '9') {
                while (j < text.length && text[j] >= '0' && text[j] <= '9') sb.append((char) text[j++]);
                out.add(new Token('n', sb.toString(), i));
            } else {
                sb.append((char) text[j++]);
                out.add(new Token('s', sb.toString(), i));
            }
            i = j;
        }
        out.add(new Token('e', "", text.length));
        return out;
    }

    private Token peek() {
        return tokens.get(at);
    }

    private Fault faultHere(int kind) {
        return new Fault(kind, peek().place);
    }

    private void sign(String s) throws Fault {
        if (!(peek().kind == 's' && peek().is(s))) throw faultHere(1);
        at++;
    }

    private int number(int low, int high) throws Fault {
        Token t = peek();
        if (t.kind != 'n') throw faultHere(1);
        if (t.text.length() > 4) throw faultHere(2);
        int v = Integer.parseInt(t.text);
        if (v < low || v > high) throw faultHere(2);
        at++;
        return v;
    }

    private Chapel read(int[] text) throws Fault {
        Chapel c = new Chapel();
        tokens = tokensOf(text);
        at = 0;
        while (peek().kind != 'e') {
            Token t = peek();
            if (t.is("threads")) {
                if (c.threadsTold) throw faultHere(5);
                at++;
                c.threads = number(2, 12);
                c.threadsTold = true;
            } else if (t.is("card")) {
                if (c.cards.size() == 10) throw faultHere(2);
                at++;
                c.cards.add(new int[] {number(0, 4095), number(0, 9), number(0, 9)});
            } else if (t.is("lace")) {
                if (!c.lace.isEmpty()) throw faultHere(5);
                at++;
                do {
                    if (peek().kind != 'n') throw faultHere(1);
                    if (c.lace.size() == 12) throw faultHere(2);
                    int card = number(0, 9999);
                    if (card >= c.cards.size()) {
                        at--;
                        throw faultHere(3);
                    }
                    c.lace.add(card);
                } while (peek().kind == 'n');
            } else if (t.is("figure")) {
                if (c.figures.size() == 5) throw faultHere(2);
                at++;
                int want = number(0, 9);
                int width = number(1, 4);
                List<Integer> rows = new ArrayList<>();
                do {
                    rows.add(number(0, (1 << width) - 1));
                } while (rows.size() < 3 && peek().kind == 'n');
                int[] f = new int[3 + rows.size()];
                f[0] = want;
                f[1] = width;
                f[2] = rows.size();
                for (int i = 0; i < rows.size(); i++) f[3 + i] = rows.get(i);
                c.figures.add(f);
            } else if (t.is("up")) {
                if (c.up != null) throw faultHere(5);
                at++;
                c.up = expr(List.of("hole", "beside", "ahead", "pick", "thread", "wear"), 0);
            } else if (t.is("harm")) {
                if (c.harm != null) throw faultHere(5);
                at++;
                c.harm = expr(List.of("holes", "alike", "first", "second"), 0);
            } else {
                throw faultHere(1);
            }
            sign(";");
        }
        return c;
    }

    private Node expr(List<String> names, int within) throws Fault {
        if (within == 6) {
            Token t = peek();
            throw faultHere(t.kind == 'n' || t.kind == 'w' || t.is("(") ? 2 : 1);
        }
        Node left = and(names, within);
        while (peek().is("or")) {
            at++;
            Node a = left;
            Node b = and(names, within);
            left = v -> a.of(v) != 0 | b.of(v) != 0 ? 1 : 0;
        }
        return left;
    }

    private Node and(List<String> names, int within) throws Fault {
        Node left = not(names, within, 0);
        while (peek().is("and")) {
            at++;
            Node a = left;
            Node b = not(names, within, 0);
            left = v -> a.of(v) != 0 & b.of(v) != 0 ? 1 : 0;
        }
        return left;
    }

    private Node not(List<String> names, int within, int nots) throws Fault {
        if (peek().is("not")) {
            if (nots == 6) throw faultHere(2);
            at++;
            Node a = not(names, within, nots + 1);
            return v -> a.of(v) == 0 ? 1 : 0;
        }
        Node a = sum(names, within);
        if (peek().is("<") || peek().is("=")) {
            boolean less = peek().is("<");
            at++;
            Node b = sum(names, within);
            return less ? v -> a.of(v) < b.of(v) ? 1 : 0 : v -> a.of(v) == b.of(v) ? 1 : 0;
        }
        return a;
    }

    private Node sum(List<String> names, int within) throws Fault {
        Node left = product(names, within);
        while (peek().is("+") || peek().is("-")) {
            boolean plus = peek().is("+");
            at++;
            Node a = left;
            Node b = product(names, within);
            left = plus ? v -> a.of(v) + b.of(v) : v -> a.of(v) - b.of(v);
        }
        return left;
    }

    private Node product(List<String> names, int within) throws Fault {
        Node left = part(names, within);
        while (peek().is("*") || peek().is("/")) {
            boolean times = peek().is("*");
            at++;
            Node a = left;
            Node b = part(names, within);
            left = times ? v -> a.of(v) * b.of(v) : v -> b.of(v) == 0 ? 0 : a.of(v) / b.of(v);
        }
        return left;
    }

    private Node part(List<String> names, int within) throws Fault {
        Token t = peek();
        if (t.kind == 'n') {
            int n = number(0, 9999);
            return v -> n;
        }
        if (t.kind == 'w') {
            int i = names.indexOf(t.text);
            if (i < 0) throw faultHere(3);
            at++;
            return v -> v[i];
        }
        if (!t.is("(")) throw faultHere(1);
        at++;
        Node inner = expr(names, within + 1);
        sign(")");
        return inner;
    }

    // ---- cloth ----

    private int all() {
        return (1 << chapel.threads) - 1;
    }

    private int turned(int bits) {
        int out = 0;
        for (int t = 0; t < chapel.threads; t++) {
            if ((bits & 1 << t) != 0) out |= 1 << chapel.threads - 1 - t;
        }
        return out;
    }

    private int has(State s, int card) {
        return s.wear[card] == 9 ? all() : s.holes[card];
    }

    private boolean[][] cloth(State s) {
        boolean[][] up = new boolean[s.lace.length][chapel.threads];
        for (int p = 0; p < s.lace.length; p++) {
            int card = s.lace[p];
            for (int t = 0; t < chapel.threads; t++) {
                int hole = has(s, card) >> t & 1;
                int beside = (t > 0 ? has(s, card) >> t - 1 & 1 : 0) + (t + 1 < chapel.threads ? has(s, card) >> t + 1 & 1 : 0);
                int ahead = p > 0 && up[p - 1][t] ? 1 : 0;
                int v = chapel.up == null ? hole : chapel.up.of(new int[] {hole, beside, ahead, p, t, s.wear[card]});
                up[p][t] = v != 0;
            }
        }
        return up;
    }

    private static int bits(boolean[] row) {
        int b = 0;
        for (int t = 0; t < row.length; t++) if (row[t]) b |= 1 << t;
        return b;
    }

    private static List<Integer> rowsOf(boolean[][] cloth) {
        List<Integer> out = new ArrayList<>();
        for (boolean[] row : cloth) out.add(bits(row));
        return out;
    }

    private boolean standsAt(boolean[][] cloth, int figure, int pick, int thread) {
        int[] f = chapel.figures.get(figure);
        for (int r = 0; r < f[2]; r++) {
            for (int k = 0; k < f[1]; k++) {
                if (pick + r >= cloth.length || thread + k >= chapel.threads) return false;
                if (cloth[pick + r][thread + k] != ((f[3 + r] >> k & 1) == 1)) return false;
            }
        }
        return true;
    }

    private List<Integer> places(State s, int figure) {
        boolean[][] cloth = cloth(s);
        List<Integer> out = new ArrayList<>();
        for (int p = 0; p < cloth.length; p++) {
            for (int t = 0; t < chapel.threads; t++) {
                if (standsAt(cloth, figure, p, t)) out.add(100 * p + t);
            }
        }
        return out;
    }

    private int standing(State s) {
        int b = 0;
        for (int f = 0; f < chapel.figures.size(); f++) if (!places(s, f).isEmpty()) b |= 1 << f;
        return b;
    }

    private void sunday(State s) {
        s.granted += Integer.bitCount(standing(s));
        boolean[] laced = new boolean[s.wear.length];
        for (int c : s.lace) laced[c] = true;
        for (int c = 0; c < s.wear.length; c++) if (laced[c]) s.wear[c] = Math.min(9, s.wear[c] + 1);
        s.sunday++;
    }

    private State behind(State s, int sundays) {
        State out = s.copy();
        for (int i = 0; i < sundays; i++) sunday(out);
        return out;
    }

    private int snarlOf(int card, int holes, int other, int otherHoles) {
        int both = Integer.bitCount(holes & otherHoles);
        int w1 = chapel.cards.get(card)[1];
        int w2 = chapel.cards.get(other)[1];
        int alike = w1 == w2 ? 1 : 0;
        if (chapel.harm == null) return both * alike;
        int v = chapel.harm.of(new int[] {both, alike, w1, w2});
        return v < 0 ? 0 : v > 99 ? 99 : v;
    }

    private int snarlOfLace(int[] lace) {
        int sum = 0;
        for (int p = 1; p < lace.length; p++) {
            sum += snarlOf(lace[p - 1], has(now, lace[p - 1]), lace[p], has(now, lace[p]));
        }
        return sum;
    }

    // ---- arguments ----

    private void isCard(int card) {
        if (card < 0 || card >= chapel.cards.size()) throw new NoSuchElementException();
    }

    private void isFigure(int figure) {
        if (figure < 0 || figure >= chapel.figures.size()) throw new NoSuchElementException();
    }

    private void isPick(int pick) {
        if (pick < 0 || pick >= now.lace.length) throw new NoSuchElementException();
    }

    private void isThread(int thread) {
        if (thread < 0 || thread >= chapel.threads) throw new NoSuchElementException();
    }

    private static void isWhat(int what, int last) {
        if (what < 0 || what > last) throw new NoSuchElementException();
    }

    private static void in(int n, int low, int high) {
        if (n < low || n > high) throw new IllegalArgumentException();
    }

    // ---- the face ----

    int feed(int a, int b, int c, int d, int e) {
        if (tape.size() + 20 > 700) return NONE;
        for (int n : new int[] {a, b, c, d, e}) {
            for (int i = 3; i >= 0; i--) tape.add(n >> 8 * i & 255);
        }
        return tape.size();
    }

    int chapel(int n) {
        if (n < 0 || n > tape.size()) throw new IllegalArgumentException();
        int[] text = new int[n];
        for (int i = 0; i < n; i++) text[i] = tape.get(i);
        tape.clear();
        try {
            chapel = read(text);
        } catch (Fault f) {
            faultPlace = f.place;
            status[0]++;
            return f.kind;
        }
        faultPlace = NONE;
        now = new State();
        now.holes = new int[chapel.cards.size()];
        now.wear = new int[chapel.cards.size()];
        now.lace = new int[chapel.lace.size()];
        for (int c = 0; c < now.holes.length; c++) {
            now.holes[c] = chapel.cards.get(c)[0] & all();
            now.wear[c] = chapel.cards.get(c)[2];
        }
        for (int p = 0; p < now.lace.length; p++) now.lace[p] = chapel.lace.get(p);
        acts = new ArrayList<>();
        seen = new ArrayList<>();
        imageState = null;
        return 0;
    }

    int fault() {
        return faultPlace;
    }

    int count(int what) {
        switch (what) {
            case 0: return chapel.threads;
            case 1: return chapel.cards.size();
            case 2: return now.lace.length;
            case 3: return chapel.figures.size();
            case 4: return now.sunday;
            case 5: return now.granted;
            case 6: return snarlOfLace(now.lace);
            case 7: {
                int b = all();
                for (int row : rowsOf(cloth(now))) b &= ~row;
                return b;
            }
            case 8: {
                List<Integer> rows = rowsOf(cloth(now));
                for (int r = 1; r < rows.size(); r++) {
                    if (rows.subList(r, rows.size()).equals(rows.subList(0, rows.size() - r))) return r;
                }
                return rows.size();
            }
            case 9: return standing(now);
            case 10: return acts.size();
            case 11: return seen.size();
            case 12: return tape.size();
            case 13: return status[0];
            case 14: return status[1];
            case 15: return status[2];
            default: throw new NoSuchElementException();
        }
    }

    int card(int card, int what) {
        isCard(card);
        isWhat(what, 4);
        int b = 0;
        for (int p = 0; p < now.lace.length; p++) if (now.lace[p] == card) b |= 1 << p;
        return new int[] {now.holes[card], chapel.cards.get(card)[1], now.wear[card], has(now, card), b}[what];
    }

    int lace(int place) {
        isPick(place);
        return now.lace[place];
    }

    int figure(int figure, int what) {
        isFigure(figure);
        isWhat(what, 5);
        int[] f = chapel.figures.get(figure);
        return what < f.length ? f[what] : 0;
    }

    int snarl(int card, int other) {
        isCard(card);
        isCard(other);
        return snarlOf(card, has(now, card), other, has(now, other));
    }

    private void act() {
        acts.add(now.copy());
        if (acts.size() > 40) acts.remove(0);
    }

    private int refuse(int what) {
        status[what]++;
        return NONE;
    }

    int sundays(int many) {
        if (many < 1 || many > 20 || now.sunday + many > 999) return refuse(1);
        act();
        for (int i = 0; i < many; i++) sunday(now);
        return now.sunday;
    }

    int punch(int card, int holes) {
        isCard(card);
        if ((holes & ~all()) != 0) return refuse(1);
        act();
        int was = now.holes[card];
        now.holes[card] = holes;
        return was;
    }

    int turn(int card) {
        isCard(card);
        act();
        return now.holes[card] = turned(now.holes[card]);
    }

    int cut(int card) {
        isCard(card);
        int was = now.wear[card];
        if (was == 0) return refuse(1);
        act();
        now.wear[card] = 0;
        return was;
    }

    boolean change(int place, int other) {
        int n = now.lace.length;
        if (place == other || place < 0 || other < 0 || place >= n || other >= n) {
            refuse(1);
            return false;
        }
        act();
        int c = now.lace[place];
        now.lace[place] = now.lace[other];
        now.lace[other] = c;
        return true;
    }

    int undo() {
        if (acts.isEmpty()) return NONE;
        now = acts.remove(acts.size() - 1).copy();
        return acts.size();
    }

    int then(int pick, int sundays) {
        isPick(pick);
        in(sundays, 0, 30);
        return rowsOf(cloth(behind(now, sundays))).get(pick);
    }

    int granted(int sundays) {
        in(sundays, 0, 30);
        return behind(now, sundays).granted;
    }

    int worn(int card) {
        isCard(card);
        for (int i = 0; i <= 9; i++) if (behind(now, i).wear[card] == 9) return i;
        return NONE;
    }

    int changes() {
        List<Integer> rows = rowsOf(cloth(now));
        for (int i = 1; i <= 30; i++) if (!rowsOf(cloth(behind(now, i))).equals(rows)) return i;
        return NONE;
    }

    private int floatOf(boolean[][] cloth, int t) {
        int best = 0;
        for (int a = 0; a < cloth.length; a++) {
            int b = a;
            while (b < cloth.length && cloth[b][t] == cloth[a][t]) b++;
            best = Math.max(best, b - a);
        }
        return best;
    }

    int floats(int thread) {
        if (thread != NONE) isThread(thread);
        boolean[][] cloth = cloth(now);
        if (thread != NONE) return floatOf(cloth, thread);
        int best = 0;
        for (int t = 0; t < chapel.threads; t++) if (floatOf(cloth, t) > floatOf(cloth, best)) best = t;
        return best;
    }

    int stands(int figure, int what) {
        isFigure(figure);
        isWhat(what, 1);
        List<Integer> places = places(now, figure);
        if (what == 1) return places.size();
        return places.isEmpty() ? NONE : places.get(0);
    }

    private int orderBest;
    private int[] orderRow;
    private int[][] orderPairs;

    private void orders(int[] row, int n, int used, int sum) {
        if (n == row.length) {
            if (sum < orderBest) {
                orderBest = sum;
                orderRow = row.clone();
            }
            return;
        }
        for (int p = 0; p < row.length; p++) {
            if ((used >> p & 1) == 0) {
                row[n] = p;
                orders(row, n + 1, used | 1 << p, n == 0 ? 0 : sum + orderPairs[row[n - 1]][p]);
            }
        }
    }

    int order(int i) {
        if (i != NONE) isPick(i);
        int n = now.lace.length;
        if (n > 9) return -2;
        orderBest = Integer.MAX_VALUE;
        orderPairs = new int[n][n];
        for (int a = 0; a < n; a++) {
            for (int b = 0; b < n; b++) {
                orderPairs[a][b] = snarlOf(now.lace[a], has(now, now.lace[a]), now.lace[b], has(now, now.lace[b]));
            }
        }
        orders(new int[n], 0, 0, 0);
        return i == NONE ? orderBest : orderRow[i];
    }

    private State withHoles(int card, int holes) {
        State s = now.copy();
        s.holes[card] = holes;
        return s;
    }

    int punching(int card, int figure, int what) {
        isCard(card);
        isFigure(figure);
        isWhat(what, 1);
        for (int many = 0; many <= chapel.threads; many++) {
            for (int h = 0; h <= all(); h++) {
                if (Integer.bitCount(h ^ now.holes[card]) == many && !places(withHoles(card, h), figure).isEmpty()) {
                    return what == 0 ? many : h;
                }
            }
        }
        return NONE;
    }

    int same(int card) {
        isCard(card);
        List<Integer> rows = rowsOf(cloth(now));
        int many = 0;
        for (int h = 0; h <= all(); h++) if (rowsOf(cloth(withHoles(card, h))).equals(rows)) many++;
        return many;
    }

    int see(int pick, int thread, int sundays, boolean up) {
        isPick(pick);
        isThread(thread);
        if (seen.size() == 8 || sundays < 0 || sundays > 20) return refuse(2);
        seen.add(new int[] {pick, thread, sundays, up ? 1 : 0});
        return seen.size();
    }

    void forget() {
        seen.clear();
    }

    private boolean allSeen(State s) {
        for (int[] x : seen) {
            State later = s.copy();
            for (int i = 0; i < x[2]; i++) {
                for (int c = 0; c < later.wear.length; c++) {
                    boolean laced = false;
                    for (int l : later.lace) laced |= l == c;
                    if (laced && later.wear[c] < 9) later.wear[c]++;
                }
            }
            if (cloth(later)[x[0]][x[1]] != (x[3] == 1)) return false;
        }
        return true;
    }

    private List<Integer> suspects() {
        List<Integer> out = new ArrayList<>();
        for (int c = 0; c < now.holes.length; c++) {
            if (allSeen(withHoles(c, turned(now.holes[c])))) out.add(c);
        }
        return out;
    }

    int backwards(int what) {
        isWhat(what, 2);
        if (what == 2) return allSeen(now) ? 1 : 0;
        List<Integer> s = suspects();
        return what == 0 ? s.size() : s.isEmpty() ? NONE : s.get(0);
    }

    int punched(int card, int what) {
        isCard(card);
        isWhat(what, 1);
        int many = 0;
        for (int h = 0; h <= all(); h++) {
            if (allSeen(withHoles(card, h))) {
                if (what == 1) return h;
                many++;
            }
        }
        return what == 0 ? many : NONE;
    }

    int next(int what) {
        isWhat(what, 1);
        int best = NONE;
        int most = 0;
        List<Integer> suspects = suspects();
        for (int p = 0; p < now.lace.length; p++) {
            Set<Integer> rows = new HashSet<>();
            for (int c : suspects) rows.add(rowsOf(cloth(withHoles(c, turned(now.holes[c])))).get(p));
            if (rows.size() > most) {
                most = rows.size();
                best = p;
            }
        }
        return what == 0 ? best : most;
    }

    private static int leastCost(int sundays, int wear, int cost, int[][] memo) {
        if (sundays == 0) return 0;
        if (memo[sundays][wear] < 0) {
            int keep = wear + leastCost(sundays - 1, Math.min(9, wear + 1), cost, memo);
            int cut = cost + leastCost(sundays - 1, 1, cost, memo);
            memo[sundays][wear] = Math.min(keep, cut);
        }
        return memo[sundays][wear];
    }

    int toCut(int sundays, int wear, int cost, int what) {
        isWhat(what, 1);
        in(sundays, 1, 30);
        in(wear, 0, 9);
        in(cost, 0, 50);
        int[][] memo = new int[31][10];
        for (int[] m : memo) java.util.Arrays.fill(m, -1);
        int least = leastCost(sundays, wear, cost, memo);
        int uncut = wear + leastCost(sundays - 1, Math.min(9, wear + 1), cost, memo);
        return what == 0 ? least : uncut > least ? 1 : 0;
    }

    /** All ways by cards, the first best one kept: a lesser PICK first, none behind all. */
    private void coatWays(int[] row, int card, int used, int many, List<Integer> rows, int[][] best) {
        if (best[1][0] >= many + row.length - card && best[0] != null) return;
        if (card == row.length) {
            best[0] = row.clone();
            best[1][0] = many;
            return;
        }
        for (int p = 0; p < rows.size(); p++) {
            if ((used >> p & 1) == 0 && (rows.get(p) & ~has(now, card)) == 0) {
                row[card] = p;
                coatWays(row, card + 1, used | 1 << p, many + 1, rows, best);
            }
        }
        row[card] = NONE;
        coatWays(row, card + 1, used, many, rows, best);
    }

    int coats(int card) {
        if (card != NONE) isCard(card);
        int[][] best = {null, {-1}};
        coatWays(new int[now.holes.length], 0, 0, 0, rowsOf(cloth(now)), best);
        return card == NONE ? best[1][0] : best[0][card];
    }

    private int[] gains(int card, int other, int a, int b) {
        int x = a == 1 ? turned(has(now, card)) : has(now, card);
        int y = b == 1 ? turned(has(now, other)) : has(now, other);
        int snarl = snarlOf(card, x, other, y);
        return new int[] {Integer.bitCount(x & ~y) - 2 * a - snarl, Integer.bitCount(y & ~x) - 2 * b - snarl};
    }

    int game(int card, int other, int what) {
        isCard(card);
        isCard(other);
        isWhat(what, 1);
        if (card == other) throw new IllegalArgumentException();
        List<Integer> rest = new ArrayList<>();
        for (int a = 0; a < 2; a++) {
            for (int b = 0; b < 2; b++) {
                int[] here = gains(card, other, a, b);
                if (gains(card, other, 1 - a, b)[0] <= here[0] && gains(card, other, a, 1 - b)[1] <= here[1]) {
                    rest.add(10 * a + b);
                }
            }
        }
        return what == 0 ? rest.size() : rest.isEmpty() ? NONE : rest.get(0);
    }

    private int seed;

    private int draw(int n) {
        seed = seed * 1103515245 + 12345;
        int bits = 0;
        for (int b = 16; b <= 30; b++) if ((seed & 1 << b) != 0) bits |= 1 << b - 16;
        return bits % n;
    }

    int drawn(int firstSeed, int n, int what) {
        isWhat(what, 2);
        in(n, 0, 30);
        seed = firstSeed;
        State s = now.copy();
        for (int i = 0; i < n; i++) {
            if (s.holes.length > 0) {
                int card = draw(s.holes.length);
                int fate = draw(4);
                if (fate == 0) s.holes[card] ^= 1 << draw(chapel.threads);
                if (fate == 1) s.holes[card] = turned(s.holes[card]);
                if (fate == 2) s.wear[card] = 0;
            }
            sunday(s);
        }
        int wear = 0;
        for (int w : s.wear) wear += w;
        int up = 0;
        for (int row : rowsOf(cloth(s))) up += Integer.bitCount(row);
        return what == 0 ? s.granted : what == 1 ? wear : up;
    }

    int gap(int pick, int what) {
        isPick(pick);
        isWhat(what, 1);
        boolean[] row = cloth(now)[pick];
        for (int wide = chapel.threads; wide > 0; wide--) {
            for (int t = 0; t + wide <= chapel.threads; t++) {
                boolean none = true;
                for (int k = 0; k < wide; k++) none &= !row[t + k];
                if (none) return what == 0 ? wide : t;
            }
        }
        return what == 0 ? 0 : NONE;
    }

    int unlike(int card, int other) {
        isCard(card);
        isCard(other);
        int a = has(now, card);
        int b = has(now, other);
        return Math.min(Integer.bitCount(a ^ b), Integer.bitCount(a ^ turned(b)));
    }

    int family(int card) {
        isCard(card);
        int b = 0;
        for (int c = 0; c < now.holes.length; c++) {
            if (has(now, c) == has(now, card) || has(now, c) == turned(has(now, card))) b |= 1 << c;
        }
        return b;
    }

    int turning(int figure) {
        isFigure(figure);
        int b = 0;
        for (int c = 0; c < now.holes.length; c++) {
            if (!places(withHoles(c, turned(now.holes[c])), figure).isEmpty()) b |= 1 << c;
        }
        return b;
    }

    int leftOut(int place) {
        isPick(place);
        State s = now.copy();
        s.lace = new int[now.lace.length - 1];
        for (int p = 0; p < s.lace.length; p++) s.lace[p] = now.lace[p < place ? p : p + 1];
        return standing(s);
    }

    int cutting(int sundays) {
        in(sundays, 1, 30);
        int best = NONE;
        int most = behind(now, sundays).granted;
        for (int c = 0; c < now.wear.length; c++) {
            State s = now.copy();
            s.wear[c] = 0;
            int g = behind(s, sundays).granted;
            if (g > most) {
                most = g;
                best = c;
            }
        }
        return best;
    }

    boolean mirrored(int what) {
        isWhat(what, 1);
        List<Integer> rows = rowsOf(cloth(now));
        List<Integer> other = new ArrayList<>();
        for (int p = 0; p < rows.size(); p++) other.add(what == 0 ? rows.get(rows.size() - 1 - p) : turned(rows.get(p)));
        return rows.equals(other);
    }

    int swap() {
        int least = snarlOfLace(now.lace);
        int best = NONE;
        for (int a = 0; a < now.lace.length; a++) {
            for (int b = a + 1; b < now.lace.length; b++) {
                int[] lace = now.lace.clone();
                lace[a] = now.lace[b];
                lace[b] = now.lace[a];
                if (snarlOfLace(lace) < least) {
                    least = snarlOfLace(lace);
                    best = 100 * a + b;
                }
            }
        }
        return best;
    }

    void image() {
        imageState = now.copy();
        imageActs = new ArrayList<>(acts);
        imageSeen = new ArrayList<>(seen);
    }

    boolean restore() {
        if (imageState == null) return false;
        now = imageState.copy();
        acts = new ArrayList<>(imageActs);
        seen = new ArrayList<>(imageSeen);
        return true;
    }
}
