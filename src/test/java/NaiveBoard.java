import java.util.ArrayDeque;
import java.util.ArrayList;
import java.util.Arrays;
import java.util.Deque;
import java.util.HashMap;
import java.util.HashSet;
import java.util.LinkedHashSet;
import java.util.List;
import java.util.Map;
import java.util.Set;

/** A second, plain reading of what the document says of light, states, wishes and changes: slow, and all by copies. */
final class NaiveBoard {
    static final int NONE = -1;
    private static final int[] RIGHT_OF = {1, 2, 3, 0};
    private static final int[] LEFT_OF = {3, 0, 1, 2};
    private static final int[] SLASH = {1, 0, 3, 2};
    private static final int[] BACK = {3, 2, 1, 0};
    private static final int[][] MOVE = {{0, -1}, {1, 0}, {0, 1}, {-1, 0}};

    record Node(int column, int row, int way) {
    }

    final int columns;
    final int rows;
    final List<NaiveText.Piece> pieces = new ArrayList<>();
    int turned;
    int state;
    int[] wishes;
    private final Deque<int[]> past = new ArrayDeque<>();

    NaiveBoard(NaiveText text) {
        columns = text.columns;
        rows = text.rows;
        pieces.addAll(text.pieces);
        wishes = new int[count("eye")];
    }

    private NaiveBoard(NaiveBoard other) {
        columns = other.columns;
        rows = other.rows;
        for (NaiveText.Piece p : other.pieces) {
            pieces.add(p.copy());
        }
        turned = other.turned;
        state = other.state;
        wishes = other.wishes.clone();
    }

    NaiveBoard copy() {
        return new NaiveBoard(this);
    }

    int count(String... sorts) {
        int n = 0;
        for (NaiveText.Piece p : pieces) {
            n += p.is(sorts) && p.number >= 0 ? 1 : 0;
        }
        return n;
    }

    int mirrors() {
        return count("mirror", "half");
    }

    int movers() {
        return count("shutter", "vane");
    }

    int eyes() {
        return count("eye");
    }

    int lamps() {
        return count("lamp");
    }

    boolean isSquare(int column, int row) {
        return column >= 0 && row >= 0 && column < columns && row < rows;
    }

    NaiveText.Piece on(int column, int row) {
        for (NaiveText.Piece p : pieces) {
            if (p.column == column && p.row == row) {
                return p;
            }
        }
        return null;
    }

    private NaiveText.Piece one(int number, String... sorts) {
        for (NaiveText.Piece p : pieces) {
            if (p.is(sorts) && p.number == number) {
                return p;
            }
        }
        return null;
    }

    int square(int column, int row, int what) {
        if (!isSquare(column, row)) {
            return NONE;
        }
        NaiveText.Piece p = on(column, row);
        List<String> sorts = List.of("", "lamp", "mirror", "half", "glass", "prism", "wall", "eye", "shutter", "vane");
        if (what == 0) {
            return p == null ? 0 : sorts.indexOf(p.sort);
        }
        if (p == null || what < 1 || what > 2) {
            return NONE;
        }
        if (what == 1) {
            return p.number;
        }
        if (p.is("mirror", "half", "vane")) {
            return form(p);
        }
        if (p.is("shutter")) {
            return isOpen(p) ? 1 : 0;
        }
        return p.is("lamp", "glass") ? p.colour : NONE;
    }

    private boolean isOpen(NaiveText.Piece p) {
        return (state & 1 << p.number) != 0;
    }

    private int form(NaiveText.Piece p) {
        boolean other = p.number >= 0 && (p.is("vane") ? isOpen(p) : (turned & 1 << p.number) != 0);
        return other ? 1 - p.form : p.form;
    }

    // ---- light

    private List<Integer> waysOn(Node n, int colour) {
        NaiveText.Piece p = on(n.column, n.row);
        List<Integer> ways = new ArrayList<>();
        if (p == null) {
            return List.of(n.way);
        }
        if (p.is("mirror", "half", "vane")) {
            ways.add((form(p) == 0 ? SLASH : BACK)[n.way]);
        }
        if (p.is("half") || p.is("glass") && (p.colour & colour) != 0 || p.is("shutter") && isOpen(p)) {
            ways.add(n.way);
        }
        if (p.is("prism")) {
            ways.add(colour == 1 ? n.way : colour == 2 ? RIGHT_OF[n.way] : LEFT_OF[n.way]);
        }
        return ways;
    }

    private void go(int column, int row, int way, Set<Node> into) {
        int toColumn = column + MOVE[way][0];
        int toRow = row + MOVE[way][1];
        if (isSquare(toColumn, toRow)) {
            into.add(new Node(toColumn, toRow, way));
        }
    }

    private Set<Node> after(Set<Node> nodes, int colour) {
        Set<Node> then = new LinkedHashSet<>();
        for (Node n : nodes) {
            for (int way : waysOn(n, colour)) {
                go(n.column, n.row, way, then);
            }
        }
        return then;
    }

    private Set<Node> sent(int lamps, int colour) {
        Set<Node> first = new LinkedHashSet<>();
        for (NaiveText.Piece p : pieces) {
            if (p.is("lamp") && p.column >= 0 && (p.colour & colour) != 0 && (lamps & 1 << p.number) != 0) {
                go(p.column, p.row, p.way, first);
            }
        }
        return first;
    }

    private Set<Node> spread(Set<Node> from, int colour) {
        Set<Node> lit = new HashSet<>(from);
        Set<Node> edge = from;
        while (!edge.isEmpty()) {
            edge = after(edge, colour);
            edge.removeIf(n -> !lit.add(n));
        }
        return lit;
    }

    private Map<Node, Integer> light(int lamps) {
        Map<Node, Integer> light = new HashMap<>();
        for (int colour : new int[] {1, 2, 4}) {
            for (Node n : spread(sent(lamps, colour), colour)) {
                light.merge(n, colour, Integer::sum);
            }
        }
        return light;
    }

    private Map<String, Integer> seen(int lamps) {
        Map<String, Integer> seen = new HashMap<>();
        Map<Node, Integer> light = light(lamps);
        for (NaiveText.Piece p : pieces) {
            if (p.is("eye")) {
                int colours = 0;
                for (int way = 0; way < 4; way++) {
                    colours |= light.getOrDefault(new Node(p.column, p.row, way), 0);
                }
                seen.put(p.name, colours);
            }
        }
        return seen;
    }

    int light(int column, int row, int way) {
        return isSquare(column, row) && way >= 0 && way < 4 ? light(255).getOrDefault(new Node(column, row, way), 0) : NONE;
    }

    Set<List<Integer>> litSquares(int colour) {
        Set<List<Integer>> squares = new HashSet<>();
        light(255).forEach((n, c) -> {
            if ((c & colour) != 0) {
                squares.add(List.of(n.column, n.row));
            }
        });
        return squares;
    }

    int lit(int colour) {
        return List.of(1, 2, 4, 7).contains(colour) ? litSquares(colour).size() : NONE;
    }

    int sees(int eye) {
        NaiveText.Piece p = one(eye, "eye");
        return p == null ? NONE : seen(255).get(p.name);
    }

    private int eyesLit() {
        Map<String, Integer> seen = seen(255);
        int lit = 0;
        for (NaiveText.Piece p : pieces) {
            if (p.is("eye") && seen.get(p.name) != 0) {
                lit |= 1 << p.number;
            }
        }
        return lit;
    }

    // ---- states

    private NaiveBoard at(int otherState) {
        NaiveBoard other = copy();
        other.state = otherState;
        return other;
    }

    int next() {
        Map<String, Integer> seen = seen(255);
        int next = 0;
        for (NaiveText.Piece p : pieces) {
            if (p.is("shutter", "vane") && (p.column < 0 ? isOpen(p) : p.test.test(seen))) {
                next |= 1 << p.number;
            }
        }
        return next;
    }

    private List<Integer> path() {
        List<Integer> path = new ArrayList<>();
        int now = state;
        while (!path.contains(now)) {
            path.add(now);
            now = at(now).next();
        }
        path.add(now);
        return path;
    }

    private List<Integer> ring() {
        List<Integer> path = path();
        return path.subList(path.indexOf(path.get(path.size() - 1)), path.size() - 1);
    }

    int round(int what) {
        List<Integer> path = path();
        List<Integer> ring = ring();
        int least = 1000;
        for (int s : ring) {
            least = Math.min(least, s);
        }
        return what == 0 ? path.size() - 1 - ring.size() : what == 1 ? ring.size() : what == 2 ? ring.get(0) : what == 3 ? least : NONE;
    }

    boolean isState(int s) {
        return s >= 0 && s < 1 << movers();
    }

    int rests(int k) {
        List<Integer> rests = new ArrayList<>();
        for (int s = 0; isState(s); s++) {
            if (at(s).next() == s) {
                rests.add(s);
            }
        }
        return k == NONE ? rests.size() : k >= 0 && k < rests.size() ? rests.get(k) : NONE;
    }

    int drawn(int s) {
        if (!isState(s)) {
            return NONE;
        }
        int n = 0;
        for (int from = 0; isState(from); from++) {
            n += at(from).ring().contains(s) ? 1 : 0;
        }
        return n;
    }

    int steady(boolean all) {
        int every = (1 << eyes()) - 1;
        int some = 0;
        for (int s : ring()) {
            int lit = at(s).eyesLit();
            every &= lit;
            some |= lit;
        }
        return all ? every : some;
    }

    int slow(int what) {
        int best = 0;
        for (int s = 1; isState(s); s++) {
            if (at(s).round(0) > at(best).round(0)) {
                best = s;
            }
        }
        return what == 0 ? best : what == 1 ? at(best).round(0) : NONE;
    }

    private void remember() {
        past.addLast(new int[] {turned, state});
        if (past.size() > 16) {
            past.removeFirst();
        }
    }

    int turn(int mirror) {
        if (mirror < 0 || mirror >= mirrors()) {
            return NONE;
        }
        remember();
        turned ^= 1 << mirror;
        return Integer.bitCount(turned);
    }

    boolean set(int s) {
        if (!isState(s)) {
            return false;
        }
        if (s != state) {
            remember();
        }
        state = s;
        return true;
    }

    int step(int n) {
        if (n < 0 || n > 1000) {
            return NONE;
        }
        NaiveBoard other = copy();
        for (int i = 0; i < n; i++) {
            other.state = other.next();
        }
        set(other.state);
        return state;
    }

    int back() {
        if (past.isEmpty()) {
            return NONE;
        }
        int[] setting = past.removeLast();
        turned = setting[0];
        state = setting[1];
        return past.size();
    }

    void forgetPast() {
        past.clear();
    }

    // ---- wishes and changes

    boolean wish(int eye, int how) {
        if (eye < 0 || eye >= eyes() || how < 0 || how > 2) {
            return false;
        }
        wishes[eye] = how;
        return true;
    }

    /** The EYES LIT in the END, NONE without an END. */
    private int endEyes() {
        List<Integer> ring = ring();
        return ring.size() == 1 ? at(ring.get(0)).eyesLit() : NONE;
    }

    int met() {
        int lit = endEyes();
        if (lit == NONE) {
            return 0;
        }
        for (int eye = 0; eye < wishes.length; eye++) {
            boolean isLit = (lit & 1 << eye) != 0;
            if (wishes[eye] == 1 && !isLit || wishes[eye] == 2 && isLit) {
                return 0;
            }
        }
        return 1;
    }

    private List<Integer> setsThatMeet() {
        List<Integer> sets = new ArrayList<>();
        for (int set = 0; set < 1 << mirrors(); set++) {
            NaiveBoard other = copy();
            other.turned = set;
            if (other.met() == 1) {
                sets.add(set);
            }
        }
        return sets;
    }

    int fewest(boolean which) {
        int best = NONE;
        for (int set : setsThatMeet()) {
            int change = set ^ turned;
            if (best == NONE || Integer.bitCount(change) < Integer.bitCount(best)
                    || Integer.bitCount(change) == Integer.bitCount(best) && change < best) {
                best = change;
            }
        }
        return best == NONE || which ? best : Integer.bitCount(best);
    }

    int solutions(int what) {
        List<Integer> sets = setsThatMeet();
        int all = (1 << mirrors()) - 1;
        int sure = all;
        int used = 0;
        for (int set : sets) {
            sure &= set;
            used |= set;
        }
        return what == 0 ? sets.size() : what == 1 ? sure : what == 2 ? all & ~used : NONE;
    }

    int needed(int column, int row) {
        if (!isSquare(column, row) || on(column, row) == null) {
            return NONE;
        }
        NaiveBoard other = copy();
        NaiveText.Piece gone = other.on(column, row);
        gone.column = -5;
        gone.row = -5;
        int with = endEyes();
        int without = other.endEyes();
        if (with == NONE && without == NONE) {
            return 0;
        }
        return with == NONE || without == NONE ? (1 << eyes()) - 1 : with ^ without;
    }

    private NaiveBoard with(String sort, int form, int column, int row) {
        NaiveBoard other = copy();
        NaiveText.Piece p = new NaiveText.Piece();
        p.sort = sort;
        p.form = form;
        p.column = column;
        p.row = row;
        other.pieces.add(p);
        return other;
    }

    int shadow(int column, int row) {
        if (!isSquare(column, row) || on(column, row) != null) {
            return NONE;
        }
        int without = endEyes();
        int with = with("wall", 0, column, row).endEyes();
        return with == NONE || without == NONE ? 0 : Integer.bitCount(without & ~with);
    }

    int darkest(int what) {
        int[] best = {NONE, NONE, NONE};
        for (int row = 0; row < rows; row++) {
            for (int column = 0; column < columns; column++) {
                int shadow = shadow(column, row);
                if (shadow > best[2]) {
                    best = new int[] {column, row, shadow};
                }
            }
        }
        return what >= 0 && what <= 2 ? best[what] : NONE;
    }

    int more(int what) {
        for (int row = 0; row < rows; row++) {
            for (int column = 0; column < columns; column++) {
                for (int form = 0; form < 2; form++) {
                    if (on(column, row) == null && with("mirror", form, column, row).met() == 1) {
                        return what == 0 ? column : what == 1 ? row : what == 2 ? form : NONE;
                    }
                }
            }
        }
        return NONE;
    }

    int near() {
        int best = NONE;
        for (int s = 0; isState(s); s++) {
            if (at(s).met() == 1 && (best == NONE || Integer.bitCount(s ^ state) < Integer.bitCount(best ^ state))) {
                best = s;
            }
        }
        return best;
    }

    int tint(int column, int row) {
        NaiveBoard other = copy();
        NaiveText.Piece p = isSquare(column, row) ? other.on(column, row) : null;
        if (p == null || !p.is("glass")) {
            return NONE;
        }
        for (p.colour = 0; p.colour < 8; p.colour++) {
            if (other.met() == 1) {
                return p.colour;
            }
        }
        return NONE;
    }

    int swapped(int column, int row, int otherColumn, int otherRow) {
        boolean same = column == otherColumn && row == otherRow;
        if (!isSquare(column, row) || !isSquare(otherColumn, otherRow) || same) {
            return NONE;
        }
        NaiveBoard other = copy();
        NaiveText.Piece a = other.on(column, row);
        NaiveText.Piece b = other.on(otherColumn, otherRow);
        if (a != null) {
            a.column = otherColumn;
            a.row = otherRow;
        }
        if (b != null) {
            b.column = column;
            b.row = row;
        }
        return other.met();
    }

    // ---- ways of light

    int reach(int lamp, int eye, int colour) {
        NaiveText.Piece e = one(eye, "eye");
        if (one(lamp, "lamp") == null || e == null || !List.of(1, 2, 4).contains(colour)) {
            return NONE;
        }
        Set<Node> edge = sent(1 << lamp, colour);
        for (int steps = 1; steps <= 576 && !edge.isEmpty(); steps++) {
            for (Node n : edge) {
                if (n.column == e.column && n.row == e.row) {
                    return steps;
                }
            }
            edge = after(edge, colour);
        }
        return NONE;
    }

    int behind(int eye) {
        NaiveText.Piece e = one(eye, "eye");
        if (e == null) {
            return NONE;
        }
        int lamps = 0;
        for (int lamp = 0; lamp < lamps(); lamp++) {
            if (seen(1 << lamp).get(e.name) != 0) {
                lamps |= 1 << lamp;
            }
        }
        return lamps;
    }

    int rings(int colour) {
        if (!List.of(1, 2, 4).contains(colour)) {
            return NONE;
        }
        Set<List<Integer>> squares = new HashSet<>();
        for (Node n : spread(sent(255, colour), colour)) {
            if (spread(after(Set.of(n), colour), colour).contains(n)) {
                squares.add(List.of(n.column, n.row));
            }
        }
        return squares.size();
    }

    // ---- images

    byte[] image() {
        byte[] bytes = new byte[6 + eyes()];
        bytes[0] = (byte) mirrors();
        bytes[1] = (byte) movers();
        bytes[2] = (byte) eyes();
        bytes[3] = (byte) turned;
        bytes[4] = (byte) state;
        for (int eye = 0; eye < eyes(); eye++) {
            bytes[5 + eye] = (byte) wishes[eye];
        }
        int check = 13;
        for (byte b : Arrays.copyOf(bytes, bytes.length - 1)) {
            check = (3 * check + (b & 255)) % 227;
        }
        bytes[bytes.length - 1] = (byte) check;
        return bytes;
    }
}
