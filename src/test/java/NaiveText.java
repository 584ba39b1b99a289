import java.util.ArrayList;
import java.util.HashMap;
import java.util.HashSet;
import java.util.List;
import java.util.Map;
import java.util.Set;
import java.util.function.Predicate;

/** A second, plain reading of the document's text rules: one byte behind the other, each token looked at when due. */
final class NaiveText {
    static final class Fault extends RuntimeException {
        private static final long serialVersionUID = 1L;
        final int kind;
        final int place;

        Fault(int kind, int place) {
            this.kind = kind;
            this.place = place;
        }
    }

    static final class Piece {
        String sort;
        int form;
        int colour;
        int way;
        String name;
        Predicate<Map<String, Integer>> test;
        int number = -1;
        int column = -1;
        int row = -1;

        Piece copy() {
            Piece other = new Piece();
            other.sort = sort;
            other.form = form;
            other.colour = colour;
            other.way = way;
            other.name = name;
            other.test = test;
            other.number = number;
            other.column = column;
            other.row = row;
            return other;
        }

        boolean is(String... sorts) {
            return List.of(sorts).contains(sort);
        }
    }

    private static final List<String> OWN = List.of("size", "lamp", "mirror", "half", "glass", "prism", "wall", "eye",
            "shutter", "vane", "at", "when", "red", "green", "blue", "white", "up", "right", "down", "left", "slash",
            "back", "or", "and", "not", "all", "sees");
    private static final List<String> WAYS = List.of("up", "right", "down", "left");

    private final String text;
    private int at;
    int columns;
    int rows;
    int statements;
    final List<Piece> pieces = new ArrayList<>();
    private final Map<String, Integer> counts = new HashMap<>();
    private final Set<String> names = new HashSet<>();
    private final List<String> askedNames = new ArrayList<>();
    private final List<Integer> askedPlaces = new ArrayList<>();

    NaiveText(String text) {
        this.text = text;
    }

    /** Throws a Fault if there is one. */
    void read() {
        while (true) {
            skipBlanks();
            if (at == text.length()) {
                break;
            }
            if (statements == 60) {
                throw new Fault(5, at);
            }
            if (statements == 0) {
                word("size");
                columns = number(2, 12);
                rows = number(2, 12);
            } else {
                piece();
            }
            sign(';');
            statements++;
        }
        if (statements == 0) {
            throw new Fault(1, text.length());
        }
        for (int i = 0; i < askedNames.size(); i++) {
            if (!names.contains(askedNames.get(i))) {
                throw new Fault(6, askedPlaces.get(i));
            }
        }
    }

    private void piece() {
        int first = peek();
        String sort = anyWord();
        if (!List.of("lamp", "mirror", "half", "glass", "prism", "wall", "eye", "shutter", "vane").contains(sort)) {
            throw new Fault(1, first);
        }
        Piece p = new Piece();
        p.sort = sort;
        String group = sort.equals("half") ? "mirror" : sort.equals("vane") ? "shutter" : sort;
        int most = switch (group) {
            case "lamp", "mirror", "eye" -> 8;
            case "shutter" -> 6;
            default -> 1000;
        };
        int there = counts.getOrDefault(group, 0);
        if (there == most) {
            throw new Fault(5, first);
        }
        if (most < 1000) {
            p.number = there;
        }
        if (p.is("lamp", "glass")) {
            p.colour = colour();
        }
        if (p.is("lamp")) {
            p.way = WAYS.indexOf(oneOf(WAYS));
        }
        if (p.is("mirror", "half", "vane")) {
            p.form = oneOf(List.of("slash", "back")).equals("slash") ? 0 : 1;
        }
        if (p.is("eye")) {
            int place = peek();
            p.name = name();
            if (!names.add(p.name)) {
                throw new Fault(3, place);
            }
        }
        if (p.is("shutter", "vane")) {
            word("when");
            p.test = test(0);
        }
        word("at");
        int place = peek();
        p.column = number(0, columns - 1);
        p.row = number(0, rows - 1);
        for (Piece q : pieces) {
            if (q.column == p.column && q.row == p.row) {
                throw new Fault(3, place);
            }
        }
        counts.put(group, there + 1);
        pieces.add(p);
    }

    private Predicate<Map<String, Integer>> test(int open) {
        Predicate<Map<String, Integer>> any = both(open);
        while (nextIs("or")) {
            word("or");
            any = any.or(both(open));
        }
        return any;
    }

    private Predicate<Map<String, Integer>> both(int open) {
        Predicate<Map<String, Integer>> every = fact(open);
        while (nextIs("and")) {
            word("and");
            every = every.and(fact(open));
        }
        return every;
    }

    private Predicate<Map<String, Integer>> fact(int open) {
        int place = peek();
        if (nextIs("not") || nextIsSign('[')) {
            if (open == 6) {
                throw new Fault(4, place);
            }
            if (nextIsSign('[')) {
                sign('[');
                Predicate<Map<String, Integer>> inner = test(open + 1);
                sign(']');
                return inner;
            }
            word("not");
            return fact(open + 1).negate();
        }
        if (nextIs("all")) {
            word("all");
            return seen -> true;
        }
        word("sees");
        int namePlace = peek();
        String name = name();
        int colour = colour();
        askedNames.add(name);
        askedPlaces.add(namePlace);
        return seen -> (seen.get(name) & colour) == colour;
    }

    private int colour() {
        return switch (oneOf(List.of("red", "green", "blue", "white"))) {
            case "red" -> 1;
            case "green" -> 2;
            case "blue" -> 4;
            default -> 7;
        };
    }

    private void skipBlanks() {
        while (at < text.length() && (text.charAt(at) == ' ' || text.charAt(at) == '\n')) {
            at++;
        }
    }

    /** The place of what comes next, the text's length at the end. */
    private int peek() {
        int here = at;
        skipBlanks();
        int next = at;
        at = here;
        return next;
    }

    private boolean isLetter(int place) {
        return place >= 0 && place < text.length() && text.charAt(place) >= 'a' && text.charAt(place) <= 'z';
    }

    private boolean isDigit(int place) {
        return place >= 0 && place < text.length() && text.charAt(place) >= '0' && text.charAt(place) <= '9';
    }

    /** The word or number that comes next, "" if neither does; faults that it has wherever it stands are thrown. */
    private String next() {
        int from = peek();
        int to = from;
        if (isLetter(from)) {
            while (isLetter(to)) {
                to++;
            }
        } else {
            while (isDigit(to)) {
                to++;
            }
        }
        String whole = text.substring(from, to);
        if (to > from && from == at && (isLetter(at - 1) || isDigit(at - 1))) {
            throw new Fault(1, from);
        }
        if (isLetter(from) && whole.length() > 6 && !OWN.contains(whole)) {
            throw new Fault(1, from + 6);
        }
        if (isDigit(from) && whole.length() > 4) {
            throw new Fault(1, from + 4);
        }
        return whole;
    }

    private String anyWord() {
        String next = next();
        int from = peek();
        if (!isLetter(from)) {
            throw new Fault(1, from);
        }
        at = from + next.length();
        return next;
    }

    private String oneOf(List<String> words) {
        String next = next();
        int from = peek();
        if (!words.contains(next)) {
            throw new Fault(1, from);
        }
        at = from + next.length();
        return next;
    }

    private void word(String word) {
        oneOf(List.of(word));
    }

    private String name() {
        String next = next();
        int from = peek();
        if (!isLetter(from) || OWN.contains(next)) {
            throw new Fault(1, from);
        }
        at = from + next.length();
        return next;
    }

    private int number(int low, int high) {
        String next = next();
        int from = peek();
        if (!isDigit(from)) {
            throw new Fault(1, from);
        }
        int number = Integer.parseInt(next);
        if (number < low || number > high) {
            throw new Fault(2, from);
        }
        at = from + next.length();
        return number;
    }

    private boolean nextIs(String word) {
        return next().equals(word);
    }

    private boolean nextIsSign(char sign) {
        int from = peek();
        return from < text.length() && text.charAt(from) == sign;
    }

    private void sign(char sign) {
        next();
        int from = peek();
        if (!nextIsSign(sign)) {
            throw new Fault(1, from);
        }
        at = from + 1;
    }
}
