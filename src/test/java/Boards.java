import java.util.ArrayList;
import java.util.Collections;
import java.util.List;
import java.util.Random;
import java.util.Set;

/** Texts of boards, made from a seed: the same seed, the same text. */
final class Boards {
    private static final String[] COLOURS = {"red", "green", "blue", "white"};
    private static final String[] FORMS = {"slash", "back"};

    private final Random random;
    private final List<String> eyes = new ArrayList<>();

    Boards(long seed) {
        random = new Random(seed);
    }

    private String one(String... words) {
        return words[random.nextInt(words.length)];
    }

    /** A board without a fault; most PIECES are put where LIGHT comes by those that are there already. */
    String text(int widest) {
        int columns = 2 + random.nextInt(widest - 1);
        int rows = 2 + random.nextInt(widest - 1);
        List<String> statements = new ArrayList<>();
        int room = Math.min(columns * rows, 48);
        if (columns > 3 && rows > 2 && random.nextInt(2) == 0) {
            addRing(statements, columns, rows);
        }
        for (String piece : pieces(room - statements.size())) {
            statements.add(piece + place(statements, columns, rows, piece));
        }
        Collections.shuffle(statements, random);
        StringBuilder text = new StringBuilder(size(columns, rows));
        for (String statement : statements) {
            text.append(statement).append(random.nextInt(8) == 0 ? " ;\n" : ";");
        }
        return text.toString();
    }

    private static String size(int columns, int rows) {
        return "size " + columns + " " + rows + ";";
    }

    /** Four mirrors round which LIGHT can go, and a lamp that sends some in. */
    private void addRing(List<String> statements, int columns, int rows) {
        int left = 1 + random.nextInt(columns - 2);
        int right = left + 1 + random.nextInt(columns - left - 1);
        int top = random.nextInt(rows - 1);
        int bottom = top + 1 + random.nextInt(rows - top - 1);
        statements.add("lamp " + one(COLOURS) + " right at 0 " + top);
        statements.add("half slash at " + left + " " + top);
        statements.add(one("half", "mirror") + " back at " + right + " " + top);
        statements.add(one("half", "mirror") + " slash at " + right + " " + bottom);
        statements.add(one("half", "mirror") + " back at " + left + " " + bottom);
    }

    /** The words that put a PIECE onto an empty SQUARE: a LAMP at the edge, the others where LIGHT comes. */
    private String place(List<String> statements, int columns, int rows, String piece) {
        // What stands so far without its movers' tests: the eyes that these name may not be there yet.
        StringBuilder text = new StringBuilder(size(columns, rows));
        for (String statement : statements) {
            text.append(statement.replaceAll("when .* at", "when all at")).append(";");
        }
        NaiveText naive = new NaiveText(text.toString());
        naive.read();
        NaiveBoard board = new NaiveBoard(naive);
        board.set((1 << board.movers()) - 1 & random.nextInt(64));
        Set<List<Integer>> litSquares = board.litSquares(7);
        List<String> empty = new ArrayList<>();
        List<String> lit = new ArrayList<>();
        for (int i = 0; i < columns * rows; i++) {
            int column = i % columns;
            int row = i / columns;
            if (board.on(column, row) == null) {
                String place = " at " + column + " " + row;
                boolean isEdge = column == 0 || row == 0 || column == columns - 1 || row == rows - 1;
                if (piece.startsWith("lamp")) {
                    place = (column == 0 ? " right" : row == 0 ? " down" : row == rows - 1 ? " up" : " left") + place;
                    lit.addAll(isEdge ? List.of(place) : List.of());
                } else if (litSquares.contains(List.of(column, row))) {
                    lit.add(place);
                }
                empty.add(place);
            }
        }
        List<String> from = lit.isEmpty() || random.nextInt(6) == 0 ? empty : lit;
        return from.get(random.nextInt(from.size()));
    }

    /** PIECES without their SQUARES, so many at most: the LAMPS ahead, the EYES that end their LIGHT behind. */
    private List<String> pieces(int room) {
        int eyeCount = 1 + random.nextInt(Math.min(8, Math.max(1, room / 3)));
        for (int i = 0; i < eyeCount; i++) {
            eyes.add("e" + (char) ('a' + i) + "xyzw".substring(random.nextInt(5)));
        }
        List<String> pieces = new ArrayList<>();
        for (int i = random.nextInt(7); i > 0; i--) {
            pieces.add(random.nextInt(2) == 0 ? "shutter when " + test(0) : "vane " + one(FORMS) + " when " + test(0));
        }
        for (int i = random.nextInt(5); i > 0; i--) {
            pieces.add(one("mirror", "half", "half") + " " + one(FORMS));
        }
        for (int i = random.nextInt(1 + room / 6); i > 0; i--) {
            pieces.add(one("wall", "prism", "prism", "glass " + one(COLOURS), "glass " + one(COLOURS)));
        }
        Collections.shuffle(pieces, random);
        for (int i = 1 + random.nextInt(Math.min(7, Math.max(1, room / 4))); i > 0; i--) {
            pieces.add(0, "lamp " + one("red", "green", "blue", "white", "white", "white"));
        }
        List<String> taken = new ArrayList<>(pieces.subList(0, Math.min(pieces.size(), room - eyeCount)));
        for (String eye : eyes) {
            taken.add("eye " + eye);
        }
        return taken;
    }

    private String test(int open) {
        StringBuilder text = new StringBuilder(fact(open));
        while (random.nextInt(5) == 0) {
            text.append(one(" and ", " or ")).append(fact(open));
        }
        return text.toString();
    }

    private String fact(int open) {
        int kind = random.nextInt(open < 6 ? 14 : 8);
        if (kind >= 13) {
            return "[" + test(open + 1) + "]";
        }
        if (kind >= 8) {
            return "not " + fact(open + 1);
        }
        return kind == 7 && random.nextInt(3) == 0 ? "all" : "sees " + eyes.get(random.nextInt(eyes.size())) + " " + one(COLOURS);
    }

    /** A board's text with some bytes or words changed. */
    String spoilt(String text) {
        StringBuilder spoilt = new StringBuilder(text);
        for (int i = 1 + random.nextInt(2); i > 0; i--) {
            spoil(spoilt);
        }
        return spoilt.toString();
    }

    private void spoil(StringBuilder text) {
        int at = random.nextInt(text.length() + 1);
        int to = Math.min(text.length(), at + 1 + (random.nextInt(3) == 0 ? random.nextInt(12) : 0));
        switch (random.nextInt(8)) {
            case 0 -> text.delete(at, to);
            case 1 -> text.insert(at, " ");
            case 2 -> text.insert(at, one("a", "z", "0", "7", ";", "[", "]", "?", "A", "\t", "\n", "\u00e9"));
            case 3 -> text.insert(at, one(" not ", " [", "] ", " all ", " and ", " or ", "lamp red up at 0 0;",
                    " not not not ", " not not not not not not [ ", " [[[ ", " [[[[[[[ ", " 12 ", " 99 ", " 00001", "abcdefg", " eye ea at 1 1;", " size "));
            case 4 -> {
                int statement = text.indexOf(";", at) + 1;
                String piece = one("lamp red up", "mirror back", "half slash", "eye ", "shutter when all");
                for (int i = 0; i < 9; i++) {
                    text.insert(statement, piece + (piece.equals("eye ") ? "" + (char) ('o' + i) : "") + " at " + i % 3 + " " + i / 3 + ";");
                }
            }
            case 5 -> text.setLength(at);
            case 6 -> text.replace(at, to, one("e", "1", " ", ";", "shutter", "mirrors", "123456", "sees"));
            default -> spoilWord(text);
        }
    }

    /** One whole word or number gives way to another. */
    private void spoilWord(StringBuilder text) {
        String[] words = text.toString().split("(?<=[ ;\\[\\]\n])|(?=[ ;\\[\\]\n])");
        int at = random.nextInt(words.length);
        words[at] = one("size", "lamp", "mirror", "half", "glass", "eye", "shutter", "vane", "at", "when", "red", "up",
                "slash", "or", "and", "not", "all", "sees", "0", "1", "13", "ea", "none", "[", "]", ";", "", "not ");
        text.setLength(0);
        text.append(String.join("", words));
    }

    int below(int n) {
        return random.nextInt(n);
    }
}
