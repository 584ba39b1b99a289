import java.util.Arrays;
import java.util.List;

/**
 * Where the document's sentences of a text (Terms, I) end: the last that is allowed and the first that is not, each word
 * and number at each place. In the texts with a fault, ^ stands ahead of the byte at which it is.
 */
public final class EdgeTextTest {
    private static final Check CHECK = new Check("EdgeTextTest");
    private static final String HEAD = "size 12 12;";
    private static final String EYE = HEAD + "eye q at 11 11;";
    private static final List<String> PIECES = List.of("lamp", "mirror", "half", "glass", "prism", "wall", "eye", "shutter", "vane");
    private static final List<String> COLOURS = List.of("red", "green", "blue", "white");
    private static final List<String> WAYS = List.of("up", "right", "down", "left");
    private static final List<String> FORMS = List.of("slash", "back");
    private static final List<String> OWN = List.of("size", "lamp", "mirror", "half", "glass", "prism", "wall", "eye", "shutter",
            "vane", "at", "when", "red", "green", "blue", "white", "up", "right", "down", "left", "slash", "back", "or", "and",
            "not", "all", "sees");
    /** A statement of each kind, its words, numbers and signs parted by single blanks. */
    private static final String ALL_KINDS = "size 4 5 ; lamp red up at 0 0 ; mirror slash at 1 0 ; half back at 2 0 ; glass white at 3 0 ; "
            + "prism at 0 1 ; wall at 1 1 ; shutter when sees late green and not [ all or not all ] or all at 2 1 ; "
            + "vane back when [ sees late blue ] and all at 3 1 ; eye late at 3 4 ;";

    public static void main(String[] args) {
        blanks();
        otherBytes();
        missingBlanks();
        cutText();
        strayBytes();
        sizes();
        squares();
        digits();
        ownWordsAsNames();
        ownWordsInPlaces();
        nothingPosesAsAnother();
        longest();
        names();
        mostOfAKind();
        sixtyStatements();
        takenSquares();
        openFacts();
        unknownNames();
        faultsInBothOrders();
        twentySevenWords();
        CHECK.finish();
    }

    /** Ahead of a fault's place, and behind it. */
    private static void bad(int fault, String ahead, String behind) {
        CHECK.bad(fault, ahead + "^" + behind);
    }

    // ---- "a text with blanks (10, 32) between where one likes (words and numbers side by side need one)"

    private static void blanks() {
        CHECK.good(ALL_KINDS, 10);
        CHECK.good(ALL_KINDS.replace(" ", "\n"), 10);
        CHECK.good(ALL_KINDS.replace(" ", " \n \n\n  "), 10);
        CHECK.good("\n  \n" + ALL_KINDS + "\n  \n", 10);
        CHECK.good(ALL_KINDS.replace(" ;", ";").replace("; ", ";").replace(" [ ", "[").replace(" ] ", "]"), 10);
        // One more at each place where there is one, and at either end.
        for (int i = 0; i <= ALL_KINDS.length(); i++) {
            if (i == 0 || i == ALL_KINDS.length() || ALL_KINDS.charAt(i) == ' ') {
                CHECK.good(ALL_KINDS.substring(0, i) + "\n" + ALL_KINDS.substring(i), 10);
            }
        }
    }

    /** Any byte but those of blanks, where a statement might begin or the text be at its end. */
    private static void otherBytes() {
        for (int other = 0; other < 256; other++) {
            String sign = String.valueOf((char) other);
            if (other == 10 || other == 32) {
                CHECK.good(sign + "size 2" + sign + "3;" + sign + "wall at 0 0;" + sign, 2);
            } else {
                bad(1, "size 2 3;", sign);
                bad(1, "size 2 3;", sign + ";wall at 0 0;");
                bad(1, "size 2 3;wall at 0 0" + (other == ';' ? ";" : " "), sign + " ;");
            }
            if (other != 10 && other != 32) {
                boolean isLetter = other >= 'a' && other <= 'z';
                boolean isDigit = other >= '0' && other <= '9';
                // Inside a number and inside a name.
                if (!isDigit) {
                    bad(1, "size 2", sign + "2 2;");
                }
                if (!isLetter) {
                    bad(1, HEAD + "eye x", sign + "x at 0 0;");
                }
            }
        }
    }

    private static void missingBlanks() {
        bad(1, "size", "4 4;");
        bad(1, "size", "12345 4;");
        bad(1, "size 4 4;wall at", "0 0;");
        bad(1, "size 4 4;wall at", "9999 0;");
        bad(1, "size 4 4;wall at", "00000 0;");
        bad(1, "size 4 4;wall at 0 0", "wall at 1 1;");
        bad(1, "size 4 4;wall at 0 0", "walls at 1 1;");
        bad(1, "size 4 4;wall at 0", "abcdefgh 0;");
        bad(1, "size 4 4;eye a", "1 at 0 0;");
        bad(1, "size 4 4;eye abcdef", "1 at 0 0;");
        bad(1, "size 4 4;eye abcdef", "11111 at 0 0;");
        bad(1, "size 4 4;eye a at 0 0;shutter when sees a", "0 red at 1 1;");
        // Two words without one are one word: of more than six letters, at the seventh; else at the first.
        bad(1, "size 4 4;mirror slasha", "t 0 0;");
        bad(1, "size 4 4;shutter whenal", "l at 0 0;");
        bad(1, "size 4 4;glass ", "redat 0 0;");
        bad(1, "size 4 4;shutter when ", "notall at 0 0;");
        bad(1, "size 4 4;shutter when all ", "orall at 0 0;");
        bad(1, "size 4 4;shutter when all ", "andall at 0 0;");
        bad(1, "size 4 4;shutter when ", "seesa red at 0 0;");
        bad(1, "size 4 4;", "eyea at 0 0;");
        bad(1, "size 4 4;", "atat 0 0;");
        // Two numbers without one are one number.
        bad(1, "size 12", ";");
        bad(2, "size ", "44;");
        bad(1, "size 4 4;wall at 00", ";");
        CHECK.good("size 4 4;shutter when[all]at 0 0;vane slash when not[all]and[not[all]]or[all]at 1 1;", 3);
        bad(1, "size 4 4;shutter when[all]", "[all]at 0 0;");
    }

    // ---- "at the text's length, if it ends too soon"; "a text without a STATEMENT has FAULT 1 at its length"

    private static void cutText() {
        String[] words = ALL_KINDS.split(" ");
        int statements = 0;
        for (int i = 0; i <= words.length; i++) {
            String text = String.join(" ", Arrays.copyOf(words, i));
            boolean isWhole = i > 0 && words[i - 1].equals(";");
            statements += isWhole ? 1 : 0;
            for (String blanks : new String[] {"", " ", "\n \n"}) {
                if (!isWhole) {
                    bad(1, text + blanks, "");
                } else if (statements == 8 || statements == 9) {
                    // The eye that is told behind is not there yet.
                    int place = text.indexOf("late");
                    bad(6, text.substring(0, place), text.substring(place) + blanks);
                } else {
                    CHECK.good(text + blanks, statements);
                }
            }
        }
        for (int length = 0; length <= 1600; length += length < 5 ? 1 : 319) {
            bad(1, " ".repeat(length), "");
            bad(1, "\n".repeat(length), "");
        }
    }

    /** A byte that no text has, and a ; where none may stand, ahead of each word, number and sign. */
    private static void strayBytes() {
        String[] words = ALL_KINDS.split(" ");
        for (int i = 0; i <= words.length; i++) {
            String ahead = String.join(" ", Arrays.copyOf(words, i)) + " ";
            String behind = " " + String.join(" ", Arrays.copyOfRange(words, i, words.length));
            bad(1, ahead, "?" + behind);
            bad(1, ahead, "\u00e9" + behind);
            bad(1, ahead + "xxxxxx", "x" + behind);
            bad(1, ahead + "0000", "0" + behind);
            if (i == words.length || !words[i].equals(";")) {
                bad(1, ahead, ";" + behind);
            } else {
                // The first ; ends the statement, the second is none.
                bad(1, ahead + "; ", behind.trim());
            }
        }
    }

    // ---- "size N N (columns, rows, 2 .. 12 each; the first STATEMENT, and it alone)"

    private static void sizes() {
        for (int columns = 0; columns <= 14; columns++) {
            for (int rows = 0; rows <= 14; rows++) {
                boolean isWide = columns >= 2 && columns <= 12;
                boolean isHigh = rows >= 2 && rows <= 12;
                if (!isWide) {
                    bad(2, "size ", columns + " " + rows + ";");
                } else if (!isHigh) {
                    bad(2, "size " + columns + " ", rows + ";");
                } else {
                    BeamBoard x = new BeamBoard();
                    CHECK.due("size " + columns + " " + rows, Check.read(x, "size " + columns + " " + rows + ";"), 1);
                    CHECK.due("columns", x.has(0), columns);
                    CHECK.due("rows", x.has(1), rows);
                }
            }
        }
        bad(1, HEAD, HEAD);
        bad(1, HEAD, "size 99 99;");
        bad(1, HEAD + "wall at 0 0;", HEAD);
        for (String piece : PIECES) {
            bad(1, "", piece + " at 0 0;" + HEAD);
        }
    }

    // ---- "AT being at N N (column, row, from 0 on, within the size)"

    private static void squares() {
        int[][] sizes = {{2, 2}, {2, 12}, {12, 2}, {12, 12}, {3, 5}, {7, 4}};
        for (int[] size : sizes) {
            String head = "size " + size[0] + " " + size[1] + ";";
            for (int column = 0; column <= 13; column++) {
                for (int row = 0; row <= 13; row++) {
                    if (column >= size[0]) {
                        bad(2, head + "wall at ", column + " " + row + ";");
                    } else if (row >= size[1]) {
                        bad(2, head + "wall at " + column + " ", row + ";");
                    } else {
                        BeamBoard x = Check.board(head + "wall at " + column + " " + row + ";");
                        CHECK.due(head + column + " " + row, x.square(column, row, 0), 6);
                    }
                }
            }
            bad(2, head + "prism at ", "9999 0;");
            bad(2, head + "prism at 0 ", "9999;");
        }
    }

    // ---- "2 a number (of 1 to 4 digits) that can't be"; "a 5th digit at itself, whatever may stand there"

    private static void digits() {
        String[] zeros = {"", "0", "00", "000"};
        for (String zero : zeros) {
            CHECK.good("size " + zero + "2 " + zero + "3;wall at " + zero + "1 " + zero + "2;", 2);
            bad(2, "size ", zero + "1 3;");
            bad(2, "size 3 ", zero + "0;");
            bad(2, "size 8 8;wall at ", zero + "8 0;");
            bad(2, "size 8 8;wall at 0 ", zero + "9;");
        }
        bad(1, "size 0000", "2 3;");
        bad(1, "size 2 0000", "3;");
        bad(1, "size 2 3;wall at 0000", "1 2;");
        bad(1, "size 2 3;wall at 1 0000", "2;");
        bad(1, "size 1000", "0 3;");
        bad(1, "size 2 3;wall at 9999", "99999999 2;");
        // Where no number may stand: at its first byte with four digits, at the fifth with five.
        String[] ahead = {"", "size 2 3 ", HEAD, HEAD + "lamp ", HEAD + "lamp red ", HEAD + "mirror ", HEAD + "wall ", HEAD + "wall at 0 0 ",
            HEAD + "eye ", HEAD + "shutter ", HEAD + "shutter when ", HEAD + "shutter when not ", HEAD + "shutter when [",
            HEAD + "shutter when all and ", HEAD + "shutter when all ", HEAD + "shutter when sees ", HEAD + "shutter when sees q "};
        for (String text : ahead) {
            bad(1, text, "1");
            bad(1, text, "1234 ;");
            bad(1, text + "1234", "5");
            bad(1, text + "1234", "5678901 ;");
            // Words likewise: at the first byte with six letters, at the seventh with seven.
            if (!text.endsWith("eye ") && !text.endsWith("sees ")) {
                bad(1, text, "x");
                bad(1, text, "xxxxxx ;");
            }
            bad(1, text + "xxxxxx", "x");
            bad(1, text + "xxxxxx", "xxxxxxx ;");
            bad(1, text + "shutte", "rs ;");
        }
    }

    // ---- "NAMES: 1 to 6 letters, no OWN WORD, unlike ones"

    private static void ownWordsAsNames() {
        for (String word : OWN) {
            bad(1, HEAD + "eye ", word + " at 0 0;");
            bad(1, EYE + "shutter when sees ", word + " red at 0 0;");
            String[] near = {word + "x", "x" + word, word.substring(1), word.substring(0, word.length() - 1)};
            for (String name : near) {
                if (OWN.contains(name)) {
                    bad(1, HEAD + "eye ", name + " at 0 0;");
                } else if (name.length() > 6) {
                    bad(1, HEAD + "eye " + name.substring(0, 6), name.substring(6) + " at 0 0;");
                    bad(1, HEAD + "shutter when sees " + name.substring(0, 6), name.substring(6) + " red at 0 0;");
                } else {
                    CHECK.good(HEAD + "eye " + name + " at 0 0;vane slash when sees " + name + " red at 1 0;", 3);
                }
            }
        }
    }

    /** Each own word where but some may stand. */
    private static void ownWordsInPlaces() {
        place("", List.of("size"), " 2 2;");
        place(HEAD, PIECES, null);
        place(HEAD + "lamp ", COLOURS, " up at 0 0;");
        place(HEAD + "lamp red ", WAYS, " at 0 0;");
        place(HEAD + "lamp red up ", List.of("at"), " 0 0;");
        place(HEAD + "mirror ", FORMS, " at 0 0;");
        place(HEAD + "mirror slash ", List.of("at"), " 0 0;");
        place(HEAD + "half ", FORMS, " at 0 0;");
        place(HEAD + "half back ", List.of("at"), " 0 0;");
        place(HEAD + "glass ", COLOURS, " at 0 0;");
        place(HEAD + "glass red ", List.of("at"), " 0 0;");
        place(HEAD + "prism ", List.of("at"), " 0 0;");
        place(HEAD + "wall ", List.of("at"), " 0 0;");
        place(HEAD + "eye a ", List.of("at"), " 0 0;");
        place(HEAD + "shutter ", List.of("when"), " all at 0 0;");
        place(HEAD + "shutter when ", List.of("all", "not", "sees"), null);
        place(HEAD + "shutter when all ", List.of("at", "and", "or"), null);
        place(HEAD + "shutter when [all ", List.of("and", "or"), null);
        place(HEAD + "shutter when not ", List.of("all", "not", "sees"), null);
        place(HEAD + "shutter when [", List.of("all", "not", "sees"), null);
        place(HEAD + "shutter when all and ", List.of("all", "not", "sees"), null);
        place(HEAD + "shutter when all or ", List.of("all", "not", "sees"), null);
        place(EYE + "shutter when sees q ", COLOURS, " at 0 0;");
        place(EYE + "shutter when sees q red ", List.of("at", "and", "or"), null);
        place(HEAD + "vane ", FORMS, " when all at 0 0;");
        place(HEAD + "vane slash ", List.of("when"), " all at 0 0;");
        place(HEAD + "wall at ", List.of(), null);
        place(HEAD + "wall at 0 ", List.of(), null);
        place(HEAD + "wall at 0 0 ", List.of(), null);
        place("size ", List.of(), null);
        place("size 2 ", List.of(), null);
        place("size 2 2 ", List.of(), null);
        for (String sign : new String[] {"[", "]"}) {
            String[] ahead = {"", HEAD, HEAD + "wall ", HEAD + "wall at ", HEAD + "wall at 0 0", HEAD + "lamp ", HEAD + "eye ",
                HEAD + "shutter ", HEAD + "vane slash "};
            for (String text : ahead) {
                bad(1, text, sign + ";");
            }
        }
        bad(1, HEAD + "shutter when all", "[all] at 0 0;");
        bad(1, HEAD + "shutter when [all]", "] at 0 0;");
        bad(1, HEAD + "shutter when [[all] ", "at 0 0;");
        bad(1, HEAD + "shutter when [all", ";");
        bad(1, HEAD + "shutter when sees ", "[q red] at 0 0;");
    }

    /** Names of one or two letters, and numbers, are no words and no signs, whatever place they have among names and numbers. */
    private static void nothingPosesAsAnother() {
        String[] ahead = {"", HEAD, HEAD + "lamp ", HEAD + "lamp red ", HEAD + "lamp red up ", HEAD + "mirror ", HEAD + "half slash ",
            HEAD + "glass ", HEAD + "wall ", HEAD + "eye a ", HEAD + "shutter ", HEAD + "shutter when ", HEAD + "shutter when all ",
            HEAD + "shutter when not ", HEAD + "shutter when [", HEAD + "shutter when [all ", HEAD + "vane ", HEAD + "vane slash ",
            EYE + "shutter when sees q ", EYE + "shutter when sees q red ", "size 2 2 ", HEAD + "wall at 0 0 "};
        for (String text : ahead) {
            for (int number = 0; number <= 130; number++) {
                bad(1, text, number + " ;");
            }
            for (int i = 0; i < 27 * 26; i++) {
                String name = (i < 26 ? "" : "" + (char) ('a' + i / 26 - 1)) + (char) ('a' + i % 26);
                if (!OWN.contains(name)) {
                    bad(1, text, name + " ;");
                }
            }
        }
        String[] numbers = {"size ", "size 2 ", HEAD + "wall at ", HEAD + "wall at 0 "};
        for (String text : numbers) {
            for (char name = 'a'; name <= 'z'; name++) {
                bad(1, text, name + " ;");
            }
        }
    }

    // ---- texts of 1600 bytes, up to the last

    private static void longest() {
        for (String word : OWN) {
            for (int length = 1; length <= word.length(); length++) {
                String end = word.substring(0, length);
                String blanks = " ".repeat(1600 - length);
                // The word size may begin a text; it ends too soon then.
                bad(1, blanks + (end.equals("size") ? end : ""), end.equals("size") ? "" : end);
                String text = HEAD + " ".repeat(1600 - HEAD.length() - length);
                bad(1, text + (PIECES.contains(end) ? end : ""), PIECES.contains(end) ? "" : end);
            }
        }
        bad(1, " ".repeat(1594), "xxxxxx");
        bad(1, " ".repeat(1593) + "xxxxxx", "x");
        bad(1, " ".repeat(1595) + "1234", "5");
        CHECK.good(" ".repeat(1591) + "size 2 2;", 1);
        CHECK.good("size 2 2;" + " ".repeat(1591), 1);
        bad(1, " ".repeat(1592) + "size 2 2", "");
        // As many facts as a text can hold, and another mover behind them.
        String start = "size 2 2;shutter when not[[all]";
        String end = "]at 0 0;vane slash when all at 1 0;";
        int facts = (1600 - start.length() - end.length()) / "or[all]".length();
        String text = start + "or[all]".repeat(facts) + end;
        for (String full : new String[] {text, text + " ".repeat(1600 - text.length())}) {
            BeamBoard x = new BeamBoard();
            CHECK.due("a text of " + facts + " facts", Check.read(x, full), 3);
            CHECK.due("step(1)", x.step(1), 2);
        }
        BeamBoard y = Check.board(text.replace("not[", "[").replace("slash when all", "slash when not all"));
        CHECK.due("step(1)", y.step(1), 1);
    }

    /** Words that may not stand there have the fault at their first byte; without an end the others have it at the end. */
    private static void place(String ahead, List<String> allowed, String end) {
        for (String word : OWN) {
            if (!allowed.contains(word)) {
                bad(1, ahead, word + (end == null ? "" : end));
            } else if (end == null) {
                bad(1, ahead + word, "");
            } else {
                CHECK.due(ahead + word + end, Check.read(new BeamBoard(), ahead + word + end) > 0, true);
            }
        }
    }

    private static void names() {
        for (int first = 0; first < 26; first += 8) {
            StringBuilder text = new StringBuilder(HEAD);
            for (int i = 0; i < 8; i++) {
                text.append("eye ").append((char) ('a' + (first + i) % 26)).append(" at ").append(i).append(" 0;");
            }
            CHECK.good(text.toString(), 9);
        }
        CHECK.good(HEAD + "eye abcdef at 0 0;eye abcdeg at 1 0;eye bbcdef at 2 0;eye abcde at 3 0;eye bcdef at 4 0;eye a at 5 0;eye aa at 6 0;eye aaa at 7 0;", 9);
        for (int length = 1; length <= 9; length++) {
            String name = "zyxwvutsr".substring(0, length);
            if (length <= 6) {
                CHECK.good(HEAD + "eye " + name + " at 0 0;", 2);
                bad(3, HEAD + "eye " + name + " at 0 0;eye ", name + " at 1 0;");
                bad(6, EYE + "shutter when sees ", name + " red at 0 0;");
            } else {
                bad(1, HEAD + "eye " + name.substring(0, 6), name.substring(6) + " at 0 0;");
                bad(1, HEAD + "shutter when sees " + name.substring(0, 6), name.substring(6) + " red at 0 0;");
            }
        }
        // Of eight eyes the last is like each of the others; like one that a TEST named, but that was not told, it may be.
        for (int like = 0; like < 7; like++) {
            StringBuilder text = new StringBuilder(HEAD + "shutter when sees other red at 0 1;");
            for (int i = 0; i < 7; i++) {
                text.append("eye n").append((char) ('a' + i)).append(" at ").append(i).append(" 0;");
            }
            bad(3, text + "eye ", "n" + (char) ('a' + like) + " at 7 0;");
            CHECK.good(text + "eye other at 7 0;", 10);
        }
    }

    // ---- "eye (8 at most)", "MIRRORS (8 at most together)", "MOVERS (6 at most)", "LAMPS 8 at most"; FAULT 5

    private static void mostOfAKind() {
        most("lamp red up", "lamp white left", 8);
        most("eye n#", "eye n#", 8);
        most("mirror slash", "half back", 8);
        most("half slash", "mirror back", 8);
        most("mirror slash", "mirror slash", 8);
        most("shutter when all", "vane slash when all", 6);
        most("vane back when all", "shutter when not all", 6);
        most("vane back when all", "vane back when all", 6);
        for (String piece : new String[] {"glass red", "prism", "wall"}) {
            CHECK.good(HEAD + row(piece, 59, 0), 60);
        }
        // All of them at once; then one more of any is one too many.
        String all = HEAD + row("lamp red up", 8, 0) + row("eye n#", 8, 12) + row("half slash", 8, 24) + row("shutter when all", 6, 36);
        CHECK.good(all, 31);
        CHECK.good(all + row("glass blue", 29, 48), 60);
        for (String piece : new String[] {"lamp red up", "eye z", "mirror back", "half back", "shutter when all", "vane back when all"}) {
            bad(5, all, piece + " at 11 11;");
        }
    }

    /** So many of a sort, a # in each made another letter, from the square of a number on. */
    private static String row(String piece, int n, int from) {
        StringBuilder text = new StringBuilder();
        for (int i = 0; i < n; i++) {
            int square = from + i;
            text.append(piece.replace('#', (char) ('a' + i))).append(" at ").append(square % 12).append(' ').append(square / 12).append(';');
        }
        return text.toString();
    }

    private static void most(String piece, String another, int most) {
        String full = HEAD + row(piece, most, 0);
        CHECK.good(HEAD + row(piece, most - 1, 0) + another.replace('#', 'z') + " at 11 11;", most + 1);
        CHECK.good(full, most + 1);
        bad(5, full, another.replace('#', 'z') + " at 11 11;");
        // At its first byte, whatever is wrong behind that.
        String word = another.split(" ")[0];
        bad(5, full, word);
        bad(5, full + "\n ", word + " ?");
        bad(5, full, word + "1");
        bad(5, full, another.replace('#', 'a') + " at 0 0;");
        bad(5, full, another.replace('#', 'a') + " at 99 99;");
        bad(1, full, word.substring(0, 2) + " at 11 11;");
        CHECK.good(full + "wall at 11 11;glass red at 11 10;", most + 3);
    }

    // ---- "{ STATEMENT ; } (60 at most)"; "5 a 61st STATEMENT (whatever stands there)"

    private static void sixtyStatements() {
        String sixty = HEAD + row("wall", 59, 0);
        CHECK.good(HEAD + row("wall", 58, 0), 59);
        CHECK.good(sixty, 60);
        CHECK.good(sixty + "\n \n", 60);
        String[] more = {"wall at 11 11;", "lamp red up at 11 11;", "size 2 2;", "x", "xxxxxxx", "1", "11111", ";", "[", "?", "A", "\t",
            "\u00ff", "\u0000", "at", "wall at 0 0;", "wall at 99 99;", "eye wall at 11 11;", "shutter when [[[[[[[all;"};
        for (String text : more) {
            bad(5, sixty, text);
            bad(5, sixty + " \n", text);
        }
        // What is wrong in the 60th stands ahead of the 61st.
        String most = HEAD + row("wall", 58, 0);
        bad(1, most, "x;wall at 11 11;");
        bad(2, most + "wall at ", "12 0;wall at 11 11;");
        bad(3, most + "wall at ", "0 0;wall at 11 11;");
        bad(1, most + "wall at 11 11", "");
        bad(1, most + "wall at 11 11 ", "wall at 11 10;");
        bad(5, most + "shutter when sees q red at 11 11;", "eye q at 11 10;");
        bad(6, most + "shutter when sees ", "q red at 11 11;");
        bad(5, sixty, ";;");
    }

    // ---- "3 ... a SQUARE that has a PIECE already, at its first number"

    private static void takenSquares() {
        String[] pieces = {"lamp red up", "mirror slash", "half back", "glass blue", "prism", "wall", "eye a", "shutter when all",
            "vane slash when all"};
        for (String there : pieces) {
            for (String piece : pieces) {
                String another = piece.replace("eye a", "eye b");
                bad(3, "size 4 3;" + there + " at 3 2;" + another + " at ", "3 2;");
                bad(3, "size 4 3;" + there + " at 3 2;" + another + " at ", "03  002?");
                bad(3, "size 4 3;" + there + " at 3 2;" + another + " at \n", "3 2");
                CHECK.good("size 4 3;" + there + " at 3 2;" + another + " at 2 2;", 3);
            }
        }
        // A full board; each of its squares is taken.
        String full = "size 2 2;wall at 0 0;wall at 1 0;wall at 0 1;wall at 1 1;";
        CHECK.good(full, 5);
        for (int place = 0; place < 4; place++) {
            bad(3, full + "prism at ", place % 2 + " " + place / 2 + ";");
        }
        bad(2, full + "prism at ", "2 0;");
        bad(2, full + "prism at 0 ", "2;");
        bad(1, full + "prism at 0 0000", "0;");
        bad(1, full + "prism at 0 ", "x;");
        bad(1, full + "prism at 0", "");
    }

    // ---- "4 the 7th [ not that is open at once (not until its FACT ends), at it"

    private static void openFacts() {
        for (int kinds = 0; kinds < 64; kinds++) {
            StringBuilder open = new StringBuilder();
            StringBuilder close = new StringBuilder();
            for (int i = 0; i < 6; i++) {
                boolean isNot = (kinds >> i & 1) == 1;
                open.append(isNot ? " not " : "[");
                close.append(isNot ? "" : "]");
            }
            String ahead = HEAD + "shutter when " + open;
            CHECK.good(ahead + "all" + close + " at 0 0;", 2);
            CHECK.good(ahead + "all" + close + " and" + open + "all" + close + " or" + open + "all" + close + " at 0 0;", 2);
            for (String one : new String[] {"[", "[all]", "not", "not all", "not9"}) {
                bad(4, ahead, one + close + " at 0 0;");
                bad(4, ahead + "all" + close + " or" + open, one + close + " at 0 0;");
            }
            // Where a fact has ended, so has its not, and a bracket with its other one.
            if (close.length() > 0) {
                String again = ahead + "all and " + "not ".repeat(trailingNots(open.toString()));
                CHECK.good(again + "all" + close + " at 0 0;", 2);
                bad(4, again, "not all" + close + " at 0 0;");
            }
        }
        // A text of two tests: what is open in one is not in the other.
        CHECK.good(HEAD + "shutter when not not not not not not all at 0 0;vane slash when not not not not not not all at 0 1;", 3);
        bad(1, HEAD + "shutter when not not not not not not ", "] at 0 0;");
        bad(1, HEAD + "shutter when all ", "not all at 0 0;");
        bad(4, HEAD + "shutter when [[[[[[", "[");
        bad(1, HEAD + "shutter when [[[[[[", "");
        bad(1, HEAD + "shutter when [[[[[[all]]]]]]", "]");
    }

    /** How many stand behind the last bracket: those that end with the fact. */
    private static int trailingNots(String open) {
        return open.substring(open.lastIndexOf('[') + 1).replace(" ", "").length() / "not".length();
    }

    // ---- "behind all these, 6 the first NAME in a TEST that no EYE has, at it"

    private static void unknownNames() {
        bad(6, HEAD + "shutter when sees ", "a red at 0 0;");
        bad(6, HEAD + "shutter when all or all and not [sees ", "a red] at 0 0;");
        CHECK.good(HEAD + "shutter when sees a red at 0 0;eye a at 1 0;", 3);
        CHECK.good(HEAD + "eye a at 1 0;shutter when sees a red at 0 0;", 3);
        String tests = HEAD + "shutter when sees a red or sees b red at 0 0;vane slash when sees c red and sees a blue at 1 0;";
        bad(6, HEAD + "shutter when sees ", tests.substring((HEAD + "shutter when sees ").length()));
        int b = tests.indexOf("b red");
        bad(6, tests.substring(0, b), tests.substring(b) + "eye a at 2 0;eye c at 3 0;");
        int c = tests.indexOf("c red");
        bad(6, tests.substring(0, c), tests.substring(c) + "eye b at 2 0;eye a at 3 0;");
        bad(6, tests.substring(0, c), tests.substring(c) + "eye b at 2 0;eye a at 3 0;eye d at 4 0;");
        CHECK.good(tests + "eye b at 2 0;eye a at 3 0;eye c at 4 0;", 6);
        // Each of eight eyes is found, told ahead and behind.
        for (int i = 0; i < 8; i++) {
            String eyes = row("eye n#", 8, 0);
            String test = "shutter when sees n" + (char) ('a' + i) + " red at 11 11;";
            CHECK.good(HEAD + eyes + test, 10);
            CHECK.good(HEAD + test + eyes, 10);
            bad(6, HEAD + eyes + "shutter when sees ", "m" + (char) ('a' + i) + " red at 11 11;");
            bad(6, HEAD + eyes + "shutter when sees n" + (char) ('a' + i) + " blue or sees ", "n red at 11 11;");
        }
    }

    // ---- "the first along the text"

    private static void faultsInBothOrders() {
        String ahead = EYE + row("lamp red up", 8, 0);
        String[][] faults = {
            {"1", "wall at ", "x 3;"}, {"1", "", ";"}, {"1", "eye abcdef", "g at 3 3;"}, {"1", "wall at 3", "x 3;"},
            {"2", "wall at ", "12 3;"}, {"2", "wall at 3 ", "9999;"}, {"3", "eye ", "q at 3 3;"}, {"3", "wall at ", "11 11;"},
            {"4", "shutter when [[[[[[", "[all]]]]]]] at 3 3;"}, {"5", "", "lamp red up at 3 3;"}, {"6", "shutter when sees ", "u red at 4 4;"},
        };
        for (String[] one : faults) {
            bad(Integer.parseInt(one[0]), ahead + one[1], one[2]);
            for (String[] other : faults) {
                String second = other[1] + other[2];
                if (!one[0].equals("6")) {
                    bad(Integer.parseInt(one[0]), ahead + one[1], one[2] + second);
                } else if (!other[0].equals("6")) {
                    bad(Integer.parseInt(other[0]), ahead + one[1] + one[2] + other[1], other[2]);
                }
            }
        }
    }

    // ---- "OWN WORDS": these and no others

    private static void twentySevenWords() {
        String[] others = {"sizes", "lamps", "mirror", "mirrors", "halfs", "pane", "blind", "to", "if", "cyan", "black", "top", "rights",
            "bottom", "nor", "any", "none", "see", "seen", "yellow", "forth", "if"};
        for (String word : others) {
            if (!OWN.contains(word) && word.length() <= 6) {
                CHECK.good(HEAD + "eye " + word + " at 0 0;", 2);
                bad(1, HEAD, word + " at 0 0;");
            }
        }
    }
}
