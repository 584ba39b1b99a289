import java.util.Arrays;

/**
 * A table of squares across which coloured beams run, told as a text. What the methods promise stands in DOC.md; words
 * in capitals in the comments are that document's.
 */
public final class BeamBoard {
    public static final int NONE = -1;

    private static final int LONGEST_TAPE = 1600;
    private static final int BYTES_FED = 20;
    private static final int MOST_STEPS = 1000;
    private static final int IMAGE_HEAD = 5;
    private static final int CHECK_START = 13;
    private static final int CHECK_MODULUS = 227;
    private static final int MOST_SETTINGS = 16;

    private static final int LEAST_SIZE = 2;
    private static final int GREATEST_SIZE = 12;
    private static final int SQUARES = 144;
    private static final int MOST_STATEMENTS = 60;
    // Behind the places of the 59 PIECES that a text can tell there is one for the wall or mirror that is tried out.
    private static final int TRIED_PIECE = 59;
    private static final int MOST_MOVERS = 6;
    private static final int MOST_OTHERS = 8;
    private static final int STATES = 64;
    private static final int LONGEST_NAME = 6;
    private static final int LONGEST_NUMBER = 4;
    private static final int MOST_OPEN = 6;
    // The shortest FACT that sees something, "sees a red", takes ten bytes.
    private static final int MOST_SEEN = 160;
    // Each part of a TEST's code stands for a word, and these take more than three bytes each with what parts them.
    private static final int MOST_CODE = LONGEST_TAPE / 3;
    private static final int ALPHABET = 27;

    private static final int FAULT_TEXT = 1;
    private static final int FAULT_NUMBER = 2;
    private static final int FAULT_TAKEN = 3;
    private static final int FAULT_OPEN = 4;
    private static final int FAULT_TOO_MANY = 5;
    private static final int FAULT_UNKNOWN = 6;

    // A NODE is a SQUARE with a WAY by which LIGHT comes into it (or goes on from it): 4 * SQUARE + WAY.
    private static final int WAYS = 4;
    private static final int NODES = 576;
    private static final int RED_LIGHT = 1;
    private static final int GREEN_LIGHT = 2;
    private static final int BLUE_LIGHT = 4;
    private static final int ANY_LIGHT = 7;
    private static final int COLOUR_BITS = 3;
    private static final int ALL_LAMPS = 255;
    private static final int WAY_UP = 0;
    private static final int WAY_RIGHT = 1;
    private static final int WAY_DOWN = 2;
    private static final int WAY_LEFT = 3;

    // The groups that are numbered each by itself.
    private static final int LAMPS = 0;
    private static final int MIRRORS = 1;
    private static final int MOVERS = 2;
    private static final int EYES = 3;
    private static final int GROUPS = 4;

    // The numbers of the OWN WORDS; those of the PIECES are the sorts of square(), too.
    private static final int EMPTY = 0;
    private static final int SIZE = 0;
    private static final int LAMP = 1;
    private static final int MIRROR = 2;
    private static final int HALF = 3;
    private static final int GLASS = 4;
    private static final int PRISM = 5;
    private static final int WALL = 6;
    private static final int EYE = 7;
    private static final int SHUTTER = 8;
    private static final int VANE = 9;
    private static final int AT = 10;
    private static final int WHEN = 11;
    private static final int RED = 12;
    private static final int WHITE = 15;
    private static final int UP = 16;
    private static final int LEFT = 19;
    private static final int SLASH = 20;
    private static final int BACK = 21;
    private static final int OR = 22;
    private static final int AND = 23;
    private static final int NOT = 24;
    private static final int ALL = 25;
    private static final int SEES = 26;
    // In the order of their numbers, a blank behind each.
    private static final String OWN_WORDS = "size lamp mirror half glass prism wall eye shutter vane at when red green blue white up right down left slash back or and not all sees ";

    private final int[] tape = new int[LONGEST_TAPE];
    private int tapeLength;
    private final Reader reader = new Reader();
    private Table table = new Table();
    private final Course course = new Course();
    private final Light ringLight = new Light();
    private final int[] marks = new int[SQUARES];

    private int turned;
    private int state;
    private int wantedLit;
    private int wantedDark;
    private final Settings past = new Settings();
    private final int[] written = new int[IMAGE_HEAD + MOST_OTHERS + 1];
    private int writtenLength;

    public BeamBoard() {
    }

    // ---- the tape and the text

    public int feed(int a, int b, int c, int d, int e) {
        if (tapeLength + BYTES_FED > LONGEST_TAPE) {
            return NONE;
        }
        putOnTape(a);
        putOnTape(b);
        putOnTape(c);
        putOnTape(d);
        putOnTape(e);
        return tapeLength;
    }

    private void putOnTape(int number) {
        for (int shift = 24; shift >= 0 && tapeLength < LONGEST_TAPE; shift -= 8) {
            tape[tapeLength] = number >> shift & 255;
            tapeLength++;
        }
    }

    public boolean end(int n) {
        if (n < 0 || n > tapeLength) {
            return false;
        }
        tapeLength = n;
        return true;
    }

    public int board() {
        int length = tapeLength;
        tapeLength = 0;
        int statements = reader.read(tape, length);
        if (statements == NONE) {
            return NONE;
        }
        table = reader.giveTable(table);
        turned = 0;
        state = 0;
        wantedLit = 0;
        wantedDark = 0;
        past.count = 0;
        return statements;
    }

    public int fault(int what) {
        if (what == 0) {
            return reader.faultFound;
        }
        return what == 1 ? reader.faultPlace : NONE;
    }

    public int has(int what) {
        switch (what) {
            case 0:
                return table.columns;
            case 1:
                return table.rows;
            case 2:
                return table.count[LAMPS];
            case 3:
                return table.count[MIRRORS];
            case 4:
                return table.count[MOVERS];
            case 5:
                return table.count[EYES];
            case 6:
                return table.pieces;
            default:
                return NONE;
        }
    }

    public int letter(int eye, int k) {
        return isNumber(eye, EYES) ? table.nameLetter(eye, k) : NONE;
    }

    public int square(int column, int row, int what) {
        int place = table.squareAt(column, row);
        if (place == NONE) {
            return NONE;
        }
        int piece = table.pieceOn[place];
        if (what == 0) {
            return piece == NONE ? EMPTY : table.sort[piece];
        }
        if (piece == NONE) {
            return NONE;
        }
        if (what == 1) {
            return table.number[piece];
        }
        return what == 2 ? table.lookNow(piece, turned, state) : NONE;
    }

    // ---- light

    public int turn(int mirror) {
        if (!isNumber(mirror, MIRRORS)) {
            return NONE;
        }
        past.add(turned, state);
        turned ^= 1 << mirror;
        return Integer.bitCount(turned);
    }

    public int turned() {
        return turned;
    }

    public boolean set(int state) {
        if (!isState(state)) {
            return false;
        }
        moveTo(state);
        return true;
    }

    public int state() {
        return state;
    }

    public int light(int column, int row, int way) {
        int place = table.squareAt(column, row);
        if (place == NONE || way < 0 || way >= WAYS) {
            return NONE;
        }
        return lightNow().into[place * WAYS + way];
    }

    public int lit(int colour) {
        if (colour != ANY_LIGHT && !isOneColour(colour)) {
            return NONE;
        }
        Light light = lightNow();
        int squares = 0;
        for (int place = 0; place < table.squareCount(); place++) {
            if ((light.comesInto(place) & colour) != 0) {
                squares++;
            }
        }
        return squares;
    }

    public int sees(int eye) {
        return isNumber(eye, EYES) ? lightNow().seen[eye] : NONE;
    }

    // ---- states

    public int step(int n) {
        if (n < 0 || n > MOST_STEPS) {
            return NONE;
        }
        course.forget();
        int then = state;
        for (int i = 0; i < n; i++) {
            then = course.after(table, turned, then);
        }
        moveTo(then);
        return state;
    }

    public int round(int what) {
        course.forget();
        course.walk(table, turned, state);
        switch (what) {
            case 0:
                return course.lead;
            case 1:
                return course.roundLength();
            case 2:
                return course.path[course.lead];
            case 3:
                return course.leastOfRound();
            default:
                return NONE;
        }
    }

    public int rests(int k) {
        course.forget();
        int found = 0;
        for (int each = 0; each < stateCount(); each++) {
            if (course.after(table, turned, each) == each) {
                if (found == k) {
                    return each;
                }
                found++;
            }
        }
        return k == NONE ? found : NONE;
    }

    public int drawn(int state) {
        if (!isState(state)) {
            return NONE;
        }
        course.forget();
        int from = 0;
        for (int each = 0; each < stateCount(); each++) {
            course.walk(table, turned, each);
            if (course.isInRound(state)) {
                from++;
            }
        }
        return from;
    }

    // ---- wishes

    public boolean wish(int eye, int how) {
        if (!isNumber(eye, EYES) || how < 0 || how > 2) {
            return false;
        }
        wantedLit &= ~(1 << eye);
        wantedDark &= ~(1 << eye);
        if (how == 1) {
            wantedLit |= 1 << eye;
        } else if (how == 2) {
            wantedDark |= 1 << eye;
        }
        return true;
    }

    public int met() {
        return areMet(turned) ? 1 : 0;
    }

    public int fewest(boolean set) {
        int sets = 1 << table.count[MIRRORS];
        for (int size = 0; size <= table.count[MIRRORS]; size++) {
            for (int each = 0; each < sets; each++) {
                if (Integer.bitCount(each) == size && areMet(turned ^ each)) {
                    return set ? each : size;
                }
            }
        }
        return NONE;
    }

    // ---- changes

    public int needed(int column, int row) {
        int place = table.squareAt(column, row);
        if (place == NONE || table.pieceOn[place] == NONE) {
            return NONE;
        }
        int piece = table.pieceOn[place];
        int with = course.eyesInEnd(table, turned, state);
        table.put(NONE, place);
        int without = course.eyesInEnd(table, turned, state);
        table.put(piece, place);
        if (with != NONE && without != NONE) {
            return with ^ without;
        }
        return with == without ? 0 : allOf(EYES);
    }

    public int shadow(int column, int row) {
        int place = table.squareAt(column, row);
        if (place == NONE || table.pieceOn[place] != NONE) {
            return NONE;
        }
        return shadowOn(place, course.eyesInEnd(table, turned, state));
    }

    private int shadowOn(int place, int eyesWithout) {
        table.putTried(WALL, NONE, place);
        int eyesWith = course.eyesInEnd(table, turned, state);
        table.put(NONE, place);
        return eyesWith == NONE || eyesWithout == NONE ? 0 : Integer.bitCount(eyesWithout & ~eyesWith);
    }

    public int darkest(int what) {
        if (what < 0 || what > 2) {
            return NONE;
        }
        int eyes = course.eyesInEnd(table, turned, state);
        course.mark(table, turned, state, marks);
        int found = NONE;
        int greatest = NONE;
        for (int place = 0; place < table.squareCount(); place++) {
            if (table.pieceOn[place] == NONE) {
                // Where no LIGHT ever comes a wall takes none away.
                int shadow = marks[place] == 0 ? 0 : shadowOn(place, eyes);
                if (shadow > greatest) {
                    greatest = shadow;
                    found = place;
                }
            }
        }
        if (what == 2) {
            return greatest;
        }
        return what == 0 ? table.columnOf(found) : table.rowOf(found);
    }

    public int more(int what) {
        if (what < 0 || what > 2) {
            return NONE;
        }
        boolean metWithout = areMet(turned);
        course.mark(table, turned, state, marks);
        for (int place = 0; place < table.squareCount(); place++) {
            if (table.pieceOn[place] == NONE) {
                int form = 0;
                if (marks[place] != 0) {
                    form = formMetOn(place);
                } else if (!metWithout) {
                    // Where no LIGHT ever comes a mirror turns none.
                    form = NONE;
                }
                if (form != NONE) {
                    return what == 2 ? form : what == 0 ? table.columnOf(place) : table.rowOf(place);
                }
            }
        }
        return NONE;
    }

    private int formMetOn(int place) {
        int found = NONE;
        for (int form = 0; form <= 1 && found == NONE; form++) {
            table.putTried(MIRROR, form, place);
            if (isAsWished(course.eyesInEnd(table, turned, state))) {
                found = form;
            }
        }
        table.put(NONE, place);
        return found;
    }

    public int solutions(int what) {
        if (what < 0 || what > 2) {
            return NONE;
        }
        int found = 0;
        int sure = allOf(MIRRORS);
        int bare = sure;
        for (int each = 0; each <= allOf(MIRRORS); each++) {
            if (areMet(each)) {
                found++;
                sure &= each;
                bare &= ~each;
            }
        }
        if (what == 0) {
            return found;
        }
        return what == 1 ? sure : bare;
    }

    public int near() {
        course.forget();
        int found = NONE;
        int fewest = MOST_MOVERS + 1;
        for (int each = 0; each < stateCount(); each++) {
            int unlike = Integer.bitCount(each ^ state);
            if (unlike < fewest) {
                course.walk(table, turned, each);
                if (course.roundLength() == 1 && isAsWished(course.eyesOfRound(true))) {
                    found = each;
                    fewest = unlike;
                }
            }
        }
        return found;
    }

    public int tint(int column, int row) {
        int place = table.squareAt(column, row);
        int piece = place == NONE ? NONE : table.pieceOn[place];
        if (piece == NONE || table.sort[piece] != GLASS) {
            return NONE;
        }
        int told = table.look[piece];
        int found = NONE;
        for (int colour = 0; colour <= ANY_LIGHT && found == NONE; colour++) {
            table.look[piece] = colour;
            if (areMet(turned)) {
                found = colour;
            }
        }
        table.look[piece] = told;
        return found;
    }

    public int swapped(int column, int row, int otherColumn, int otherRow) {
        int place = table.squareAt(column, row);
        int other = table.squareAt(otherColumn, otherRow);
        if (place == NONE || other == NONE || place == other) {
            return NONE;
        }
        int piece = table.pieceOn[place];
        int otherPiece = table.pieceOn[other];
        table.put(otherPiece, place);
        table.put(piece, other);
        boolean areMet = areMet(turned);
        table.put(piece, place);
        table.put(otherPiece, other);
        return areMet ? 1 : 0;
    }

    // ---- ways of light, rounds

    public int reach(int lamp, int eye, int colour) {
        if (!isNumber(lamp, LAMPS) || !isNumber(eye, EYES) || !isOneColour(colour)) {
            return NONE;
        }
        return lightOf(1 << lamp, colour).leastTo(table.squareOf(EYES, eye));
    }

    public int behind(int eye) {
        if (!isNumber(eye, EYES)) {
            return NONE;
        }
        int found = 0;
        for (int lamp = 0; lamp < table.count[LAMPS]; lamp++) {
            if (lightOf(1 << lamp, ANY_LIGHT).seen[eye] != 0) {
                found |= 1 << lamp;
            }
        }
        return found;
    }

    public int rings(int colour) {
        if (!isOneColour(colour)) {
            return NONE;
        }
        Light light = lightOf(ALL_LAMPS, colour);
        Arrays.fill(marks, 0);
        int squares = 0;
        for (int i = 0; i < light.arrivals; i++) {
            int node = light.arrivedNode(i);
            int place = node / WAYS;
            if (marks[place] == 0 && ringLight.comesAgain(table, turned, state, node, colour)) {
                marks[place] = 1;
                squares++;
            }
        }
        return squares;
    }

    public int steady(boolean all) {
        course.forget();
        course.walk(table, turned, state);
        return course.eyesOfRound(all);
    }

    public int slow(int what) {
        if (what != 0 && what != 1) {
            return NONE;
        }
        course.forget();
        int found = 0;
        int most = NONE;
        for (int each = 0; each < stateCount(); each++) {
            course.walk(table, turned, each);
            if (course.lead > most) {
                most = course.lead;
                found = each;
            }
        }
        return what == 0 ? found : most;
    }

    public int back() {
        if (past.count == 0) {
            return NONE;
        }
        past.count--;
        turned = past.turned[past.count];
        state = past.state[past.count];
        return past.count;
    }

    // ---- images

    public int image() {
        written[0] = table.count[MIRRORS];
        written[1] = table.count[MOVERS];
        written[2] = table.count[EYES];
        written[3] = turned;
        written[4] = state;
        int length = IMAGE_HEAD;
        for (int eye = 0; eye < table.count[EYES]; eye++) {
            written[length] = (wantedLit >> eye & 1) + 2 * (wantedDark >> eye & 1);
            length++;
        }
        written[length] = checkByte(written, length);
        writtenLength = length + 1;
        return writtenLength;
    }

    public int octet(int k) {
        return k < 0 || k >= writtenLength ? NONE : written[k];
    }

    public boolean on() {
        int length = tapeLength;
        tapeLength = 0;
        if (!isImage(length)) {
            return false;
        }
        turned = tape[3];
        state = tape[4];
        for (int eye = 0; eye < table.count[EYES]; eye++) {
            wish(eye, tape[IMAGE_HEAD + eye]);
        }
        past.count = 0;
        return true;
    }

    private boolean isImage(int length) {
        int eyes = table.count[EYES];
        if (length != IMAGE_HEAD + eyes + 1) {
            return false;
        }
        if (tape[0] != table.count[MIRRORS] || tape[1] != table.count[MOVERS] || tape[2] != eyes) {
            return false;
        }
        if (tape[3] > allOf(MIRRORS) || tape[4] > allOf(MOVERS)) {
            return false;
        }
        for (int eye = 0; eye < eyes; eye++) {
            if (tape[IMAGE_HEAD + eye] > 2) {
                return false;
            }
        }
        return tape[length - 1] == checkByte(tape, length - 1);
    }

    private static int checkByte(int[] bytes, int length) {
        int check = CHECK_START;
        for (int i = 0; i < length && i < bytes.length; i++) {
            check = (3 * check + bytes[i]) % CHECK_MODULUS;
        }
        return check;
    }

    // ---- what several of them ask

    private boolean isNumber(int number, int group) {
        return number >= 0 && number < table.count[group];
    }

    /** All bits of a group: of MIRRORS, MOVERS or EYES. */
    private int allOf(int group) {
        return (1 << table.count[group]) - 1;
    }

    private int stateCount() {
        return 1 << table.count[MOVERS];
    }

    private boolean isState(int bits) {
        return bits >= 0 && bits < stateCount();
    }

    private static boolean isOneColour(int colour) {
        return colour == RED_LIGHT || colour == GREEN_LIGHT || colour == BLUE_LIGHT;
    }

    private void moveTo(int then) {
        if (then != state) {
            past.add(turned, state);
            state = then;
        }
    }

    private Light lightNow() {
        return lightOf(ALL_LAMPS, ANY_LIGHT);
    }

    /** The LIGHT as THE STATE is, of the LAMPS told (bits) and in the COLOURS told alone. */
    private Light lightOf(int lamps, int colours) {
        course.light.shine(table, turned, state, lamps, colours);
        return course.light;
    }

    /** Whether the WISHES are MET FROM THE STATE with these MIRRORS TURNED. */
    private boolean areMet(int mirrorsTurned) {
        return isAsWished(course.eyesInEnd(table, mirrorsTurned, state));
    }

    private boolean isAsWished(int eyesLit) {
        return eyesLit != NONE && (eyesLit & wantedLit) == wantedLit && (eyesLit & wantedDark) == 0;
    }

    /** WHAT WAS: settings, the oldest first. */
    private static final class Settings {
        final int[] turned = new int[MOST_SETTINGS];
        final int[] state = new int[MOST_SETTINGS];
        int count;

        void add(int turnedThen, int stateThen) {
            if (count == MOST_SETTINGS) {
                count--;
                System.arraycopy(turned, 1, turned, 0, count);
                System.arraycopy(state, 1, state, 0, count);
            }
            turned[count] = turnedThen;
            state[count] = stateThen;
            count++;
        }
    }

    /** A BOARD as the text tells it: the PIECES in the text's order, and which of them is on which SQUARE. */
    private static final class Table {
        int columns;
        int rows;
        // Behind a NODE by which LIGHT goes on: the one by which it comes in then, NONE beyond the edge.
        final int[] next = new int[NODES];
        final int[] pieceOn = new int[SQUARES];
        int pieces;
        final int[] squareOf = new int[TRIED_PIECE + 1];
        final int[] sort = new int[TRIED_PIECE + 1];
        // Its number in its group, NONE without a group.
        final int[] number = new int[TRIED_PIECE + 1];
        // FORM or COLOUR as told; 0 of a shutter; NONE of others.
        final int[] look = new int[TRIED_PIECE + 1];
        final int[] wayOf = new int[TRIED_PIECE + 1];
        final int[] count = new int[GROUPS];
        final int[] members = new int[GROUPS * MOST_OTHERS];
        final int[] names = new int[MOST_OTHERS];
        // The TESTS of all MOVERS, each FACT ahead of what joins it or turns it round.
        final int[] code = new int[MOST_CODE];
        int codeLength;
        final int[] codeEnd = new int[MOST_MOVERS];

        void clear() {
            columns = 0;
            rows = 0;
            pieces = 0;
            codeLength = 0;
            Arrays.fill(count, 0);
            Arrays.fill(pieceOn, NONE);
        }

        void resize(int newColumns, int newRows) {
            columns = newColumns;
            rows = newRows;
            for (int row = 0; row < rows; row++) {
                for (int column = 0; column < columns; column++) {
                    int node = (row * columns + column) * WAYS;
                    next[node + WAY_UP] = row > 0 ? node - columns * WAYS + WAY_UP : NONE;
                    next[node + WAY_RIGHT] = column + 1 < columns ? node + WAYS + WAY_RIGHT : NONE;
                    next[node + WAY_DOWN] = row + 1 < rows ? node + columns * WAYS + WAY_DOWN : NONE;
                    next[node + WAY_LEFT] = column > 0 ? node - WAYS + WAY_LEFT : NONE;
                }
            }
        }

        void add(int newSort, int newLook, int newWay, int square) {
            int group = groupOf(newSort);
            if (pieces >= TRIED_PIECE || isFull(group)) {
                return;
            }
            sort[pieces] = newSort;
            look[pieces] = newLook;
            wayOf[pieces] = newWay;
            number[pieces] = NONE;
            if (group == MOVERS) {
                codeEnd[count[MOVERS]] = codeLength;
            }
            if (group != NONE) {
                number[pieces] = count[group];
                members[group * MOST_OTHERS + count[group]] = pieces;
                count[group]++;
            }
            put(pieces, square);
            pieces++;
        }

        static int groupOf(int sort) {
            switch (sort) {
                case LAMP:
                    return LAMPS;
                case MIRROR:
                case HALF:
                    return MIRRORS;
                case SHUTTER:
                case VANE:
                    return MOVERS;
                case EYE:
                    return EYES;
                default:
                    return NONE;
            }
        }

        boolean isFull(int group) {
            return group != NONE && count[group] >= (group == MOVERS ? MOST_MOVERS : MOST_OTHERS);
        }

        /** The PIECE (none with NONE) comes onto the SQUARE; what was there is on no SQUARE any more. */
        void put(int piece, int square) {
            int former = pieceOn[square];
            if (former != NONE && squareOf[former] == square) {
                squareOf[former] = NONE;
            }
            pieceOn[square] = piece;
            if (piece != NONE) {
                squareOf[piece] = square;
            }
        }

        /** A PIECE that the text doesn't tell comes onto an empty SQUARE. */
        void putTried(int newSort, int newLook, int square) {
            sort[TRIED_PIECE] = newSort;
            look[TRIED_PIECE] = newLook;
            number[TRIED_PIECE] = NONE;
            put(TRIED_PIECE, square);
        }

        int squareAt(int column, int row) {
            boolean isThere = column >= 0 && column < columns && row >= 0 && row < rows;
            return isThere ? row * columns + column : NONE;
        }

        int squareCount() {
            return columns * rows;
        }

        int columnOf(int square) {
            return square < 0 || columns < 1 ? NONE : square % columns;
        }

        int rowOf(int square) {
            return square < 0 || columns < 1 ? NONE : square / columns;
        }

        int pieceOf(int group, int numberInGroup) {
            return members[group * MOST_OTHERS + numberInGroup];
        }

        /** The SQUARE of a PIECE of a group, NONE while it is taken away. */
        int squareOf(int group, int numberInGroup) {
            return squareOf[pieceOf(group, numberInGroup)];
        }

        /** FORM or COLOUR of a PIECE, by the MIRRORS TURNED and a STATE. */
        int lookNow(int piece, int turned, int state) {
            switch (sort[piece]) {
                case MIRROR:
                case HALF:
                    return number[piece] == NONE ? look[piece] : look[piece] ^ turned >> number[piece] & 1;
                case SHUTTER:
                case VANE:
                    return look[piece] ^ state >> number[piece] & 1;
                default:
                    return look[piece];
            }
        }

        int eyeNamed(int name) {
            for (int eye = 0; eye < count[EYES]; eye++) {
                if (names[eye] == name) {
                    return eye;
                }
            }
            return NONE;
        }

        int nameLetter(int eye, int k) {
            int length = 0;
            for (int rest = names[eye]; rest > 0; rest /= ALPHABET) {
                length++;
            }
            if (k < 0 || k >= length) {
                return NONE;
            }
            int rest = names[eye];
            for (int i = length - 1; i > k; i--) {
                rest /= ALPHABET;
            }
            return 'a' - 1 + rest % ALPHABET;
        }

        /** A part of the TEST that is being read. */
        void addCode(int part) {
            if (codeLength < code.length) {
                code[codeLength] = part;
                codeLength++;
            }
        }

        /** Whether the TEST of a MOVER holds, with what the EYES see. */
        boolean holds(int mover, int[] seen) {
            // What the FACTS so far came to, a bit each, the latest lowest; no more than 15 are ever kept.
            int facts = 0;
            for (int i = mover == 0 ? 0 : codeEnd[mover - 1]; i < codeEnd[mover]; i++) {
                int part = code[i];
                int latest = facts & 1;
                int earlier = facts >> 1;
                if (part == NOT) {
                    facts ^= 1;
                } else if (part == AND) {
                    facts = earlier & (latest | ~1);
                } else if (part == OR) {
                    facts = earlier | latest;
                } else if (part == ALL) {
                    facts = facts << 1 | 1;
                } else {
                    int eye = eyeOfCode(part);
                    int colour = part & ANY_LIGHT;
                    facts = facts << 1 | ((seen[eye] & colour) == colour ? 1 : 0);
                }
            }
            return (facts & 1) == 1;
        }

        static int codeOfSees(int eye, int colour) {
            return SEES << (COLOUR_BITS * 2) | eye << COLOUR_BITS | colour;
        }

        static int eyeOfCode(int part) {
            return part >> COLOUR_BITS & MOST_OTHERS - 1;
        }
    }

    /** LIGHT as it is all at once: which COLOURS come to each NODE. */
    private static final class Light {
        final int[] into = new int[NODES];
        // What each EYE SEES, and which SEE anything.
        final int[] seen = new int[MOST_OTHERS];
        int eyesLit;
        int arrivals;
        // In the order in which they came: a NODE with COLOURS that are new there, as 8 * NODE + COLOURS.
        private final int[] arrived = new int[NODES * COLOUR_BITS];
        // How many SQUARES LIGHT came into on its way to a NODE, the latter counted, when it first came there.
        private final int[] far = new int[NODES];
        private int turned;
        private int state;

        /** Sends the COLOURS told (bits) of the LAMPS told (bits), as if they sent no others. */
        void shine(Table on, int mirrorsTurned, int moversOpen, int lamps, int colours) {
            darken();
            turned = mirrorsTurned;
            state = moversOpen;
            for (int lamp = 0; lamp < on.count[LAMPS]; lamp++) {
                int piece = on.pieceOf(LAMPS, lamp);
                int square = on.squareOf[piece];
                if ((lamps >> lamp & 1) == 1 && square != NONE) {
                    send(on.next[square * WAYS + on.wayOf[piece]], on.look[piece] & colours, 1);
                }
            }
            spread(on);
            eyesLit = 0;
            for (int eye = 0; eye < on.count[EYES]; eye++) {
                seen[eye] = comesInto(on.squareOf(EYES, eye));
                if (seen[eye] != 0) {
                    eyesLit |= 1 << eye;
                }
            }
        }

        /** Whether LIGHT of a COLOUR that comes to a NODE goes on till it comes there again. */
        boolean comesAgain(Table on, int mirrorsTurned, int moversOpen, int node, int colour) {
            darken();
            turned = mirrorsTurned;
            state = moversOpen;
            pass(on, node, colour);
            spread(on);
            return into[node] != 0;
        }

        private void darken() {
            for (int i = 0; i < arrivals; i++) {
                into[arrivedNode(i)] = 0;
            }
            arrivals = 0;
        }

        private void spread(Table on) {
            for (int i = 0; i < arrivals && i < arrived.length; i++) {
                pass(on, arrivedNode(i), arrived[i] & ANY_LIGHT);
            }
        }

        /** COLOURS that come to a NODE go on from it. */
        private void pass(Table on, int node, int colours) {
            int way = node % WAYS;
            int first = node - way;
            int steps = far[node] + 1;
            int piece = on.pieceOn[node / WAYS];
            if (piece == NONE) {
                send(on.next[node], colours, steps);
                return;
            }
            int look = on.lookNow(piece, turned, state);
            switch (on.sort[piece]) {
                case MIRROR:
                case VANE:
                    send(on.next[first + turnedWay(way, look)], colours, steps);
                    break;
                case HALF:
                    send(on.next[first + turnedWay(way, look)], colours, steps);
                    send(on.next[node], colours, steps);
                    break;
                case GLASS:
                    send(on.next[node], colours & look, steps);
                    break;
                case PRISM:
                    send(on.next[node], colours & RED_LIGHT, steps);
                    send(on.next[first + (way + 1) % WAYS], colours & GREEN_LIGHT, steps);
                    send(on.next[first + (way + 3) % WAYS], colours & BLUE_LIGHT, steps);
                    break;
                case SHUTTER:
                    send(on.next[node], look == 1 ? colours : 0, steps);
                    break;
                default:
                    break;
            }
        }

        /** Slash changes the ways 0 with 1 and 2 with 3, back 0 with 3 and 1 with 2. */
        private static int turnedWay(int way, int form) {
            return way ^ (form == 0 ? 1 : 3);
        }

        /** COLOURS come to a NODE (nowhere with NONE); what is new there goes on from it later. */
        private void send(int node, int colours, int steps) {
            int fresh = node == NONE ? 0 : colours & ~into[node];
            if (fresh == 0 || arrivals >= arrived.length) {
                return;
            }
            if (into[node] == 0) {
                far[node] = steps;
            }
            into[node] |= fresh;
            arrived[arrivals] = node << COLOUR_BITS | fresh;
            arrivals++;
        }

        /** The COLOURS that come into a SQUARE by any WAY; none if it is NONE. */
        int comesInto(int square) {
            if (square == NONE) {
                return 0;
            }
            int node = square * WAYS;
            return into[node + WAY_UP] | into[node + WAY_RIGHT] | into[node + WAY_DOWN] | into[node + WAY_LEFT];
        }

        /** The fewest SQUARES on the way of LIGHT of one COLOUR to a SQUARE, NONE if it doesn't come there. */
        int leastTo(int square) {
            int least = NONE;
            for (int way = 0; way < WAYS && square != NONE; way++) {
                int node = square * WAYS + way;
                if (into[node] != 0 && (least == NONE || far[node] < least)) {
                    least = far[node];
                }
            }
            return least;
        }

        int arrivedNode(int i) {
            return arrived[i] >> COLOUR_BITS;
        }
    }

    /** STEPS from STATE to STATE. */
    private static final class Course {
        final Light light = new Light();
        // Of each STATE: the one a STEP later (NONE if that is not known), and then the EYES that are LIT.
        private final int[] following = new int[STATES];
        private final int[] eyes = new int[STATES];
        // The STATES from the start of the latest walk() on, each once, and how many lie ahead of the ROUND.
        final int[] path = new int[STATES];
        private final int[] placeOnPath = new int[STATES];
        private int pathLength;
        int lead;

        /** The STATE a STEP later; light is as it is by the STATE told. */
        private int stepFrom(Table on, int mirrorsTurned, int state) {
            light.shine(on, mirrorsTurned, state, ALL_LAMPS, ANY_LIGHT);
            int then = 0;
            for (int mover = 0; mover < on.count[MOVERS]; mover++) {
                boolean isAway = on.squareOf(MOVERS, mover) == NONE;
                boolean isOpen = isAway ? (state >> mover & 1) == 1 : on.holds(mover, light.seen);
                if (isOpen) {
                    then |= 1 << mover;
                }
            }
            return then;
        }

        /** The EYES that are LIT in the END, NONE if there is no END. */
        int eyesInEnd(Table on, int mirrorsTurned, int state) {
            long met = 0;
            int now = state;
            for (int i = 0; i < STATES && (met >> now & 1) == 0; i++) {
                met |= 1L << now;
                int then = stepFrom(on, mirrorsTurned, now);
                if (then == now) {
                    return light.eyesLit;
                }
                now = then;
            }
            return NONE;
        }

        /** Marks the SQUARES into which LIGHT comes in any STATE FROM this one on. */
        void mark(Table on, int mirrorsTurned, int state, int[] marks) {
            Arrays.fill(marks, 0);
            long met = 0;
            int now = state;
            for (int i = 0; i < STATES && (met >> now & 1) == 0; i++) {
                met |= 1L << now;
                now = stepFrom(on, mirrorsTurned, now);
                for (int k = 0; k < light.arrivals; k++) {
                    marks[light.arrivedNode(k) / WAYS] = 1;
                }
            }
        }

        /** Must be called ahead of after() and walk() whenever the Table or the MIRRORS may have changed. */
        void forget() {
            Arrays.fill(following, NONE);
        }

        /** As stepFrom(), with each STATE looked at but once. */
        int after(Table on, int mirrorsTurned, int state) {
            if (following[state] == NONE) {
                following[state] = stepFrom(on, mirrorsTurned, state);
                eyes[state] = light.eyesLit;
            }
            return following[state];
        }

        /** Goes from a STATE through its ROUND; the methods below tell of it. */
        void walk(Table on, int mirrorsTurned, int start) {
            Arrays.fill(placeOnPath, NONE);
            pathLength = 0;
            int now = start;
            while (pathLength < STATES && placeOnPath[now] == NONE) {
                path[pathLength] = now;
                placeOnPath[now] = pathLength;
                pathLength++;
                now = after(on, mirrorsTurned, now);
            }
            lead = placeOnPath[now];
        }

        int roundLength() {
            return pathLength - lead;
        }

        boolean isInRound(int state) {
            return placeOnPath[state] >= lead;
        }

        int leastOfRound() {
            int least = path[lead];
            for (int i = lead; i < pathLength; i++) {
                least = Math.min(least, path[i]);
            }
            return least;
        }

        /** The EYES that are LIT in all STATES of the ROUND, or in some. */
        int eyesOfRound(boolean inAll) {
            int lit = eyes[path[lead]];
            for (int i = lead; i < pathLength; i++) {
                lit = inAll ? lit & eyes[path[i]] : lit | eyes[path[i]];
            }
            return lit;
        }
    }

    /** A text's words, numbers and signs, as far as each can be told by itself. */
    private static final class Tokens {
        static final int OWN = 0;
        static final int NAME = 1;
        static final int NUMBER = 2;
        static final int SIGN = 3;
        static final int TEXT_END = 4;
        // No BOARD goes on with this one, wherever it stands.
        static final int BAD = 5;

        final int[] kind = new int[LONGEST_TAPE + 1];
        // An OWN WORD's number, a packed NAME, a number, a sign's byte.
        final int[] value = new int[LONGEST_TAPE + 1];
        final int[] place = new int[LONGEST_TAPE + 1];
        // Where FAULT 1 is if no BOARD goes on with this one.
        final int[] faultPlace = new int[LONGEST_TAPE + 1];
        int count;
        private int[] text = new int[0];

        void split(int[] bytes, int length) {
            text = bytes;
            count = 0;
            int from = 0;
            while (from < length) {
                int size = 1;
                if (isLetter(text[from]) || isDigit(text[from])) {
                    while (from + size < length && isLikeFirst(from, from + size)) {
                        size++;
                    }
                    addWordOrNumber(from, size);
                } else if (text[from] != ' ' && text[from] != '\n') {
                    put(SIGN, text[from], from, from);
                }
                from += size;
            }
            put(TEXT_END, NONE, length, length);
        }

        private void addWordOrNumber(int from, int size) {
            boolean isWord = isLetter(text[from]);
            int longest = isWord ? LONGEST_NAME : LONGEST_NUMBER;
            int ownWord = isWord ? ownWord(from, size) : NONE;
            boolean isBlankMissing = from > 0 && (isLetter(text[from - 1]) || isDigit(text[from - 1]));
            if (isBlankMissing) {
                put(BAD, NONE, from, from);
            } else if (ownWord != NONE) {
                put(OWN, ownWord, from, from);
            } else if (size > longest) {
                put(BAD, NONE, from, from + longest);
            } else if (isWord) {
                put(NAME, packed(from, size, ALPHABET, 'a' - 1), from, from);
            } else {
                put(NUMBER, packed(from, size, 10, '0'), from, from);
            }
        }

        private void put(int newKind, int newValue, int from, int fault) {
            if (count < kind.length) {
                kind[count] = newKind;
                value[count] = newValue;
                place[count] = from;
                faultPlace[count] = fault;
                count++;
            }
        }

        private int packed(int from, int size, int base, int zero) {
            int sum = 0;
            for (int i = from; i < from + size; i++) {
                sum = sum * base + text[i] - zero;
            }
            return sum;
        }

        private int ownWord(int from, int size) {
            int number = 0;
            // How many letters are alike so far; NONE behind the first that isn't.
            int alike = 0;
            for (int i = 0; i < OWN_WORDS.length(); i++) {
                char sign = OWN_WORDS.charAt(i);
                if (sign == ' ') {
                    if (alike == size) {
                        return number;
                    }
                    number++;
                    alike = 0;
                } else if (alike != NONE) {
                    alike = alike < size && text[from + alike] == sign ? alike + 1 : NONE;
                }
            }
            return NONE;
        }

        private boolean isLikeFirst(int first, int other) {
            return isLetter(text[first]) ? isLetter(text[other]) : isDigit(text[other]);
        }

        private static boolean isLetter(int sign) {
            return sign >= 'a' && sign <= 'z';
        }

        private static boolean isDigit(int sign) {
            return sign >= '0' && sign <= '9';
        }
    }

    /** Reads a text into a Table, along the text, so that the first FAULT found is the first there is. */
    private static final class Reader {
        int faultFound;
        int faultPlace = NONE;
        private final Tokens tokens = new Tokens();
        // The token that is read next.
        private int at;
        private Table table = new Table();
        // The NAMES in TESTS, which EYES behind them may have: the NAME, its place, and where its FACT is in the code.
        private final int[] seenName = new int[MOST_SEEN];
        private final int[] seenPlace = new int[MOST_SEEN];
        private final int[] seenCode = new int[MOST_SEEN];
        private int seenCount;

        /** Hands over the Table that was read, and takes one to read the next text into. */
        Table giveTable(Table former) {
            Table read = table;
            table = former;
            return read;
        }

        /** How many STATEMENTS; NONE with a FAULT, and the Table is of no use then. */
        int read(int[] text, int length) {
            faultFound = 0;
            faultPlace = NONE;
            tokens.split(text, length);
            at = 0;
            seenCount = 0;
            table.clear();
            int statements = 0;
            while (statements <= MOST_STATEMENTS && faultFound == 0 && tokens.kind[at] != Tokens.TEXT_END) {
                if (statements == 0) {
                    readSize();
                } else if (statements == MOST_STATEMENTS) {
                    refuse(FAULT_TOO_MANY, tokens.place[at]);
                } else {
                    readPiece();
                }
                expectSign(';');
                statements++;
            }
            if (statements == 0) {
                refuseToken();
            }
            findSeenEyes();
            return faultFound == 0 ? statements : NONE;
        }

        private void readSize() {
            expect(SIZE);
            int columns = readNumber(LEAST_SIZE, GREATEST_SIZE);
            advance();
            int rows = readNumber(LEAST_SIZE, GREATEST_SIZE);
            advance();
            if (faultFound == 0) {
                table.resize(columns, rows);
            }
        }

        private void readPiece() {
            int sort = tokens.kind[at] == Tokens.OWN ? tokens.value[at] : NONE;
            if (sort < LAMP || sort > VANE) {
                refuseToken();
            } else if (table.isFull(Table.groupOf(sort))) {
                refuse(FAULT_TOO_MANY, tokens.place[at]);
            }
            advance();
            int look = NONE;
            int way = NONE;
            switch (sort) {
                case LAMP:
                    look = colourOf(choose(RED, WHITE));
                    way = choose(UP, LEFT);
                    break;
                case GLASS:
                    look = colourOf(choose(RED, WHITE));
                    break;
                case MIRROR:
                case HALF:
                    look = choose(SLASH, BACK);
                    break;
                case EYE:
                    readNewName();
                    break;
                case SHUTTER:
                    look = 0;
                    expect(WHEN);
                    readTest(0);
                    break;
                case VANE:
                    look = choose(SLASH, BACK);
                    expect(WHEN);
                    readTest(0);
                    break;
                default:
                    break;
            }
            int square = readSquare();
            if (faultFound == 0) {
                table.add(sort, look, way, square);
            }
        }

        private void readNewName() {
            int name = tokens.value[at];
            if (tokens.kind[at] != Tokens.NAME) {
                refuseToken();
            } else if (table.eyeNamed(name) != NONE) {
                refuse(FAULT_TAKEN, tokens.place[at]);
            }
            if (faultFound == 0 && table.count[EYES] < MOST_OTHERS) {
                table.names[table.count[EYES]] = name;
            }
            advance();
        }

        private int readSquare() {
            expect(AT);
            int firstPlace = tokens.place[at];
            int column = readNumber(0, table.columns - 1);
            advance();
            int row = readNumber(0, table.rows - 1);
            int square = faultFound == 0 ? table.squareAt(column, row) : NONE;
            if (square != NONE && table.pieceOn[square] != NONE) {
                refuse(FAULT_TAKEN, firstPlace);
            }
            advance();
            return square;
        }

        /** TEST and FACT read each other, with how many [ and not are open: MOST_OPEN at most. */
        private void readTest(int open) {
            boolean isMoreOr = true;
            for (int ors = 0; ors < LONGEST_TAPE && isMoreOr; ors++) {
                boolean isMoreAnd = true;
                for (int ands = 0; ands < LONGEST_TAPE && isMoreAnd; ands++) {
                    readFact(open);
                    if (ands > 0) {
                        table.addCode(AND);
                    }
                    isMoreAnd = isWord(AND);
                    if (isMoreAnd) {
                        advance();
                    }
                }
                if (ors > 0) {
                    table.addCode(OR);
                }
                isMoreOr = isWord(OR);
                if (isMoreOr) {
                    advance();
                }
            }
        }

        private void readFact(int open) {
            boolean isNot = isWord(NOT);
            if (isNot || isSign('[')) {
                if (open >= MOST_OPEN) {
                    refuse(FAULT_OPEN, tokens.place[at]);
                    return;
                }
                advance();
                if (isNot) {
                    readFact(open + 1);
                    table.addCode(NOT);
                } else {
                    readTest(open + 1);
                    expectSign(']');
                }
            } else if (isWord(SEES)) {
                readSees();
            } else {
                expect(ALL);
                table.addCode(ALL);
            }
        }

        private void readSees() {
            advance();
            if (tokens.kind[at] != Tokens.NAME) {
                refuseToken();
            } else if (seenCount < MOST_SEEN) {
                seenName[seenCount] = tokens.value[at];
                seenPlace[seenCount] = tokens.place[at];
                seenCode[seenCount] = table.codeLength;
                seenCount++;
            }
            advance();
            table.addCode(Table.codeOfSees(0, colourOf(choose(RED, WHITE))));
        }

        private void findSeenEyes() {
            for (int i = 0; i < seenCount && faultFound == 0; i++) {
                int eye = table.eyeNamed(seenName[i]);
                if (eye == NONE) {
                    refuse(FAULT_UNKNOWN, seenPlace[i]);
                } else {
                    table.code[seenCode[i]] |= Table.codeOfSees(eye, 0);
                }
            }
        }

        private static int colourOf(int choice) {
            return choice == WHITE - RED ? ANY_LIGHT : 1 << choice;
        }

        /** Reads one of some OWN WORDS that have numbers side by side: how far it is from the first. */
        private int choose(int first, int last) {
            int word = tokens.kind[at] == Tokens.OWN ? tokens.value[at] : NONE;
            if (word < first || word > last) {
                refuse(FAULT_TEXT, tokens.faultPlace[at]);
                return 0;
            }
            advance();
            return word - first;
        }

        /** A number, which stays the token that is read next: a FAULT of it lies ahead of what is behind it. */
        private int readNumber(int least, int greatest) {
            int number = tokens.value[at];
            if (tokens.kind[at] != Tokens.NUMBER) {
                refuseToken();
            } else if (number < least || number > greatest) {
                refuse(FAULT_NUMBER, tokens.place[at]);
            }
            return number;
        }

        private boolean isWord(int word) {
            return faultFound == 0 && tokens.kind[at] == Tokens.OWN && tokens.value[at] == word;
        }

        private boolean isSign(int sign) {
            return faultFound == 0 && tokens.kind[at] == Tokens.SIGN && tokens.value[at] == sign;
        }

        private void expect(int word) {
            if (isWord(word)) {
                advance();
            } else {
                refuseToken();
            }
        }

        private void expectSign(int sign) {
            if (isSign(sign)) {
                advance();
            } else {
                refuseToken();
            }
        }

        private void advance() {
            if (faultFound == 0 && at < tokens.count - 1) {
                at++;
            }
        }

        private void refuseToken() {
            refuse(FAULT_TEXT, tokens.faultPlace[at]);
        }

        /** The first FAULT is the one that counts; behind it nothing is read any more. */
        private void refuse(int fault, int place) {
            if (faultFound == 0) {
                faultFound = fault;
                faultPlace = place;
            }
        }
    }
}
