/** Promises 4 and 5: faults, the class against NaiveText, on texts made from seeds and spoilt. */
public final class FaultTest {
    private static final Check CHECK = new Check("FaultTest");
    private static final int TEXTS = 20000;

    public static void main(String[] args) {
        int texts = args.length > 0 ? Integer.parseInt(args[0]) : TEXTS;
        long first = args.length > 1 ? Long.parseLong(args[1]) : 1;
        int[] kinds = new int[7];
        for (long seed = first; seed < first + texts; seed++) {
            Boards made = new Boards(seed);
            String text = made.text(seed % 2 == 0 ? 12 : 4);
            if (text.length() < 1500) {
                kinds[compare(seed % 10 == 0 ? text : made.spoilt(text))]++;
            }
        }
        for (int kind = 0; kind <= 6; kind++) {
            CHECK.due("texts with fault " + kind + ": " + kinds[kind] + ", some at least", kinds[kind] > 0, true);
        }
        CHECK.finish();
    }

    private static int compare(String text) {
        NaiveText naive = new NaiveText(text);
        int kind = 0;
        int place = -1;
        try {
            naive.read();
        } catch (NaiveText.Fault fault) {
            kind = fault.kind;
            place = fault.place;
        }
        BeamBoard x = Check.board("size 2 3;eye a at 0 0;");
        int answer = Check.read(x, text);
        CHECK.due(text + ": board()", answer, kind == 0 ? naive.statements : -1);
        CHECK.due(text + ": fault(0)", x.fault(0), kind);
        CHECK.due(text + ": fault(1)", x.fault(1), place);
        CHECK.due(text + ": has(6)", x.has(6), kind == 0 ? naive.pieces.size() : 1);
        CHECK.due(text + ": has(1)", x.has(1), kind == 0 ? naive.rows : 3);
        return kind;
    }
}
