import java.util.ArrayList;
import java.util.List;

/** All that a small board's calls tell. It takes up to some four hundred calls, and uses the object up. */
final class Observed {
    private final BeamBoard x;
    private final List<String> answers = new ArrayList<>();

    private Observed(BeamBoard x) {
        this.x = x;
    }

    /** The answers, each behind its call; ahead of those that change something, all that change nothing. */
    static List<String> of(BeamBoard x) {
        Observed one = new Observed(x);
        one.told();
        one.now();
        one.changes();
        one.rounds();
        one.whatWas();
        one.tape();
        return one.answers;
    }

    private void put(String call, int answer) {
        answers.add(call + " = " + answer);
    }

    private void told() {
        for (int what = 0; what <= 6; what++) {
            put("has " + what, x.has(what));
        }
        for (int eye = 0; eye < x.has(5); eye++) {
            put("letter " + eye, x.letter(eye, 0));
        }
        for (int k = 0; k < 14; k++) {
            put("octet " + k, x.octet(k));
        }
    }

    private void now() {
        put("turned", x.turned());
        put("state", x.state());
        put("lit", x.lit(7));
        for (int column = 0; column < x.has(0); column++) {
            for (int row = 0; row < x.has(1); row++) {
                String at = " at " + column + " " + row;
                put("sort" + at, x.square(column, row, 0));
                put("number" + at, x.square(column, row, 1));
                put("look" + at, x.square(column, row, 2));
                for (int way = 0; way < 4; way++) {
                    put("light " + way + at, x.light(column, row, way));
                }
            }
        }
        for (int eye = 0; eye < x.has(5); eye++) {
            put("sees " + eye, x.sees(eye));
            put("behind " + eye, x.behind(eye));
        }
    }

    private void changes() {
        put("met", x.met());
        put("fewest", x.fewest(true));
        put("near", x.near());
        for (int what = 0; what <= 2; what++) {
            put("darkest " + what, x.darkest(what));
            put("more " + what, x.more(what));
            put("solutions " + what, x.solutions(what));
        }
    }

    private void rounds() {
        for (int what = 0; what <= 3; what++) {
            put("round " + what, x.round(what));
        }
        put("rests", x.rests(BeamBoard.NONE));
        put("drawn 0", x.drawn(0));
        put("slow", x.slow(0));
        put("slow for", x.slow(1));
        put("always", x.steady(true));
        put("sometimes", x.steady(false));
        put("rings", x.rings(1));
        put("image", x.image());
        for (int k = 0; k < 14; k++) {
            put("octet now " + k, x.octet(k));
        }
    }

    /** The settings that were, one behind the other. */
    private void whatWas() {
        for (int i = 0; i < 18; i++) {
            put("back", x.back());
            put("turned then", x.turned());
            put("state then", x.state());
        }
    }

    /** What is on the tape, as far as a text's fault tells. */
    private void tape() {
        int fed = x.feed(0, 0, 0, 0, 0);
        int bytes = fed == BeamBoard.NONE ? 1600 : fed - 20;
        while (bytes > 1580 && !x.end(bytes)) {
            bytes--;
        }
        put("bytes on the tape", bytes);
        x.end(bytes);
        put("board", x.board());
        put("its fault", x.fault(0));
        put("its place", x.fault(1));
    }
}
