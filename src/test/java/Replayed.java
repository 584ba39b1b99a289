import java.util.ArrayList;
import java.util.List;
import java.util.function.ToIntFunction;

/** An object of a board that may be asked as often as one likes: a new one, moved alike, comes for it ahead of its 513th call. */
final class Replayed {
    private static final int MOST_CALLS = 512;

    private final String text;
    private final List<ToIntFunction<BeamBoard>> moves = new ArrayList<>();
    private final List<Integer> costs = new ArrayList<>();
    private BeamBoard object;
    private int calls;

    Replayed(String text) {
        this.text = text;
        renew();
    }

    /** What a call that changes something answers; it is called again on each new object. */
    int move(int callsInIt, ToIntFunction<BeamBoard> move) {
        makeRoom(callsInIt);
        moves.add(move);
        costs.add(callsInIt);
        return move.applyAsInt(object);
    }

    int move(ToIntFunction<BeamBoard> move) {
        return move(1, move);
    }

    /** The object, for one call that changes nothing. */
    BeamBoard it() {
        makeRoom(1);
        return object;
    }

    private void makeRoom(int callsToCome) {
        if (calls + callsToCome > MOST_CALLS) {
            renew();
        }
        calls += callsToCome;
    }

    private void renew() {
        object = Check.board(text);
        calls = Check.callsToFeed(text.length()) + 1;
        for (int i = 0; i < moves.size(); i++) {
            moves.get(i).applyAsInt(object);
            calls += costs.get(i);
        }
    }
}
