import java.util.ArrayList;
import java.util.List;

/**
 * "A call that throws an exception changes nothing": every exception of every call, in every kind of
 * position. What can't be seen at once, such as who has made how many moves, is drawn out of the
 * object by later calls; beside it stands an object that heard no refused call.
 */
final class RefusedTest {
    /** A call on an object that it is given. */
    interface Action {
        long on(HopperCourt court);
    }

    private record Refused(String call, String exception, Action action) {
    }

    private record Place(String name, int[] game, int players, int patience, List<Refused> refused) {
    }

    private static final String BOUNDS = "throws.IndexOutOfBoundsException";
    private static final String STATE = "throws.IllegalStateException";
    private static final String ARGUMENT = "throws.IllegalArgumentException";
    private static final int TIMES = 3;

    public static void main(String[] args) {
        int[] none = new int[0];
        look(new Place("no game", none, 0, 0, List.of(moved(STATE), unmoved(STATE), pass(), undo())));
        look(new Place("before the first move", none, 9, 0, List.of(unmoved(ARGUMENT), pass(), undo())));
        look(new Place("six players", Games.SIX_EXCHANGED, 63, 0, List.of(unmoved(ARGUMENT), pass())));
        look(new Place("chains", Games.CROSSED_CHAINS, 9, 8, List.of(unmoved(ARGUMENT), pass())));
        look(new Place("no move", Games.SHUT_IN, 9, 0, List.of(unmoved(ARGUMENT))));
        int[] over = {6, 14, 20, 18};
        look(new Place("over", over, 3, 1, List.of(moved(STATE), unmoved(STATE), pass())));
        look(new Place("300 moves", Games.threeHundred(), 63, 0,
                List.of(moved(STATE), unmoved(STATE), pass())));
        Check.end();
    }

    private static Refused moved(String exception) {
        return new Refused("move(6, 14)", exception, court -> court.move(6, 14));
    }

    private static Refused unmoved(String exception) {
        return new Refused("move(6, 6)", exception, court -> court.move(6, 6));
    }

    private static Refused pass() {
        return new Refused("pass()", STATE, court -> {
            court.pass();
            return 0;
        });
    }

    private static Refused undo() {
        return new Refused("undo()", STATE, HopperCourt::undo);
    }

    private static Refused begin(int players) {
        return new Refused("begin(" + players + ")", ARGUMENT, court -> {
            court.begin(players);
            return 0;
        });
    }

    private static List<Refused> everywhere() {
        List<Refused> calls = new ArrayList<>();
        for (int players : new int[] {0, 1, 32, 64, 67, -1}) {
            calls.add(begin(players));
        }
        for (int marbles : new int[] {0, 11}) {
            calls.add(new Refused("setFill(" + marbles + ")", ARGUMENT, court -> court.setFill(marbles)));
        }
        for (int moves : new int[] {-1, 101}) {
            calls.add(new Refused("setPatience(" + moves + ")", ARGUMENT, court -> court.setPatience(moves)));
        }
        for (int cell : new int[] {-1, 121}) {
            addCells(calls, cell);
        }
        for (int six : new int[] {-1, 6}) {
            calls.add(new Refused("finished(" + six + ")", BOUNDS, court -> court.finished(six)));
            calls.add(new Refused("isOut(" + six + ")", BOUNDS, court -> court.isOut(six) ? 1 : 0));
            calls.add(new Refused("way(" + six + ")", BOUNDS, court -> court.way(six)));
        }
        calls.add(new Refused("endAt(6, -1)", BOUNDS, court -> court.endAt(6, -1)));
        calls.add(new Refused("endAt behind the last", BOUNDS, court -> court.endAt(6, court.ends(6))));
        calls.add(new Refused("chainAt(3, 14, -1)", BOUNDS, court -> court.chainAt(3, 14, -1)));
        return calls;
    }

    private static void addCells(List<Refused> calls, int cell) {
        calls.add(new Refused("move(" + cell + ", 14)", BOUNDS, court -> court.move(cell, 14)));
        calls.add(new Refused("move(6, " + cell + ")", BOUNDS, court -> court.move(6, cell)));
        calls.add(new Refused("at(" + cell + ")", BOUNDS, court -> court.at(cell)));
        calls.add(new Refused("campOf(" + cell + ")", BOUNDS, court -> court.campOf(cell)));
        calls.add(new Refused("distance(" + cell + ", 0)", BOUNDS, court -> court.distance(cell, 0)));
        calls.add(new Refused("distance(0, " + cell + ")", BOUNDS, court -> court.distance(0, cell)));
        calls.add(new Refused("ends(" + cell + ")", BOUNDS, court -> court.ends(cell)));
        calls.add(new Refused("endAt(" + cell + ", 0)", BOUNDS, court -> court.endAt(cell, 0)));
        calls.add(new Refused("chainAt(" + cell + ", 14, 0)", BOUNDS, court -> court.chainAt(cell, 14, 0)));
        calls.add(new Refused("chainAt(3, " + cell + ", 0)", BOUNDS, court -> court.chainAt(3, cell, 0)));
        calls.add(new Refused("hops(" + cell + ", 14)", BOUNDS, court -> court.hops(cell, 14)));
        calls.add(new Refused("hops(3, " + cell + ")", BOUNDS, court -> court.hops(3, cell)));
    }

    private static void look(Place place) {
        List<Refused> calls = everywhere();
        calls.addAll(place.refused());
        for (Refused refused : calls) {
            String name = place.name() + ": " + refused.call();
            same(name + ", then the board", place, refused, Games::picture);
            same(name + ", then fill and patience", place, refused, RefusedTest::settings);
            same(name + ", then the moves", place, refused, RefusedTest::moves);
            same(name + ", then undo", place, refused, RefusedTest::takeBack);
            int each = place.game().length / 2 / Math.max(1, Integer.bitCount(place.players()));
            for (int patience = Math.max(1, each - 1); patience <= each + 2; patience++) {
                int p = patience;
                same(name + ", then a move with patience " + p, place, refused, court -> playOn(court, p));
            }
        }
    }

    private interface View {
        String of(HopperCourt court);
    }

    private static void same(String name, Place place, Refused refused, View view) {
        HopperCourt disturbed = reach(place);
        for (int i = 0; i < TIMES; i++) {
            Check.due(name + " (its exception)",
                    Check.outcome(() -> refused.action().on(disturbed)), refused.exception());
        }
        Check.due(name, view.of(disturbed), view.of(reach(place)));
    }

    private static HopperCourt reach(Place place) {
        HopperCourt court = new HopperCourt();
        court.setFill(7);
        court.setPatience(place.patience());
        if (place.players() != 0) {
            court.begin(place.players());
        }
        Games.play(court, place.game());
        return court;
    }

    private static String settings(HopperCourt court) {
        return court.setFill(1) + " " + court.setPatience(1);
    }

    private static String moves(HopperCourt court) {
        StringBuilder text = new StringBuilder();
        for (int from = 0; from < 121; from++) {
            text.append(court.ends(from)).append(' ');
        }
        text.append(court.moves()).append(' ').append(court.bestFrom()).append(' ').append(court.bestTo());
        for (int player = 0; player < 6; player++) {
            text.append(' ').append(court.way(player));
        }
        return text.toString();
    }

    private static String takeBack(HopperCourt court) {
        StringBuilder text = new StringBuilder();
        for (int i = 0; i < 10 && court.made() > 0; i++) {
            text.append(court.undo()).append(' ').append(court.turn()).append(' ');
        }
        return text.append(Check.outcome(() -> court.move(6, 14))).append(Games.picture(court)).toString();
    }

    /** The counts of moves show in who is out when the next players are to be on turn. */
    private static String playOn(HopperCourt court, int patience) {
        if (court.made() == 300) {
            court.undo();
        }
        court.setPatience(patience);
        StringBuilder text = new StringBuilder();
        for (int i = 0; i < 3 && court.turn() != -1 && court.made() < 300; i++) {
            int from = court.bestFrom();
            if (from == -1) {
                court.pass();
            } else {
                court.move(from, court.bestTo());
            }
            text.append(court.turn());
            for (int player = 0; player < 6; player++) {
                text.append(court.isOut(player) ? '!' : '.');
            }
        }
        return text.toString();
    }
}
