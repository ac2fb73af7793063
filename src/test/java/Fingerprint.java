import java.util.ArrayList;
import java.util.List;

/** All that a prover answers, as one row; it takes less than 420 calls, the last of them undo(). */
final class Fingerprint {
    private final UnitProver x;
    private final List<Long> row = new ArrayList<>();

    private Fingerprint(UnitProver x) {
        this.x = x;
    }

    static List<Long> of(UnitProver x) {
        Fingerprint made = new Fingerprint(x);
        made.counts();
        made.units();
        made.claims();
        made.proof();
        made.tracks();
        made.racks();
        made.row.add((long) x.undo());
        made.units();
        made.claims();
        return made.row;
    }

    private void counts() {
        for (int what = 0; what < 6; what++) {
            row.add((long) x.count(what));
        }
    }

    private void units() {
        for (int i = 0; i < x.count(0); i++) {
            row.add((long) x.name(i, -1));
            row.add((long) x.name(i, 0));
            row.add(x.scale(i, 0, 0));
            row.add(x.scale(i, 1, 0));
            row.add((long) x.power(i, 0));
        }
    }

    private void claims() {
        for (int i = 0; i < x.count(1); i++) {
            for (int what = 0; what < 6; what++) {
                row.add((long) x.claimOf(i, what));
            }
        }
    }

    private void proof() {
        for (int what = 0; what < 5; what++) {
            row.add((long) x.proof(what));
        }
        for (int i = 0; i < Math.min(x.count(3), 8); i++) {
            row.add((long) x.step(i, 0));
            row.add((long) x.step(i, 1));
            row.add(x.value(i, 0));
            row.add(x.value(i, 1));
        }
    }

    private void tracks() {
        for (int track = 0; track < 4; track++) {
            row.add(x.added(track));
            for (int i = 0; i < 4; i++) {
                row.add(x.item(track, i));
            }
        }
    }

    private void racks() {
        for (int rack = 0; rack < 3; rack++) {
            for (int i = 0; i < 6; i++) {
                row.add((long) x.rack(rack, i, 0));
                row.add((long) x.rack(rack, i, 1));
            }
        }
    }
}
