import java.util.stream.LongStream;

/** All that can be seen of an object but findings; the object is used up by looking. */
final class Probe {
    private static final int ROWS = 6, TEXTS = 4, KEPT = 3, COUNTS = 12;

    private final DreamTrain x;
    private final LongStream.Builder seen = LongStream.builder();

    private Probe(DreamTrain x) {
        this.x = x;
    }

    static long[] of(DreamTrain x) {
        Probe probe = new Probe(x);
        probe.lookAtTold();
        probe.lookAtPlaces();
        probe.lookBack();
        for (int k = 0; k < KEPT; k++) {
            probe.seen.add(x.on(k));
            probe.lookBack();
        }
        return probe.seen.build().toArray();
    }

    private void lookAtTold() {
        seen.add(x.asked()).add(x.upper()).add(x.lower()).add(x.digest());
        for (int what = 0; what < COUNTS; what++) {
            seen.add(x.count(what));
        }
    }

    private void lookAtPlaces() {
        for (int r = 0; r < ROWS; r++) {
            seen.add(sizeOfRow(r));
        }
        for (int t = 0; t < TEXTS; t++) {
            seen.add(x.fault(t));
        }
    }

    private int sizeOfRow(int r) {
        int size = 0;
        while (x.at(r, size) == 1) {
            seen.add(x.asked());
            size++;
        }
        return size;
    }

    /** The line as it is, and as it was ahead of each of its deeds. */
    private void lookBack() {
        seen.add(x.train(60)).add(x.asked()).add(x.count(7));
        for (int n = x.count(2); n >= 0; n--) {
            seen.add(x.undo(n)).add(x.digest());
        }
    }
}
