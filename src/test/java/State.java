import java.util.Arrays;
import java.util.HashMap;
import java.util.Map;

/**
 * All that can be seen of a hall by its calls, as a row. Looking changes a hall (a text is read, one goes
 * back), so that each part of it is looked at in a hall of its own; none is used for more than 512 calls.
 */
final class State {
    private static final int PARTS = 8;
    private static final int SCRATCHES = 4;
    private static final Map<Bounds.Hall, long[]> KNOWN = new HashMap<>();

    private final NumbersCalled x;
    private long[] row = new long[64];
    private int size = 0;

    private State(NumbersCalled x) {
        this.x = x;
    }

    static long[] of(Bounds.Hall hall) {
        return KNOWN.computeIfAbsent(hall, h -> behind(h, x -> 0));
    }

    static long[] behind(Bounds.Hall hall, Bounds.Call call) {
        long[] all = new long[0];
        for (int part = 0; part < PARTS; part++) {
            NumbersCalled x = hall.make();
            call.on(x);
            State s = new State(x);
            s.look(part);
            int from = all.length;
            all = Arrays.copyOf(all, from + s.size);
            System.arraycopy(s.row, 0, all, from, s.size);
        }
        return all;
    }

    private void see(long v) {
        if (size == row.length) {
            row = Arrays.copyOf(row, 2 * size);
        }
        row[size] = v;
        size++;
    }

    private void look(int part) {
        switch (part) {
            case 0: hall(); break;
            case 1: tape(); break;
            case 2: texts(); break;
            case 3:
                see(x.back());
                hall();
                break;
            default: sheet(part - SCRATCHES);
        }
    }

    private void hall() {
        for (int what = 0; what < 8; what++) {
            see(x.count(what));
            see(x.sum(what));
        }
        see(x.harmed());
        for (int c = 0; c < x.count(3); c++) {
            for (int what = 0; what < 3; what++) {
                see(x.counterTold(c, what));
            }
            see(x.idle(c));
        }
        for (int a = 0; a < x.count(4); a++) {
            for (int what = 0; what < 6; what++) {
                see(x.told(a, what));
                see(x.of(a, what));
            }
        }
    }

    private void tape() {
        see(x.count(7));
        int t = x.text();
        see(t);
        if (t >= 0) {
            x.force(t);
            law();
        }
    }

    private void texts() {
        for (int t = 0; t < x.count(5); t++) {
            x.force(t);
            law();
        }
    }

    private void law() {
        someone();
        for (int wait = 0; wait < 100; wait += 33) {
            see(x.asks(0, 0, wait, 7, 0));
            see(x.asks(0, 0, wait, 7, 1));
            see(x.asks(0, 0, wait, 7, 2));
        }
    }

    private void someone() {
        if (x.count(3) == 0) {
            x.counter(15, 9);
        }
        if (x.count(4) == 0) {
            x.pull(0, 1425, 0);
        }
    }

    /** Sort and size by copies of none, what is in it by pulls of 0, 10 and a copy of it. */
    private void sheet(int s) {
        int sort = 0;
        while (sort < 3 && x.pulls(s, sort, 0, 0) != 0) {
            sort++;
        }
        see(sort);
        if (sort == 3) {
            see(x.copy(s, 0, s, 0, 0));
            return;
        }
        int n = 0;
        while (x.copy(s, n + 1, s, n + 1, 0) == 0) {
            n++;
        }
        see(n);
        if (x.count(4) == 16) {
            x.forget();
        }
        int scratch = (s + 1) % SCRATCHES;
        x.sheet(scratch, sort, 3);
        x.cell(scratch, 1, 10);
        for (int i = 0; i < n; i++) {
            x.copy(s, i, scratch, 2, 1);
            see(x.pulls(scratch, sort, 0, 1) == 1 ? x.told(x.count(4) - 1, 4) : -9);
            x.cell(scratch, 2, 0);
            if (x.count(4) > 15) {
                x.forget();
            }
        }
    }
}
