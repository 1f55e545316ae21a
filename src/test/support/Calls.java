import java.util.ArrayList;
import java.util.List;

/**
 * The calls of one test. What an object answers after its 512th call is free, so a new object takes over
 * in time: it gets all calls that change something once more, and must answer them as the first one did.
 */
public final class Calls {
    public static final int MOST_CALLS = 512;

    private interface Change {
        long on(PackageRows object);
    }

    private final List<Change> changes = new ArrayList<>();
    private final List<Long> answers = new ArrayList<>();
    private PackageRows object = new PackageRows();
    private int used = 0;

    private PackageRows next() {
        if (used == MOST_CALLS) {
            object = new PackageRows();
            used = 0;
            for (int n = 0; n < changes.size(); n++) {
                used++;
                if (changes.get(n).on(object) != answers.get(n)) {
                    throw new IllegalStateException("the same calls answer otherwise");
                }
            }
        }
        used++;
        return object;
    }

    private long change(Change change) {
        if (!hasRoomFor(1)) {
            throw new IllegalStateException("the test itself makes more than 512 calls");
        }
        long answer = change.on(next());
        changes.add(change);
        answers.add(answer);
        return answer;
    }

    /** Whether so many more calls may change something, with some left to ask what came of it. */
    public boolean hasRoomFor(int count) {
        return changes.size() + count < MOST_CALLS;
    }

    public static int callsToType(String text) {
        return (text.length() + 7) / 8;
    }

    public void type(long signs) {
        change(object -> {
            object.type(signs);
            return 0;
        });
    }

    /** Eight signs a call, the last ones with bytes 0 behind them. */
    public void typeText(String text) {
        for (int from = 0; from < text.length(); from += 8) {
            long signs = 0;
            for (int k = from; k < from + 8; k++) {
                signs = signs << 8 | (k < text.length() ? text.charAt(k) : 0);
            }
            type(signs);
        }
    }

    public int read() {
        return (int) change(PackageRows::read);
    }

    public int fold() {
        return (int) change(PackageRows::fold);
    }

    public int print(int p) {
        return (int) change(object -> object.print(p));
    }

    public int differ(int a, int b) {
        return (int) change(object -> object.differ(a, b));
    }

    public int rows(int p) {
        return next().rows(p);
    }

    public int row(int p, int i, int what) {
        return next().row(p, i, what);
    }

    public int letter(int p, int i, int what, int k) {
        return next().letter(p, i, what, k);
    }

    public long low(int p, int i) {
        return next().low(p, i);
    }

    public long high(int p, int i) {
        return next().high(p, i);
    }

    public int check(int p) {
        return next().check(p);
    }

    public boolean same(int a, int b) {
        return next().same(a, b);
    }

    public int change(int k, int what) {
        return next().change(k, what);
    }

    public int at(int k) {
        return next().at(k);
    }
}
