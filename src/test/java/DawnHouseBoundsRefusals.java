import java.util.function.Supplier;
import java.util.function.ToLongFunction;

/**
 * Every call that the document refuses: the answer that is due, and that nothing is otherwise then, now or later.
 * And every call with every kind of number: none throws.
 */
public final class DawnHouseBoundsRefusals {
    private static final int NONE = DawnHouse.NONE;
    private static final int CALLS_A_HOUSE = 400;
    private static final int[] NO_TABLES = {-1, 6, Integer.MIN_VALUE, Integer.MAX_VALUE};
    private static final int[] NO_RIGHTS = {-1, 256, Integer.MIN_VALUE, Integer.MAX_VALUE};
    private static final int[] NO_READERS = {-1, 3, 6, 32, Integer.MIN_VALUE, Integer.MAX_VALUE};
    private static final int[] NO_STEPS = {-1, 5, 7, 32, Integer.MIN_VALUE, Integer.MAX_VALUE};

    public static void main(String[] args) {
        feedRefused();
        backRefused();
        spanRefused();
        rowRefused();
        landRefused();
        readerRefused();
        rightsRefused();
        holdRefused();
        readsRefused();
        hostsRefused();
        tickRefused();
        looksChangeNothing();
        noCallThrows();
        Check.end();
    }

    private static void sentence(String words) {
        Check.sentence(words);
    }

    private static void refused(String call, ToLongFunction<DawnHouse> calling) {
        refused(call, Check::busyHouse, calling, NONE);
    }

    private static void refused(String call, Supplier<DawnHouse> made, ToLongFunction<DawnHouse> calling, long answer) {
        DawnHouse x = made.get();
        int place = x.place();
        Check.due(call, calling.applyAsLong(x), answer);
        Check.due(call + ", then place", x.place(), place);
        Check.nothingHappens(call, made, calling::applyAsLong);
    }

    private static long number(boolean answer) {
        return answer ? 1 : 0;
    }

    private static DawnHouse busyWithTape(int bytes) {
        DawnHouse x = Check.busyHouse();
        while (x.count(7) < bytes) {
            int has = x.count(7);
            Check.feed(x, "sum(9) part z takes ");
            x.back(Math.max(0, has + 20 - bytes));
        }
        return x;
    }

    private static void feedRefused() {
        sentence("NONE, and nothing comes, if it would have more than 2,000.");
        refused("feed onto 2,000", () -> busyWithTape(2000), x -> Check.feed(x, "?".repeat(20)), NONE);
        refused("feed onto 1,981", () -> busyWithTape(1981), x -> Check.feed(x, "?".repeat(20)), NONE);
    }

    private static void backRefused() {
        sentence("NONE, and nothing goes, if it has not so many, or n is below 0.");
        for (int n : new int[] {-1, 21, Integer.MIN_VALUE, Integer.MAX_VALUE}) {
            refused("back " + n, x -> x.back(n));
        }
    }

    private static void spanRefused() {
        sentence("false: no such TABLE (0 .. 5), a not 0 .. b, b above 399.");
        for (int t : NO_TABLES) {
            refused("span of table " + t, Check::busyHouse, x -> number(x.span(t, 1, 2)), 0);
        }
        int[][] spans = {{-1, 5}, {6, 5}, {0, 400}, {400, 400}, {0, -1}, {-1, -1}, {399, 0},
            {Integer.MIN_VALUE, 5}, {0, Integer.MAX_VALUE}, {Integer.MAX_VALUE, Integer.MIN_VALUE}};
        for (int[] span : spans) {
            refused("span " + span[0] + " .. " + span[1], Check::busyHouse, x -> number(x.span(2, span[0], span[1])), 0);
        }
    }

    private static void rowRefused() {
        sentence("NONE, and nothing happens: no such TABLE, GROUP; 40 are loaded.");
        for (int t : NO_TABLES) {
            refused("row of table " + t, x -> x.row(t, 0, 9));
        }
        for (int group : new int[] {-1, 8, Integer.MIN_VALUE, Integer.MAX_VALUE}) {
            refused("row of group " + group, x -> x.row(0, group, 9));
        }
        for (int t = 0; t < 6; t++) {
            int table = t;
            refused("a 41st row of table " + t, () -> busyWithRows(table), x -> x.row(table, 0, 9), NONE);
        }
    }

    private static DawnHouse busyWithRows(int table) {
        DawnHouse x = Check.busyHouse();
        while (x.table(table, 2) < 40) {
            x.row(table, 0, 1);
        }
        return x;
    }

    private static void landRefused() {
        sentence("A TABLE LANDS: its STATE. NONE: no such TABLE.");
        for (int t : NO_TABLES) {
            refused("land " + t, x -> x.land(t));
        }
        refused("land 32", x -> x.land(32));
        refused("land 33", x -> x.land(33));
    }

    private static void readerRefused() {
        sentence("NONE, and nothing happens: 6 are there, rights not 0 .. 255.");
        for (int rights : NO_RIGHTS) {
            refused("reader " + rights, x -> x.reader(rights));
        }
        refused("a seventh", () -> {
            DawnHouse x = Check.busyHouse();
            x.reader(1);
            x.reader(2);
            x.reader(4);
            return x;
        }, x -> x.reader(255), NONE);
    }

    private static void rightsRefused() {
        sentence("RIGHTS of a READER become these: true; false: no such ones.");
        for (int r : NO_READERS) {
            refused("rights of " + r, Check::busyHouse, x -> number(x.rights(r, 1)), 0);
        }
        for (int rights : NO_RIGHTS) {
            refused("rights " + rights, Check::busyHouse, x -> number(x.rights(0, rights)), 0);
        }
    }

    private static void holdRefused() {
        sentence("false: there is none such, or it is so.");
        for (int r : NO_READERS) {
            refused("hold of " + r, Check::busyHouse, x -> number(x.hold(r, true)), 0);
            refused("no hold of " + r, Check::busyHouse, x -> number(x.hold(r, false)), 0);
        }
        refused("hold of one who is held", Check::busyHouse, x -> number(x.hold(1, true)), 0);
        // Nothing goes to one who is not held, be it that his rights or the reports he reads are others now.
        refused("no hold of one who is not held", () -> {
            DawnHouse x = Check.busyHouse();
            x.rights(0, 1);
            x.reads(2, 2);
            return x;
        }, x -> number(x.hold(0, false) || x.hold(2, false)), 0);
    }

    private static void readsRefused() {
        sentence("true; false: no such ones, a part, or it does.");
        for (int k : NO_STEPS) {
            refused("reads " + k, Check::busyHouse, x -> number(x.reads(k, 1)), 0);
        }
        for (int r : NO_READERS) {
            refused("reads by " + r, Check::busyHouse, x -> number(x.reads(1, r)), 0);
        }
        refused("reads a part", Check::busyHouse, x -> number(x.reads(0, 0) || x.reads(3, 0)), 0);
        refused("reads again", Check::busyHouse, x -> number(x.reads(1, 0) || x.reads(2, 0) || x.reads(2, 1)), 0);
    }

    private static void hostsRefused() {
        sentence("HOSTS become n: true; false for others, or if something is UNDER WAY.");
        for (int n = 1; n <= 3; n++) {
            int hosts = n;
            refused("hosts " + n + " while under way", Check::busyHouse, x -> number(x.hosts(hosts)), 0);
        }
        for (int n : new int[] {0, 4, -1, Integer.MIN_VALUE, Integer.MAX_VALUE}) {
            refused("hosts " + n, () -> Check.ticked(Check.busyHouse(), 9), x -> number(x.hosts(n)), 0);
        }
    }

    private static void tickRefused() {
        sentence("A TICK: the one that is now. NONE, and nothing happens: 399 is now.");
        refused("tick at 399", () -> Check.ticked(Check.busyHouse(), 396), DawnHouse::tick, NONE);
        refused("tick at 399 with something under way and something ready", () -> {
            DawnHouse x = Check.ticked(new DawnHouse(), 398);
            Check.read(x, "part a takes 3=1;report b takes 1 due 0 weight 1=1;");
            x.tick();
            return x;
        }, DawnHouse::tick, NONE);
    }

    private static void looksChangeNothing() {
        sentence("Nothing is promised beyond the answers and state changes described above");
        for (int n : new int[] {NONE, 0, 1, 3, 9, Integer.MAX_VALUE}) {
            Check.nothingHappens("looks at " + n, Check::busyHouse, x -> {
                x.order(n);
                x.foreseen(n);
                x.sure(n);
                x.step(n, n);
                x.value(n, n);
                x.sent(n, n, n);
                x.marks(n, n);
                x.table(n, n);
                x.count(n);
                x.place();
            });
        }
    }

    /** Makes a new house in time, so that each is used for 512 calls at most. */
    private static final class Houses {
        private final Supplier<DawnHouse> made;
        private DawnHouse house;
        private int calls = CALLS_A_HOUSE;

        Houses(Supplier<DawnHouse> made) {
            this.made = made;
        }

        DawnHouse next() {
            if (calls >= CALLS_A_HOUSE) {
                house = made.get();
                calls = 0;
            }
            calls++;
            return house;
        }
    }

    private static void noCallThrows() {
        sentence("NONE for others.");
        noCallThrows(DawnHouse::new, 0, 0);
        noCallThrows(Check::busyHouse, 5, 3);
        noCallThrows(() -> Check.houseOf("part a takes 1=1;part b takes 1=1;part c takes 1=1;part d takes 1=1;"
            + "part e takes 1=1;part f takes 1=1;part g takes 1=1;"), 7, 0);
    }

    // What an answer is, where the numbers are fine, others look at; here only those that are not are told apart.
    private static void noCallThrows(Supplier<DawnHouse> made, int steps, int readers) {
        Houses houses = new Houses(made);
        for (int a : Check.edges()) {
            boolean step = a >= 0 && a < steps;
            boolean reader = a >= 0 && a < readers;
            if (!step) {
                Check.due("order " + a, houses.next().order(a), NONE);
                Check.due("foreseen " + a, houses.next().foreseen(a), NONE);
                Check.due("sure " + a, houses.next().sure(a), NONE);
            }
            if (a < 0 || a > 7) {
                Check.due("count " + a, houses.next().count(a), NONE);
            }
            for (int b : Check.edges()) {
                dueOfTwo(houses, a, b, step && b >= 0 && b <= 8, step && b >= 0 && b <= 7);
                boolean readBy = step && b >= 0 && b < readers;
                if (!readBy) {
                    Check.due("marks " + a + " " + b, houses.next().marks(a, b), NONE);
                    Check.due("reads " + a + " " + b, houses.next().reads(a, b), false);
                    Check.due("sent " + a + " " + b, houses.next().sent(a, b, NONE), 0);
                }
                if (!reader || b < 0 || b > 255) {
                    Check.due("rights " + a + " " + b, houses.next().rights(a, b), false);
                }
                if (b < NONE || b > 7) {
                    Check.due("sent of group " + b, houses.next().sent(a, 0, b), 0);
                }
            }
        }
    }

    private static void dueOfTwo(Houses houses, int a, int b, boolean stepFits, boolean valueFits) {
        if (!stepFits) {
            Check.due("step " + a + " " + b, houses.next().step(a, b), NONE);
        }
        if (!valueFits) {
            Check.due("value " + a + " " + b, houses.next().value(a, b), 0);
        }
        if (a < 0 || a > 5 || b < 0 || b > 4) {
            Check.due("table " + a + " " + b, houses.next().table(a, b), NONE);
        }
        if (a < 0 || a > 5 || b < 0 || b > 7) {
            Check.due("row " + a + " " + b, houses.next().row(a, b, a), NONE);
        }
        if (a < 0 || a > b || b > 399) {
            Check.due("span " + a + " " + b, houses.next().span(0, a, b), false);
        }
    }
}
