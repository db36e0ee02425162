import java.nio.charset.StandardCharsets;
import java.util.ArrayList;
import java.util.Arrays;
import java.util.HashMap;
import java.util.List;
import java.util.Map;
import java.util.TreeMap;
import java.util.function.LongSupplier;
import java.util.regex.Matcher;
import java.util.regex.Pattern;

/**
 * Many runs of made-up calls, the same in every run of the test, on the class and on a plain model of the
 * document: TICK by TICK, all ROWS kept, every ORDER tried, an automaton for the grammar.
 */
public final class DawnHouseAgainstModel {
    // What later calls answer is free.
    private static final int MOST_CALLS = 512;
    // A text of 2,000 bytes, its back(), read() and place().
    private static final int CALLS_A_TEXT = 103;
    private static final int CALLS_A_STEP = 79;
    private static final int RUNS = 3000;
    private static final int TEXT_RUNS = 5000;
    private static final int PLAN_RUNS = 500;
    private static final int MOST_SHOWN = 20;
    private static int wrong = 0;

    public static void main(String[] args) {
        long calls = 0;
        for (int run = 0; run < RUNS && wrong < MOST_SHOWN; run++) {
            calls += new Run(run).go();
        }
        for (int run = 0; run < TEXT_RUNS && wrong < MOST_SHOWN; run++) {
            calls += new Run(1000000 + run).goTexts();
        }
        for (int run = 0; run < PLAN_RUNS && wrong < MOST_SHOWN; run++) {
            calls += new Run(2000000 + run).goPlans();
        }
        System.out.println(calls + " calls, " + wrong + " answers differ from the model's");
        if (wrong != 0) {
            System.exit(1);
        }
    }

    /** Numbers that look mixed but are the same each time. */
    private static final class Dice {
        private long state;

        Dice(long seed) {
            state = seed * 0x9E3779B97F4A7C15L + 0x632BE59BD9B4E019L;
        }

        int below(int n) {
            state = state * 6364136223846793005L + 1442695040888963407L;
            return (int) ((state >>> 33) % n);
        }

        int between(int a, int b) {
            return a + below(b - a + 1);
        }

        boolean oneIn(int n) {
            return below(n) == 0;
        }
    }

    private static final class Run {
        private final int number;
        private final Dice dice;
        private final DawnHouse house = new DawnHouse();
        private final Model model = new Model();
        private final List<String> told = new ArrayList<>();
        private int calls = 0;
        private int plans = 0;

        Run(int number) {
            this.number = number;
            dice = new Dice(number);
        }

        // Ends with a look at all, as far as calls are left: each run begins that with another STEP.
        int go() {
            int spared = dice.between(0, 250);
            int horizon = dice.oneIn(6) ? 399 : dice.between(3, 40);
            if (dice.oneIn(8)) {
                for (int n = dice.oneIn(3) ? 399 : dice.between(300, 399); n > 0; n--) {
                    check("tick", house.tick(), model.tick());
                }
                spared = 0;
            }
            for (int r = dice.between(0, 6); r > 0; r--) {
                int rights = dice.below(256);
                check("reader " + rights, house.reader(rights), model.reader(rights));
            }
            giveText(false);
            for (int n = 0; n < MOST_CALLS && hasRoom(spared + 60) && wrong < MOST_SHOWN; n++) {
                change(horizon);
                if (dice.oneIn(3)) {
                    look();
                }
            }
            lookAtAll(dice.below(7));
            return calls;
        }

        int goTexts() {
            for (int i = 0; i < 4 && hasRoom(CALLS_A_TEXT + 50); i++) {
                giveText(!dice.oneIn(4));
                check("count 0", house.count(0), model.count(0));
                for (int k = -1; k <= 7; k++) {
                    for (int what = 0; what <= 4; what++) {
                        check("step " + k + " " + what, house.step(k, what), model.step(k, what));
                    }
                }
            }
            return calls;
        }

        /** Plans of full houses that can't be on time, again and again on the way. */
        int goPlans() {
            StringBuilder text = new StringBuilder();
            int steps = dice.between(5, 7);
            int parts = dice.between(0, 3);
            for (int k = 0; k < steps; k++) {
                text.append(k < parts ? "part p" : "report r").append(k).append(" takes ").append(dice.between(1, 8));
                if (k >= parts) {
                    text.append(" due ").append(dice.below(25)).append(" weight ").append(dice.between(0, 9));
                }
                text.append(" = sum(").append(dice.below(6)).append(")");
                for (int p = 0; p < Math.min(k, parts); p++) {
                    text.append(dice.oneIn(3) ? "+p" + p : "");
                }
                text.append(";");
            }
            giveBytes(text.toString());
            for (int t = 0; t < 6; t++) {
                int a = dice.below(12);
                int b = a + dice.below(6);
                check("span " + t + " " + a + " " + b, house.span(t, a, b), model.span(t, a, b));
                if (dice.oneIn(2)) {
                    check("land " + t, house.land(t), model.land(t));
                }
            }
            int hosts = dice.oneIn(2) ? 1 : dice.between(2, 3);
            check("hosts " + hosts, house.hosts(hosts), model.hosts(hosts));
            for (int n = 0; n < 4; n++) {
                planBoth();
                for (int k = 0; k < steps; k++) {
                    check("foreseen " + k, house.foreseen(k), model.foreseen(k));
                }
                for (int ticks = dice.below(8); ticks > 0; ticks--) {
                    check("tick", house.tick(), model.tick());
                }
                int t = dice.below(6);
                check("land " + t, house.land(t), model.land(t));
            }
            return calls;
        }

        private void planBoth() {
            check("plan", house.plan(), model.plan());
            for (int i = -1; i <= 7; i++) {
                check("order " + i, house.order(i), model.order(i));
            }
        }

        private boolean hasRoom(int more) {
            return calls + more <= MOST_CALLS;
        }

        private void check(String call, long got, long want) {
            calls++;
            if (calls > MOST_CALLS) {
                throw new IllegalStateException("a house is asked too often");
            }
            told.add(call + " = " + want);
            if (got != want) {
                wrong++;
                System.out.println("run " + number + ": " + call + " answered " + got + ", the model says " + want);
                if (wrong == 1) {
                    for (String line : told) {
                        System.out.println("    " + line);
                    }
                }
            }
        }

        private void check(String call, boolean got, boolean want) {
            check(call, got ? 1L : 0L, want ? 1L : 0L);
        }

        private void giveText(boolean odd) {
            giveBytes(new TextMaker(dice).make(odd));
        }

        private void giveBytes(String made) {
            byte[] text = made.getBytes(StandardCharsets.ISO_8859_1);
            int whole = (text.length + 19) / 20 * 20;
            byte[] padded = Arrays.copyOf(text, whole);
            for (int i = 0; i < whole; i += 20) {
                int[] w = new int[5];
                for (int j = 0; j < 20; j++) {
                    w[j / 4] = w[j / 4] << 8 | padded[i + j] & 255;
                }
                check("feed", house.feed(w[0], w[1], w[2], w[3], w[4]), model.feed(w[0], w[1], w[2], w[3], w[4]));
            }
            check("back", house.back(whole - text.length), model.back(whole - text.length));
            check("read " + made, house.read(), model.read());
            check("place", house.place(), model.place());
        }

        private void change(int horizon) {
            int t = dice.between(dice.oneIn(30) ? -1 : 0, dice.oneIn(30) ? 6 : 5);
            int r = dice.between(dice.oneIn(30) ? -1 : 0, dice.oneIn(30) ? 6 : Math.max(0, model.readers.size() - 1));
            int k = dice.between(dice.oneIn(30) ? -1 : 0, dice.oneIn(30) ? 7 : Math.max(0, model.steps.size() - 1));
            switch (dice.below(24)) {
                case 0: {
                    int a = dice.between(dice.oneIn(20) ? -1 : 0, horizon);
                    int b = dice.oneIn(20) ? dice.between(-1, 401) : Math.min(399, a + dice.below(12));
                    check("span " + t + " " + a + " " + b, house.span(t, a, b), model.span(t, a, b));
                    break;
                }
                case 1: case 2: case 3: {
                    int g = dice.between(dice.oneIn(20) ? -1 : 0, dice.oneIn(20) ? 8 : 7);
                    int v = dice.oneIn(10) ? dice.below(Integer.MAX_VALUE) * (dice.oneIn(2) ? 1 : -1) : dice.between(-9, 9);
                    for (int n = dice.oneIn(40) ? 42 : 1; n > 0; n--) {
                        check("row " + t + " " + g + " " + v, house.row(t, g, v), model.row(t, g, v));
                    }
                    break;
                }
                case 4: case 5:
                    check("land " + t, house.land(t), model.land(t));
                    break;
                case 6: {
                    int rights = dice.between(dice.oneIn(20) ? -1 : 0, dice.oneIn(20) ? 256 : 255);
                    check("reader " + rights, house.reader(rights), model.reader(rights));
                    break;
                }
                case 7: {
                    int rights = dice.between(dice.oneIn(20) ? -1 : 0, dice.oneIn(20) ? 256 : 255);
                    check("rights " + r + " " + rights, house.rights(r, rights), model.rights(r, rights));
                    break;
                }
                case 8: case 9: {
                    boolean held = dice.oneIn(2);
                    check("hold " + r + " " + held, house.hold(r, held), model.hold(r, held));
                    break;
                }
                case 10: case 11: case 12:
                    check("reads " + k + " " + r, house.reads(k, r), model.reads(k, r));
                    break;
                case 13: {
                    int n = dice.between(0, 4);
                    check("hosts " + n, house.hosts(n), model.hosts(n));
                    break;
                }
                case 14:
                    if (plans < 12) {
                        plans++;
                        planBoth();
                    }
                    break;
                case 15:
                    if (dice.oneIn(10) && hasRoom(CALLS_A_TEXT)) {
                        giveText(dice.oneIn(3));
                    }
                    break;
                default:
                    check("tick", house.tick(), model.tick());
                    break;
            }
        }

        private void look() {
            int k = dice.between(-1, 7);
            int r = dice.between(-1, 6);
            int g = dice.between(-2, 8);
            int what = dice.between(-1, 9);
            check("foreseen " + k, house.foreseen(k), model.foreseen(k));
            check("sure " + k, house.sure(k), model.sure(k));
            check("step " + k + " " + what, house.step(k, what), model.step(k, what));
            check("value " + k + " " + g, house.value(k, g), model.value(k, g));
            check("sent " + k + " " + r + " " + g, house.sent(k, r, g), model.sent(k, r, g));
            check("marks " + k + " " + r, house.marks(k, r), model.marks(k, r));
            check("table " + r + " " + what, house.table(r, what), model.table(r, what));
            check("count " + what, house.count(what), model.count(what));
        }

        private void lookAtAll(int first) {
            for (int n = 0; n < 7 && hasRoom(CALLS_A_STEP); n++) {
                lookAtStep((first + n) % 7);
            }
        }

        private void lookAtStep(int k) {
            check("foreseen " + k, house.foreseen(k), model.foreseen(k));
            check("sure " + k, house.sure(k), model.sure(k));
            for (int what = 0; what <= 8; what++) {
                check("step " + k + " " + what, house.step(k, what), model.step(k, what));
            }
            for (int g = 0; g < 8; g++) {
                check("value " + k + " " + g, house.value(k, g), model.value(k, g));
            }
            for (int r = 0; r < 6; r++) {
                check("marks " + k + " " + r, house.marks(k, r), model.marks(k, r));
                for (int g = -1; g < 8; g++) {
                    check("sent " + k + " " + r + " " + g, house.sent(k, r, g), model.sent(k, r, g));
                }
            }
        }
    }

    /** Texts, most of them without a FAULT, some of them spoilt in one place or two. */
    private static final class TextMaker {
        private static final String[] NAMES = {"a", "b", "c", "d", "e", "f", "g", "x1", "abcdefgh", "maxi", "part1"};
        private static final String[] SPOILS = {"part", "report", "takes", "due", "weight", "sum", "count", "most",
            "max", ";", ",", "=", "+", "-", "*", "(", ")", "0", "7", "9999", "12345", "abcdefghi", "q", "A", "\u00e9", "1a", "."};
        private final Dice dice;
        private final List<String> tokens = new ArrayList<>();
        private final List<String> parts = new ArrayList<>();

        TextMaker(Dice dice) {
            this.dice = dice;
        }

        String make(boolean odd) {
            int steps = odd ? dice.between(0, 8) : dice.between(1, 7);
            int tightness = dice.between(1, 40);
            int longest = dice.oneIn(3) ? 20 : dice.between(1, 6);
            for (int k = 0; k < steps; k++) {
                addStep(k, odd, tightness, longest);
            }
            if (odd && !tokens.isEmpty()) {
                for (int n = dice.below(5) - 2; n > 0; n--) {
                    spoil();
                }
            }
            return joined();
        }

        private void addStep(int k, boolean odd, int tightness, int longest) {
            String name = NAMES[odd && dice.oneIn(10) ? dice.below(NAMES.length) : k];
            boolean report = dice.below(5) < 3;
            add(report ? "report" : "part", name, "takes", number(odd, 1, longest, 0, 21));
            if (report) {
                add("due", number(odd, 0, tightness, 399, 400), "weight", number(odd, 0, 100, 100, 101));
            }
            add("=");
            if (odd && dice.oneIn(12)) {
                addLong();
            } else {
                addE(dice.between(0, odd && dice.oneIn(6) ? 8 : 3), odd);
            }
            add(";");
            if (!report) {
                parts.add(name);
            }
        }

        private String number(boolean odd, int least, int most, int edge, int other) {
            if (odd && dice.oneIn(25)) {
                return String.valueOf(dice.oneIn(2) ? edge : other);
            }
            return String.valueOf(dice.between(least, most));
        }

        private void addLong() {
            add("1");
            for (int n = dice.between(150, 210); n > 0; n--) {
                add("+", "1");
            }
        }

        private void addE(int depth, boolean odd) {
            addTerm(depth, odd);
            for (int n = dice.below(3); n > 0 && dice.oneIn(2); n--) {
                add(dice.oneIn(2) ? "+" : "-");
                addTerm(depth, odd);
            }
        }

        private void addTerm(int depth, boolean odd) {
            addUnit(depth, odd);
            for (int n = dice.below(3); n > 0 && dice.oneIn(3); n--) {
                add("*");
                addUnit(depth, odd);
            }
        }

        private void addUnit(int depth, boolean odd) {
            int which = dice.below(depth > 0 ? 8 : 5);
            if (which == 0) {
                add(String.valueOf(dice.oneIn(3) ? dice.below(10000) : dice.below(5)));
            } else if (which <= 2 && !parts.isEmpty()) {
                add(odd && dice.oneIn(25) ? NAMES[dice.below(NAMES.length)] : parts.get(dice.below(parts.size())));
            } else if (which <= 4) {
                add(new String[] {"sum", "count", "most"}[dice.below(3)], "(", number(odd, 0, 5, 5, 6), ")");
            } else if (which == 5) {
                add("max", "(");
                addE(depth - 1, odd);
                add(",");
                addE(depth - 1, odd);
                add(")");
            } else {
                add("(");
                addE(depth - 1, odd);
                add(")");
            }
        }

        private void add(String... more) {
            tokens.addAll(Arrays.asList(more));
        }

        private void spoil() {
            int i = dice.below(tokens.size());
            switch (dice.below(4)) {
                case 0:
                    if (tokens.size() > 1) {
                        tokens.remove(i);
                    }
                    break;
                case 1:
                    tokens.add(i, SPOILS[dice.below(SPOILS.length)]);
                    break;
                case 2:
                    tokens.set(i, SPOILS[dice.below(SPOILS.length)]);
                    break;
                default:
                    while (tokens.size() > Math.max(1, i)) {
                        tokens.remove(tokens.size() - 1);
                    }
                    break;
            }
        }

        private String joined() {
            StringBuilder text = new StringBuilder();
            String before = "";
            for (String token : tokens) {
                boolean wordly = !before.isEmpty() && Character.isLetterOrDigit(before.charAt(before.length() - 1))
                    && Character.isLetterOrDigit(token.charAt(0));
                if (wordly && !dice.oneIn(60) || dice.oneIn(8)) {
                    text.append(" \t\n\r".charAt(dice.oneIn(3) ? dice.below(4) : 0));
                }
                if (text.length() + token.length() > 1999) {
                    break;
                }
                text.append(token);
                before = token;
            }
            if (dice.oneIn(5)) {
                text.append(' ');
            }
            return text.toString();
        }
    }

    private static final class ModelStep {
        boolean report;
        int takes;
        int due;
        int weight;
        List<Object[]> e;
        final List<Integer> tables = new ArrayList<>();
        final List<Integer> parts = new ArrayList<>();
        int doneTick = -1;
        int times = 0;
        int worked = 0;
        int host = -1;
        long[] is = new long[8];
    }

    private static final class ModelTable {
        int state = 0;
        int from = 0;
        int to = 0;
        List<int[]> has = new ArrayList<>();
        List<int[]> loaded = new ArrayList<>();
    }

    private static final class ModelReader {
        int rights;
        boolean held = false;
        final TreeMap<Integer, List<long[]>> gone = new TreeMap<>();
    }

    private static final class Model {
        final StringBuilder tape = new StringBuilder();
        int place = -1;
        int now = 0;
        int hosts = 1;
        List<ModelStep> steps = new ArrayList<>();
        final ModelTable[] tables = new ModelTable[6];
        final List<ModelReader> readers = new ArrayList<>();
        List<Integer> order = new ArrayList<>();

        Model() {
            for (int t = 0; t < 6; t++) {
                tables[t] = new ModelTable();
            }
        }

        int feed(int... words) {
            if (tape.length() + 20 > 2000) {
                return -1;
            }
            for (int w : words) {
                tape.append((char) (w >>> 24)).append((char) (w >>> 16 & 255)).append((char) (w >>> 8 & 255)).append((char) (w & 255));
            }
            return tape.length();
        }

        int back(int n) {
            if (n < 0 || n > tape.length()) {
                return -1;
            }
            tape.setLength(tape.length() - n);
            return tape.length();
        }

        int read() {
            ModelText text = new ModelText(tape.toString());
            tape.setLength(0);
            int fault = text.check();
            place = text.place;
            if (fault == 0) {
                steps = text.steps;
                order = new ArrayList<>();
                for (int k = 0; k < steps.size(); k++) {
                    order.add(k);
                }
                for (ModelReader r : readers) {
                    r.gone.clear();
                }
            }
            return fault;
        }

        int place() {
            return place;
        }

        boolean span(int t, int a, int b) {
            if (t < 0 || t > 5 || a < 0 || a > b || b > 399) {
                return false;
            }
            tables[t].from = a;
            tables[t].to = b;
            return true;
        }

        int row(int t, int g, int v) {
            if (t < 0 || t > 5 || g < 0 || g > 7 || tables[t].loaded.size() == 40) {
                return -1;
            }
            tables[t].loaded.add(new int[] {g, v});
            return tables[t].loaded.size();
        }

        int land(int t) {
            if (t < 0 || t > 5) {
                return -1;
            }
            tables[t].has = tables[t].loaded;
            tables[t].loaded = new ArrayList<>();
            tables[t].state++;
            for (int k = 0; k < steps.size(); k++) {
                if (needs(k, t)) {
                    steps.get(k).doneTick = -1;
                    steps.get(k).host = -1;
                    steps.get(k).worked = 0;
                }
            }
            return tables[t].state;
        }

        private boolean needs(int k, int t) {
            if (steps.get(k).tables.contains(t)) {
                return true;
            }
            for (int p : steps.get(k).parts) {
                if (needs(p, t)) {
                    return true;
                }
            }
            return false;
        }

        int reader(int rights) {
            if (readers.size() == 6 || rights < 0 || rights > 255) {
                return -1;
            }
            ModelReader r = new ModelReader();
            r.rights = rights;
            readers.add(r);
            return readers.size() - 1;
        }

        private boolean isReader(int r) {
            return r >= 0 && r < readers.size();
        }

        private boolean isStep(int k) {
            return k >= 0 && k < steps.size();
        }

        boolean rights(int r, int rights) {
            if (!isReader(r) || rights < 0 || rights > 255) {
                return false;
            }
            readers.get(r).rights = rights;
            return true;
        }

        boolean hold(int r, boolean held) {
            if (!isReader(r) || readers.get(r).held == held) {
                return false;
            }
            readers.get(r).held = held;
            if (!held) {
                for (int k : readers.get(r).gone.keySet()) {
                    if (steps.get(k).doneTick >= 0) {
                        send(k, readers.get(r));
                    }
                }
            }
            return true;
        }

        private void send(int k, ModelReader r) {
            long[] view = new long[8];
            for (int g = 0; g < 8; g++) {
                view[g] = (r.rights & 1 << g) != 0 ? steps.get(k).is[g] : 0;
            }
            List<long[]> gone = r.gone.get(k);
            if (gone.isEmpty() || !Arrays.equals(gone.get(gone.size() - 1), view)) {
                gone.add(view);
            }
        }

        boolean reads(int k, int r) {
            if (!isStep(k) || !isReader(r) || !steps.get(k).report || readers.get(r).gone.containsKey(k)) {
                return false;
            }
            readers.get(r).gone.put(k, new ArrayList<>());
            return true;
        }

        boolean hosts(int n) {
            if (n < 1 || n > 3 || count(4) > 0) {
                return false;
            }
            hosts = n;
            return true;
        }

        int tick() {
            if (now == 399) {
                return -1;
            }
            now++;
            for (int h = 0; h < hosts; h++) {
                if (atHost(h) < 0) {
                    for (int k : order) {
                        if (isReady(k)) {
                            steps.get(k).host = h;
                            break;
                        }
                    }
                }
            }
            for (int h = 0; h < hosts; h++) {
                int k = atHost(h);
                if (k >= 0 && ++steps.get(k).worked == steps.get(k).takes) {
                    end(k);
                }
            }
            return now;
        }

        private void end(int k) {
            ModelStep s = steps.get(k);
            s.host = -1;
            s.worked = 0;
            s.doneTick = now;
            s.times++;
            s.is = new ModelE(s.e, this).all();
            for (ModelReader r : readers) {
                if (r.gone.containsKey(k) && !r.held) {
                    send(k, r);
                }
            }
        }

        private int atHost(int h) {
            for (int k = 0; k < steps.size(); k++) {
                if (steps.get(k).host == h) {
                    return k;
                }
            }
            return -1;
        }

        private boolean isReady(int k) {
            ModelStep s = steps.get(k);
            boolean ready = s.doneTick < 0 && s.host < 0;
            for (int t : s.tables) {
                ready &= tables[t].state > 0;
            }
            for (int p : s.parts) {
                ready &= steps.get(p).doneTick >= 0;
            }
            return ready;
        }

        private int[] foresee(List<Integer> by) {
            int n = steps.size();
            int[] ends = new int[n];
            int[] left = new int[n];
            int[] at = new int[3];
            Arrays.fill(at, -1);
            for (int k = 0; k < n; k++) {
                ends[k] = steps.get(k).doneTick >= 0 ? steps.get(k).doneTick : 400;
                left[k] = steps.get(k).takes - steps.get(k).worked;
                if (steps.get(k).host >= 0) {
                    at[steps.get(k).host] = k;
                }
            }
            int open = n - count(5);
            for (int t = now + 1; t <= 399 && open > 0; t++) {
                for (int h = 0; h < hosts; h++) {
                    for (int i = 0; i < n && at[h] < 0; i++) {
                        int k = by.get(i);
                        boolean ready = ends[k] == 400 && at[0] != k && at[1] != k && at[2] != k;
                        for (int table : steps.get(k).tables) {
                            ready = ready && (tables[table].state > 0 || Math.max(now + 1, tables[table].to) <= t);
                        }
                        for (int p : steps.get(k).parts) {
                            ready = ready && ends[p] < t;
                        }
                        if (ready) {
                            at[h] = k;
                        }
                    }
                }
                for (int h = 0; h < hosts; h++) {
                    if (at[h] >= 0 && --left[at[h]] == 0) {
                        ends[at[h]] = t;
                        at[h] = -1;
                        open--;
                    }
                }
            }
            return ends;
        }

        private int lates(int[] ends) {
            int sum = 0;
            for (int k = 0; k < steps.size(); k++) {
                if (steps.get(k).report && ends[k] > steps.get(k).due) {
                    sum += (ends[k] - steps.get(k).due) * steps.get(k).weight;
                }
            }
            return sum;
        }

        int plan() {
            int[] least = {Integer.MAX_VALUE};
            List<Integer> found = new ArrayList<>();
            tryAll(new ArrayList<>(), least, found, new HashMap<>());
            order = found;
            return least[0];
        }

        // Orders that agree on the STEPS to be begun run alike: that alone is used to run fewer.
        private void tryAll(List<Integer> head, int[] least, List<Integer> found, Map<List<Integer>, Integer> known) {
            if (head.size() == steps.size()) {
                List<Integer> open = new ArrayList<>();
                for (int k : head) {
                    if (steps.get(k).doneTick < 0 && steps.get(k).host < 0) {
                        open.add(k);
                    }
                }
                Integer lates = known.get(open);
                if (lates == null) {
                    lates = lates(foresee(head));
                    known.put(open, lates);
                }
                if (lates < least[0]) {
                    least[0] = lates;
                    found.clear();
                    found.addAll(head);
                }
                return;
            }
            for (int k = 0; k < steps.size(); k++) {
                if (!head.contains(k)) {
                    head.add(k);
                    tryAll(head, least, found, known);
                    head.remove(head.size() - 1);
                }
            }
        }

        int order(int i) {
            return isStep(i) ? order.get(i) : -1;
        }

        int foreseen(int k) {
            return isStep(k) ? foresee(order)[k] : -1;
        }

        private int soonest(int k) {
            ModelStep s = steps.get(k);
            if (s.doneTick >= 0) {
                return s.doneTick;
            }
            if (s.host >= 0) {
                return now + s.takes - s.worked;
            }
            int begin = now + 1;
            for (int t : s.tables) {
                if (tables[t].state == 0) {
                    begin = Math.max(begin, tables[t].from);
                }
            }
            for (int p : s.parts) {
                begin = Math.max(begin, soonest(p) + 1);
            }
            return begin + s.takes - 1;
        }

        int sure(int k) {
            return !isStep(k) || !steps.get(k).report ? -1 : soonest(k) > steps.get(k).due ? 1 : 0;
        }

        int step(int k, int what) {
            if (!isStep(k) || what < 0 || what > 8) {
                return -1;
            }
            ModelStep s = steps.get(k);
            int bits = 0;
            for (int t = 0; t < 6; t++) {
                bits |= needs(k, t) ? 1 << t : 0;
            }
            int state = s.doneTick >= 0 ? 2 : s.host >= 0 ? 1 : 0;
            return new int[] {s.report ? 1 : 0, s.takes, s.due, s.weight, bits, state, s.doneTick, s.times, s.worked}[what];
        }

        long value(int k, int g) {
            return isStep(k) && g >= 0 && g <= 7 && steps.get(k).doneTick >= 0 ? steps.get(k).is[g] : 0;
        }

        long sent(int k, int r, int g) {
            if (!isStep(k) || !isReader(r) || !readers.get(r).gone.containsKey(k) || readers.get(r).gone.get(k).isEmpty()) {
                return 0;
            }
            List<long[]> gone = readers.get(r).gone.get(k);
            long[] last = gone.get(gone.size() - 1);
            return g == -1 ? Arrays.stream(last).sum() : g >= 0 && g <= 7 ? last[g] : 0;
        }

        int marks(int k, int r) {
            return isStep(k) && isReader(r) && readers.get(r).gone.containsKey(k) ? readers.get(r).gone.get(k).size() : -1;
        }

        int table(int t, int what) {
            if (t < 0 || t > 5 || what < 0 || what > 4) {
                return -1;
            }
            ModelTable x = tables[t];
            return new int[] {x.state, x.has.size(), x.loaded.size(), x.from, x.to}[what];
        }

        int count(int what) {
            int way = 0;
            int done = 0;
            for (ModelStep s : steps) {
                way += s.host >= 0 ? 1 : 0;
                done += s.doneTick >= 0 ? 1 : 0;
            }
            int marks = 0;
            for (ModelReader r : readers) {
                for (List<long[]> gone : r.gone.values()) {
                    marks += gone.size();
                }
            }
            int[] all = {steps.size(), readers.size(), now, hosts, way, done, marks, tape.length()};
            return what >= 0 && what < all.length ? all[what] : -1;
        }
    }

    /** An E from its TOKENS, split at the last sign outside of brackets, group by group. */
    private static final class ModelE {
        private final List<Object[]> e;
        private final Model model;

        ModelE(List<Object[]> e, Model model) {
            this.e = e;
            this.model = model;
        }

        long[] all() {
            long[] is = new long[8];
            for (int g = 0; g < 8; g++) {
                is[g] = of(0, e.size(), g);
            }
            return is;
        }

        private String at(int i) {
            return (String) e.get(i)[0];
        }

        private int lastOutside(int from, int to, String signs) {
            int depth = 0;
            for (int i = to - 1; i >= from; i--) {
                depth += at(i).equals(")") ? 1 : at(i).equals("(") ? -1 : 0;
                if (depth == 0 && at(i).length() == 1 && signs.contains(at(i))) {
                    return i;
                }
            }
            return -1;
        }

        private long of(int from, int to, int g) {
            int i = lastOutside(from, to, "+-");
            if (i >= 0) {
                return at(i).equals("+") ? of(from, i, g) + of(i + 1, to, g) : of(from, i, g) - of(i + 1, to, g);
            }
            i = lastOutside(from, to, "*");
            if (i >= 0) {
                return of(from, i, g) * of(i + 1, to, g);
            }
            String word = at(from);
            if (word.equals("(")) {
                return of(from + 1, to - 1, g);
            }
            if (word.equals("max")) {
                int comma = lastOutside(from + 2, to - 1, ",");
                return Math.max(of(from + 2, comma, g), of(comma + 1, to - 1, g));
            }
            if (Character.isDigit(word.charAt(0))) {
                return Integer.parseInt(word);
            }
            if (e.get(from)[1] != null) {
                return model.steps.get((Integer) e.get(from)[1]).is[g];
            }
            return figure(word, Integer.parseInt(at(from + 2)), g);
        }

        private long figure(String word, int table, int g) {
            LongSupplier none = () -> 0;
            List<Long> rows = new ArrayList<>();
            for (int[] row : model.tables[table].has) {
                if (row[0] == g) {
                    rows.add((long) row[1]);
                }
            }
            if (word.equals("count")) {
                return rows.size();
            }
            if (word.equals("sum")) {
                return rows.stream().mapToLong(Long::longValue).sum();
            }
            return rows.stream().mapToLong(Long::longValue).max().orElseGet(none);
        }
    }

    /** The grammar as an automaton: what may come next, and which brackets stand open. */
    private static final class ModelText {
        private static final List<String> WORDS = List.of("part", "takes", "report", "due", "weight", "sum", "count", "most", "max");
        private static final Pattern RUN = Pattern.compile("[a-z][a-z0-9]*|[0-9]+|[^a-z0-9]");
        private static final Pattern TOKEN = Pattern.compile("[a-z][a-z0-9]{0,7}|[0-9]{1,4}|[;,=+\\-*()]");
        private final String text;
        private final List<String> tokens = new ArrayList<>();
        private final List<Integer> places = new ArrayList<>();
        final List<ModelStep> steps = new ArrayList<>();
        int place = -1;

        ModelText(String text) {
            this.text = text;
        }

        // "?" stands for what is no TOKEN, "" for the text's end.
        private void split() {
            int i = 0;
            while (true) {
                while (i < text.length() && "\t\n\r ".indexOf(text.charAt(i)) >= 0) {
                    i++;
                }
                places.add(i);
                if (i == text.length()) {
                    tokens.add("");
                    return;
                }
                Matcher run = RUN.matcher(text).region(i, text.length());
                String word = run.lookingAt() ? run.group() : "?";
                boolean fine = TOKEN.matcher(word).matches();
                tokens.add(fine ? word : "?");
                if (!fine) {
                    return;
                }
                i += word.length();
            }
        }

        private static String kind(String token) {
            if (token.isEmpty() || token.equals("?") || WORDS.contains(token)) {
                return token;
            }
            return Character.isDigit(token.charAt(0)) ? "INT" : Character.isLetter(token.charAt(0)) ? "NAME" : token;
        }

        int check() {
            split();
            int fault = form();
            return fault != 0 ? fault : sense();
        }

        private int at(int i, int fault) {
            place = places.get(i);
            return fault;
        }

        private int form() {
            String head = "";
            StringBuilder open = new StringBuilder();
            String state = "step";
            int told = 0;
            for (int i = 0; i < tokens.size(); i++) {
                String kind = kind(tokens.get(i));
                if (state.equals("step") && kind.isEmpty()) {
                    return 0;
                }
                String next = next(state, kind, open, head);
                if (next == null) {
                    return at(i, 1);
                }
                told += state.equals("step") ? 1 : 0;
                if (i >= 400 || told > 7 || open.length() > 6) {
                    return at(i, 2);
                }
                head = state.equals("step") ? kind : head;
                state = next;
            }
            throw new IllegalStateException("no end of the text");
        }

        /** The state behind a TOKEN, or null; open brackets: p plain, f of a figure, m and n of a max. */
        private static String next(String state, String kind, StringBuilder open, String head) {
            switch (state) {
                case "step": return kind.equals("part") || kind.equals("report") ? "name" : null;
                case "name": return kind.equals("NAME") ? "takes" : null;
                case "takes": return kind.equals("takes") ? "ticks" : null;
                case "ticks": return kind.equals("INT") ? head.equals("part") ? "is" : "due" : null;
                case "due": return kind.equals("due") ? "dueint" : null;
                case "dueint": return kind.equals("INT") ? "weight" : null;
                case "weight": return kind.equals("weight") ? "weightint" : null;
                case "weightint": return kind.equals("INT") ? "is" : null;
                case "is": return kind.equals("=") ? "unit" : null;
                case "figure": return opened(kind, open, 'f', "table");
                case "table": return kind.equals("INT") ? "closing" : null;
                case "closing": return closed(kind, open, "f");
                case "max": return opened(kind, open, 'm', "unit");
                case "unit":
                    if (kind.equals("sum") || kind.equals("count") || kind.equals("most")) {
                        return "figure";
                    }
                    if (kind.equals("max")) {
                        return "max";
                    }
                    return kind.equals("INT") || kind.equals("NAME") ? "sign" : opened(kind, open, 'p', "unit");
                default:
                    if (kind.equals("+") || kind.equals("-") || kind.equals("*")) {
                        return "unit";
                    }
                    if (kind.equals(";") && open.length() == 0) {
                        return "step";
                    }
                    if (kind.equals(",") && open.length() > 0 && open.charAt(open.length() - 1) == 'm') {
                        open.setCharAt(open.length() - 1, 'n');
                        return "unit";
                    }
                    return closed(kind, open, "pn");
            }
        }

        private static String opened(String kind, StringBuilder open, char bracket, String then) {
            if (!kind.equals("(")) {
                return null;
            }
            open.append(bracket);
            return then;
        }

        private static String closed(String kind, StringBuilder open, String brackets) {
            if (!kind.equals(")") || open.length() == 0 || brackets.indexOf(open.charAt(open.length() - 1)) < 0) {
                return null;
            }
            open.setLength(open.length() - 1);
            return "sign";
        }

        private int sense() {
            Map<String, Integer> parts = new HashMap<>();
            List<String> told = new ArrayList<>();
            int i = 0;
            while (!tokens.get(i).isEmpty()) {
                ModelStep s = new ModelStep();
                s.report = tokens.get(i).equals("report");
                String name = tokens.get(i + 1);
                if (told.contains(name)) {
                    return at(i + 1, 3);
                }
                s.takes = Integer.parseInt(tokens.get(i + 3));
                if (s.takes == 0 || s.takes > 20) {
                    return at(i + 3, 5);
                }
                i += 4;
                if (s.report) {
                    s.due = Integer.parseInt(tokens.get(i + 1));
                    s.weight = Integer.parseInt(tokens.get(i + 3));
                    if (s.due > 399 || s.weight > 100) {
                        return at(s.due > 399 ? i + 1 : i + 3, 5);
                    }
                    i += 4;
                }
                i++;
                int end = i + tokens.subList(i, tokens.size()).indexOf(";");
                int fault = senseOfE(s, i, end, parts);
                if (fault != 0) {
                    return fault;
                }
                i = end + 1;
                told.add(name);
                if (!s.report) {
                    parts.put(name, steps.size());
                }
                steps.add(s);
            }
            return 0;
        }

        private int senseOfE(ModelStep s, int from, int to, Map<String, Integer> parts) {
            s.e = new ArrayList<>();
            for (int i = from; i < to; i++) {
                String token = tokens.get(i);
                Integer part = kind(token).equals("NAME") ? parts.get(token) : null;
                if (kind(token).equals("NAME") && part == null) {
                    return at(i, 4);
                }
                if (part != null) {
                    s.parts.add(part);
                }
                if (i > from + 1 && kind(token).equals("INT") && List.of("sum", "count", "most").contains(tokens.get(i - 2))) {
                    if (Integer.parseInt(token) > 5) {
                        return at(i, 5);
                    }
                    s.tables.add(Integer.parseInt(token));
                }
                s.e.add(new Object[] {token, part});
            }
            return 0;
        }
    }
}
