import java.io.IOException;
import java.io.UncheckedIOException;
import java.nio.charset.StandardCharsets;
import java.nio.file.Files;
import java.nio.file.Path;
import java.util.ArrayList;
import java.util.Arrays;
import java.util.List;
import java.util.function.Consumer;
import java.util.function.Supplier;
import java.util.function.ToLongFunction;

/**
 * What the tests share: the sentence of the document that is looked at, calls with the answer that is due,
 * texts for the tape, and a look at all of a house. Runs in the project's folder.
 */
final class Check {
    static final int NONE = DawnHouse.NONE;
    // A house is good for 512 calls, so that a look at all of it takes several houses made alike.
    private static final int LOOKS_A_HOUSE = 60;
    private static final List<Look> LOOKS = new ArrayList<>();
    private static final List<Look> FUTURES = new ArrayList<>();
    private static String document = null;
    private static String sentence = "";
    private static int sentences = 0;
    private static int checks = 0;
    private static int wrong = 0;

    private Check() {
    }

    private record Look(String call, ToLongFunction<DawnHouse> answer) {
    }

    /** The checks behind this hold to these words, which must stand in the document, where that is at hand. */
    static void sentence(String words) {
        sentence = words;
        sentences++;
        if (document == null) {
            document = documentText();
        }
        if (!document.isEmpty() && !document.contains(words)) {
            fail("the document does not say so");
        }
    }

    private static String documentText() {
        Path path = Path.of("../shared/DOC.md");
        if (!Files.exists(path)) {
            System.out.println("no document at " + path + " to look its sentences up in");
            return "";
        }
        try {
            return Files.readString(path, StandardCharsets.UTF_8).replaceAll("\\s+", " ");
        } catch (IOException e) {
            throw new UncheckedIOException(e);
        }
    }

    private static void fail(String what) {
        wrong++;
        System.out.println("\"" + sentence + "\": " + what);
    }

    static void due(String call, long got, long want) {
        checks++;
        if (got != want) {
            fail(call + " answered " + got + ", due is " + want);
        }
    }

    static void due(String call, boolean got, boolean want) {
        due(call, got ? 1 : 0, want ? 1 : 0);
    }

    static void end() {
        System.out.println(sentences + " sentences, " + checks + " checks, " + wrong + " wrong");
        if (wrong != 0) {
            System.exit(1);
        }
    }

    /** Twenty characters go onto the tape as one call of feed. */
    static int feed(DawnHouse x, String twenty) {
        byte[] b = twenty.getBytes(StandardCharsets.ISO_8859_1);
        return x.feed(word(b, 0), word(b, 4), word(b, 8), word(b, 12), word(b, 16));
    }

    private static int word(byte[] b, int i) {
        return (b[i] & 255) << 24 | (b[i + 1] & 255) << 16 | (b[i + 2] & 255) << 8 | b[i + 3] & 255;
    }

    static void give(DawnHouse x, String text) {
        int whole = (text.length() + 19) / 20 * 20;
        String padded = text + " ".repeat(whole - text.length());
        for (int i = 0; i < whole; i += 20) {
            feed(x, padded.substring(i, i + 20));
        }
        x.back(whole - text.length());
    }

    static int read(DawnHouse x, String text) {
        give(x, text);
        return x.read();
    }

    static DawnHouse houseOf(String text) {
        DawnHouse x = new DawnHouse();
        due("read of " + text, read(x, text), 0);
        return x;
    }

    static DawnHouse ticked(DawnHouse x, int ticks) {
        for (int i = 0; i < ticks; i++) {
            x.tick();
        }
        return x;
    }

    /** The house has a STEP of its own ahead of the text, so that a text that changes something is seen. */
    static void fault(String text, int fault, int place) {
        DawnHouse x = new DawnHouse();
        read(x, "part old takes 3=1;");
        due("read of " + text, read(x, text), fault);
        due("place in " + text, x.place(), place);
        due("tape behind " + text, x.count(7), 0);
        if (fault != 0) {
            due("steps behind " + text, x.count(0), 1);
            due("the old step behind " + text, x.step(0, 1), 3);
        }
    }

    static void fine(String text) {
        fault(text, 0, NONE);
    }

    static String orderOf(DawnHouse x) {
        StringBuilder order = new StringBuilder();
        for (int i = 0; i < x.count(0); i++) {
            order.append(x.order(i));
        }
        return order.toString();
    }

    static void dueOrder(String call, DawnHouse x, String want) {
        String got = orderOf(x);
        due(call + ": order " + got + ", due is " + want, got.equals(want), true);
    }

    /**
     * A house with something of everything: STEPS DONE, UNDER WAY and waiting, an ORDER that is not by
     * numbers, READERS with and without RIGHTS, HELD and not, ROWS had and loaded, bytes on the tape.
     */
    static DawnHouse busyHouse() {
        DawnHouse x = new DawnHouse();
        read(x, "part p takes 1=sum(0)+count(1);report a takes 4 due 3 weight 3=most(1)+p;"
            + "report b takes 1 due 2 weight 5=p*2;part q takes 2=sum(2);report c takes 1 due 9 weight 1=q;");
        x.span(2, 6, 9);
        x.span(5, 1, 399);
        x.reader(255);
        x.reader(5);
        x.reader(0);
        x.reads(1, 0);
        x.reads(2, 0);
        x.reads(2, 1);
        x.reads(4, 2);
        x.hold(1, true);
        x.row(0, 0, 7);
        x.row(0, 2, 9);
        x.row(1, 2, -3);
        x.land(0);
        x.land(1);
        x.plan();
        ticked(x, 3);
        x.row(0, 0, 1);
        x.row(2, 1, 5);
        x.row(2, 2, 6);
        feed(x, "part z takes 1=sum(9");
        return x;
    }

    static void nothingHappens(String call, Supplier<DawnHouse> made, Consumer<DawnHouse> doing) {
        alike(call, () -> {
            DawnHouse x = made.get();
            doing.accept(x);
            return x;
        }, made);
    }

    /** Whatever is asked of the one now or later, the other answers the same. */
    static void alike(String what, Supplier<DawnHouse> one, Supplier<DawnHouse> other) {
        if (LOOKS.isEmpty()) {
            addLooks();
            addFutures();
        }
        DawnHouse x = null;
        DawnHouse y = null;
        for (int i = 0; i < LOOKS.size(); i++) {
            if (i % LOOKS_A_HOUSE == 0) {
                x = one.get();
                y = other.get();
            }
            Look look = LOOKS.get(i);
            due(what + ", then " + look.call, look.answer.applyAsLong(x), look.answer.applyAsLong(y));
        }
        for (Look look : FUTURES) {
            due(what + ", then " + look.call, look.answer.applyAsLong(one.get()), look.answer.applyAsLong(other.get()));
        }
    }

    private static void addLook(String call, ToLongFunction<DawnHouse> answer) {
        LOOKS.add(new Look(call, answer));
    }

    private static void addLooks() {
        for (int i = 0; i < 8; i++) {
            int n = i;
            addLook("count " + n, x -> x.count(n));
            addLook("order " + n, x -> x.order(n));
            addLook("foreseen " + n, x -> x.foreseen(n));
            addLook("sure " + n, x -> x.sure(n));
        }
        for (int k = 0; k < 7; k++) {
            addLooksAtStep(k);
        }
        for (int i = 0; i < 30; i++) {
            int t = i / 5;
            int what = i % 5;
            addLook("table " + t + " " + what, x -> x.table(t, what));
        }
    }

    private static void addLooksAtStep(int k) {
        for (int i = 0; i < 9; i++) {
            int what = i;
            addLook("step " + k + " " + what, x -> x.step(k, what));
            addLook("value " + k + " " + what, x -> x.value(k, what));
        }
        for (int i = 0; i < 6; i++) {
            int r = i;
            addLook("marks " + k + " " + r, x -> x.marks(k, r));
            for (int j = -1; j < 8; j++) {
                int g = j;
                addLook("sent " + k + " " + r + " " + g, x -> x.sent(k, r, g));
            }
        }
    }

    private static void addFutures() {
        for (int i = 0; i < 6; i++) {
            int n = i;
            FUTURES.add(new Look("is held " + n, x -> x.hold(n, true) ? 1 : 0));
            FUTURES.add(new Look("row " + n, x -> x.row(n, 0, 0)));
        }
        FUTURES.add(new Look("reader", x -> x.reader(1)));
        FUTURES.add(new Look("plan", x -> x.plan() * 10000000L + Integer.parseInt("0" + orderOf(x))));
        FUTURES.add(new Look("read", x -> x.read() * 100000L + x.place() * 10L + x.count(0)));
        FUTURES.add(new Look("values after a landing of all", x -> mixed(worked(x), false)));
        FUTURES.add(new Look("what went after a landing of all", x -> mixed(worked(x), true)));
    }

    private static DawnHouse worked(DawnHouse x) {
        for (int t = 0; t < 6; t++) {
            x.land(t);
        }
        return ticked(x, 9);
    }

    private static long mixed(DawnHouse x, boolean sent) {
        long mix = 0;
        for (int k = 0; k < 7; k++) {
            for (int i = 0; i < 8; i++) {
                mix = mix * 31 + (sent ? x.sent(k, i, NONE) : x.value(k, i));
            }
        }
        return mix;
    }

    /** Numbers at, about and far from every limit, those among them that a shift takes for small ones. */
    static int[] edges() {
        return new int[] {Integer.MIN_VALUE, Integer.MIN_VALUE + 1, -257, -65, -33, -32, -31, -2, -1, 0, 1, 2, 3, 4, 5, 6, 7,
            8, 9, 20, 31, 32, 33, 39, 40, 41, 63, 64, 65, 255, 256, 257, 398, 399, 400, 401, 1999, 2000, 2001,
            Integer.MAX_VALUE - 1, Integer.MAX_VALUE};
    }

    static String join(String between, String[] words, int n) {
        return String.join(between, Arrays.asList(words).subList(0, n));
    }
}
