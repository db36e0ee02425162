/**
 * Tables, readers, hosts, work and sendings: each sentence of the document that names a boundary case
 * (Terms I and III, promises 1, 6 to 14 and 19 to 24).
 */
public final class DawnHouseBoundsHouse {
    private static final int NONE = DawnHouse.NONE;

    public static void main(String[] args) {
        callsOfOneObject();
        ticksFromTo();
        tablesAtMost();
        spansAtFirst();
        rowsAtMost();
        landings();
        landingLeavesOthers();
        readersAtMost();
        readersAtFirst();
        hostsFromTo();
        doneOrUnderWay();
        landingUndoes();
        landingLosesWork();
        ready();
        oneMore();
        hostsBegin();
        eachWorks();
        ticksThatItTakes();
        readyInTheNextTick();
        valueAsTablesAreThen();
        orderAheadOfAny();
        goesToReaders();
        seesItsRights();
        firstSinceTheText();
        anythingThatDiffers();
        heldAndNoMore();
        fullHouse();
        none();
        newObject();
        spanRefused();
        rowRefused();
        landAnswers();
        readerRefused();
        rightsRefused();
        holdRefused();
        readsRefused();
        hostsRefused();
        tickRefused();
        stepToldByText();
        stepAnswers();
        valueAnswers();
        sentAnswers();
        marksAnswers();
        tableAnswers();
        countAnswers();
        Check.end();
    }

    private static void sentence(String words) {
        Check.sentence(words);
    }

    private static void due(String call, long got, long want) {
        Check.due(call, got, want);
    }

    private static void due(String call, boolean got, boolean want) {
        Check.due(call, got, want);
    }

    private static void callsOfOneObject() {
        sentence("An object is used for at most 512 calls after it has been made");
        DawnHouse x = Check.ticked(new DawnHouse(), 399);
        for (int n = 1; n <= 112; n++) {
            due("land", x.land(0), n);
        }
        due("the 512th call", x.table(0, 0), 112);
        DawnHouse y = new DawnHouse();
        Check.read(y, "part a takes 1=sum(0);");
        for (int n = 1; n <= 250; n++) {
            y.land(0);
            due("tick", y.tick(), n);
        }
        due("state", y.table(0, 0), 250);
        due("how often it got done", y.step(0, 7), 250);
    }

    private static void ticksFromTo() {
        sentence("TICKS go by from 0 to 399.");
        DawnHouse x = new DawnHouse();
        due("the tick at first", x.count(2), 0);
        for (int n = 1; n <= 399; n++) {
            due("tick", x.tick(), n);
        }
        due("the tick at last", x.count(2), 399);
        due("one more", x.tick(), NONE);
        due("and again", x.tick(), NONE);
        due("the tick at last", x.count(2), 399);
    }

    private static void tablesAtMost() {
        sentence("TABLES, 6 at most");
        DawnHouse x = new DawnHouse();
        for (int t = 0; t < 6; t++) {
            due("span", x.span(t, t + 1, 10 * t + 10), true);
            for (int n = 0; n <= t; n++) {
                due("land", x.land(t), n + 1);
            }
            for (int n = 0; n <= t; n++) {
                due("row", x.row(t, t, n), n + 1);
            }
            due("land", x.land(t), t + 2);
            due("row", x.row(t, 0, 1), 1);
        }
        for (int t = 0; t < 6; t++) {
            int[] want = {t + 2, t + 1, 1, t + 1, 10 * t + 10};
            for (int what = 0; what < 5; what++) {
                due("table " + t + " " + what, x.table(t, what), want[what]);
            }
        }
        for (int t : new int[] {-1, 6, 7, 32, Integer.MIN_VALUE, Integer.MAX_VALUE}) {
            due("span of table " + t, x.span(t, 0, 0), false);
            due("row of table " + t, x.row(t, 0, 0), NONE);
            due("land of table " + t, x.land(t), NONE);
            due("state of table " + t, x.table(t, 0), NONE);
        }
    }

    private static void spansAtFirst() {
        sentence("each has a SPAN of TICKS in which it is to land (0 .. 0 at first).");
        DawnHouse x = new DawnHouse();
        for (int t = 0; t < 6; t++) {
            due("begin of " + t, x.table(t, 3), 0);
            due("end of " + t, x.table(t, 4), 0);
        }
        x.span(3, 0, 399);
        due("the least begin", x.table(3, 3), 0);
        due("the most end", x.table(3, 4), 399);
        due("another", x.table(2, 4), 0);
    }

    private static void rowsAtMost() {
        sentence("ROWS, 40 at most, of a GROUP (0 .. 7) and a value are loaded for a TABLE");
        DawnHouse x = new DawnHouse();
        for (int t = 0; t < 6; t++) {
            for (int n = 1; n <= 40; n++) {
                due("row", x.row(t, n % 8, n), n);
            }
            due("a 41st", x.row(t, 0, 1), NONE);
            due("loaded", x.table(t, 2), 40);
        }
        x.land(4);
        due("rows it has", x.table(4, 1), 40);
        for (int n = 1; n <= 40; n++) {
            due("row beside those it has", x.row(4, 7, n), n);
        }
        due("a 41st", x.row(4, 7, 1), NONE);
        due("rows it has", x.table(4, 1), 40);
        due("loaded", x.table(4, 2), 40);
        DawnHouse y = Check.houseOf("part a takes 1=sum(0);part b takes 1=count(0);");
        for (int n = 0; n < 41; n++) {
            y.row(0, 3, 5);
        }
        y.land(0);
        Check.ticked(y, 2);
        due("the 41st is not in the sum", y.value(0, 3), 200);
        due("nor in the count", y.value(1, 3), 40);
    }

    private static void landings() {
        sentence("when it LANDS, its STATE is one more (0 at first: it never did), and what was loaded since it landed last is all that it has.");
        DawnHouse x = Check.houseOf("part a takes 1=sum(0);");
        due("state at first", x.table(0, 0), 0);
        due("land without a row", x.land(0), 1);
        due("rows it has", x.table(0, 1), 0);
        x.tick();
        due("value without a row", x.value(0, 0), 0);
        x.row(0, 0, 5);
        x.row(0, 0, 6);
        due("loaded", x.table(0, 2), 2);
        due("rows it has", x.table(0, 1), 0);
        due("land", x.land(0), 2);
        due("loaded then", x.table(0, 2), 0);
        due("rows it has then", x.table(0, 1), 2);
        x.tick();
        due("value", x.value(0, 0), 11);
        x.row(0, 1, 7);
        due("land", x.land(0), 3);
        due("rows since the last", x.table(0, 1), 1);
        x.tick();
        due("value of what was loaded since", x.value(0, 1), 7);
        due("what was there before is gone", x.value(0, 0), 0);
        due("land with nothing loaded since", x.land(0), 4);
        x.tick();
        due("all is gone", x.value(0, 1), 0);
        due("another table never landed", x.table(1, 0), 0);
    }

    private static void landingLeavesOthers() {
        sentence("and what was loaded since it landed last is all that it has.");
        for (int t = 0; t < 6; t++) {
            DawnHouse x = Check.houseOf("part a takes 1=sum(0);part b takes 1=sum(1);part c takes 1=sum(2);"
                + "part d takes 1=sum(3);part e takes 1=sum(4);part f takes 1=sum(5);");
            for (int i = 0; i < 48; i++) {
                x.row(i / 8, i % 8, i + 1);
            }
            x.land(t);
            for (int table = 0; table < 6; table++) {
                due("loaded for " + table + ", " + t + " landed", x.table(table, 2), table == t ? 0 : 8);
                due("had by " + table + ", " + t + " landed", x.table(table, 1), table == t ? 8 : 0);
            }
            for (int table = 0; table < 6; table++) {
                if (table != t) {
                    x.land(table);
                }
            }
            Check.ticked(x, 6);
            for (int i = 0; i < 48; i++) {
                due("row of " + i / 8 + " in " + i % 8 + ", " + t + " landed first", x.value(i / 8, i % 8), i + 1);
            }
        }
    }

    private static void readersAtMost() {
        sentence("READERS, 6 at most");
        DawnHouse x = new DawnHouse();
        for (int r = 0; r < 6; r++) {
            due("reader", x.reader(r), r);
            due("readers", x.count(1), r + 1);
        }
        due("a seventh", x.reader(0), NONE);
        due("readers", x.count(1), 6);
        DawnHouse y = Check.houseOf("report a takes 1 due 9 weight 1=7;");
        for (int r = 0; r < 7; r++) {
            y.reader(1 << r);
            due("reads", y.reads(0, r), r < 6);
        }
        y.tick();
        for (int r = 0; r < 7; r++) {
            due("marks of " + r, y.marks(0, r), r < 6 ? 1 : NONE);
            due("what went to " + r, y.sent(0, r, r), r < 6 ? 7 : 0);
        }
    }

    private static void readersAtFirst() {
        sentence("RIGHTS (GROUPS as bits), HELD or not (not at first).");
        DawnHouse x = Check.houseOf("report a takes 1 due 9 weight 1=7;");
        due("least rights", x.reader(0), 0);
        due("most rights", x.reader(255), 1);
        due("the first group", x.reader(1), 2);
        due("the last group", x.reader(128), 3);
        for (int r = 0; r < 4; r++) {
            x.reads(0, r);
        }
        x.tick();
        long[] all = {0, 56, 7, 7};
        for (int r = 0; r < 4; r++) {
            due("marks", x.marks(0, r), 1);
            due("all together", x.sent(0, r, NONE), all[r]);
            due("the first group", x.sent(0, r, 0), r == 1 || r == 2 ? 7 : 0);
            due("the last group", x.sent(0, r, 7), r == 1 || r == 3 ? 7 : 0);
            due("not held at first", x.hold(r, false), false);
            due("held", x.hold(r, true), true);
        }
    }

    private static void hostsFromTo() {
        sentence("HOSTS: 1 .. 3 (1 at first).");
        String text = "part a takes 9=1;part b takes 9=1;part c takes 9=1;part d takes 9=1;";
        due("hosts at first", new DawnHouse().count(3), 1);
        due("under way at first", Check.ticked(Check.houseOf(text), 1).count(4), 1);
        for (int n = 0; n <= 4; n++) {
            DawnHouse x = Check.houseOf(text);
            boolean fits = n >= 1 && n <= 3;
            due("hosts " + n, x.hosts(n), fits);
            due("hosts", x.count(3), fits ? n : 1);
            x.tick();
            due("under way with " + n, x.count(4), fits ? n : 1);
        }
    }

    private static void doneOrUnderWay() {
        sentence("A STEP is DONE or not, or UNDER WAY at a HOST.");
        DawnHouse x = Check.houseOf("part a takes 2=1;part b takes 2=1;");
        int[][] want = {{0, 0, 0, 0}, {1, 0, 1, 0}, {2, 0, 0, 1}, {2, 1, 1, 1}, {2, 2, 0, 2}, {2, 2, 0, 2}};
        for (int[] states : want) {
            due("a", x.step(0, 5), states[0]);
            due("b", x.step(1, 5), states[1]);
            due("under way", x.count(4), states[2]);
            due("done", x.count(5), states[3]);
            x.tick();
        }
    }

    private static final String CHAIN = "part a takes 1=sum(0);part b takes 1=a+sum(1);part c takes 1=b+sum(2);part d takes 1=c+sum(3);"
        + "part e takes 1=d+sum(4);report f takes 1 due 9 weight 1=e+sum(5);report g takes 1 due 9 weight 1=7;";

    private static void landingUndoes() {
        sentence("When a TABLE LANDS, all STEPS that NEED it, or a part that NEEDS it, and so on, are not DONE any more");
        for (int t = 0; t < 6; t++) {
            DawnHouse x = Check.houseOf(CHAIN);
            for (int table = 0; table < 6; table++) {
                x.land(table);
            }
            Check.ticked(x, 7);
            due("done", x.count(5), 7);
            x.land(t);
            for (int k = 0; k < 7; k++) {
                boolean undone = k >= t && k < 6;
                due("step " + k + ", table " + t + " landed", x.step(k, 5), undone ? 0 : 2);
                due("its tick", x.step(k, 6), undone ? NONE : k + 1);
                due("its times", x.step(k, 7), 1);
            }
            Check.ticked(x, 7);
            due("done again", x.count(5), 7);
            due("how often the chain's last got done", x.step(5, 7), 2);
            due("how often what needs nothing got done", x.step(6, 7), 1);
        }
    }

    private static void landingLosesWork() {
        sentence("and if they are UNDER WAY that is lost.");
        DawnHouse x = Check.houseOf("part p takes 1=sum(1);part a takes 20=sum(0);part b takes 20=p;part c takes 20=1;");
        x.hosts(3);
        x.land(0);
        x.land(1);
        Check.ticked(x, 20);
        due("worked at a", x.step(1, 8), 0);
        due("a is done", x.step(1, 6), 20);
        due("worked at b, a tick later", x.step(2, 8), 19);
        due("c is done", x.step(3, 6), 20);
        x.land(1);
        due("b is lost", x.step(2, 5), 0);
        due("with its ticks", x.step(2, 8), 0);
        due("nothing is under way", x.count(4), 0);
        due("a is done still", x.step(1, 5), 2);
        Check.ticked(x, 2);
        due("b begins from nothing", x.step(2, 8), 1);
        x.land(0);
        due("b, which does not need it, goes on", x.step(2, 8), 1);
        Check.ticked(x, 18);
        due("b is not done by what was lost", x.step(2, 5), 1);
        x.tick();
        due("b is done", x.step(2, 6), 41);
        due("a takes all its ticks again", x.step(1, 8), 19);
        x.land(0);
        due("lost in the last tick but one", x.step(1, 8), 0);
        due("hosts may change", x.hosts(1), true);
        for (int t = 0; t < 3; t++) {
            DawnHouse y = Check.houseOf("part a takes 5=sum(0);part b takes 5=sum(1);part c takes 5=sum(2);part d takes 5=1;");
            y.hosts(3);
            for (int table = 0; table < 3; table++) {
                y.land(table);
            }
            Check.ticked(y, 3);
            y.land(t);
            due("lost at host " + t, y.count(4), 2);
            y.tick();
            for (int k = 0; k < 4; k++) {
                due("its host begins it anew, others go on: " + k, y.step(k, 8), k == t ? 1 : k < 3 ? 4 : 0);
            }
            Check.ticked(y, 4);
            due("done anew", y.step(t, 6), 8);
        }
    }

    private static void ready() {
        sentence("A STEP is READY if it is not DONE, not UNDER WAY, its TABLES have a STATE above 0, and its parts are DONE.");
        DawnHouse x = Check.houseOf("part a takes 2=sum(0)+sum(5);part b takes 1=a+sum(1);part c takes 1=a;");
        x.hosts(3);
        x.tick();
        due("without tables nothing is ready", x.count(4) + x.count(5), 0);
        x.land(0);
        x.tick();
        due("one of two tables is not enough", x.step(0, 5), 0);
        x.land(1);
        x.tick();
        due("b's table without its part is not enough", x.step(1, 5), 0);
        x.land(5);
        x.tick();
        due("a is ready", x.step(0, 5), 1);
        due("one that is under way is not begun twice", x.count(4), 1);
        x.tick();
        due("a is done", x.step(0, 5), 2);
        x.tick();
        due("b and c were ready", x.count(5), 3);
        Check.ticked(x, 3);
        due("one that is done is not begun again", x.step(0, 7) + x.step(1, 7) + x.step(2, 7), 3);
    }

    private static void oneMore() {
        sentence("A TICK: it is one more;");
        DawnHouse x = Check.houseOf("part a takes 1=1;");
        due("tick", x.tick(), 1);
        due("a got done in the one that is now", x.step(0, 6), 1);
        due("tick with nothing to do", x.tick(), 2);
        due("tick of a house without steps", Check.ticked(new DawnHouse(), 8).tick(), 9);
    }

    private static void eachWorks() {
        sentence("then each that has something works a TICK at it");
        DawnHouse x = Check.houseOf("part a takes 3=1;part b takes 5=1;part c takes 2=1;part d takes 9=1;");
        x.hosts(3);
        int[][] worked = {{1, 1, 1, 0}, {2, 2, 0, 0}, {0, 3, 0, 1}, {0, 4, 0, 2}, {0, 0, 0, 3}};
        for (int[] ticks : worked) {
            x.tick();
            for (int k = 0; k < 4; k++) {
                due("worked at " + k + " in tick " + x.count(2), x.step(k, 8), ticks[k]);
            }
        }
    }

    private static void hostsBegin() {
        sentence("then each HOST, by numbers, that has nothing UNDER WAY begins the first READY STEP by the ORDER");
        DawnHouse x = Check.houseOf("report a takes 2 due 0 weight 1=1;report b takes 2 due 0 weight 5=1;report c takes 2 due 0 weight 9=1;"
            + "report d takes 2 due 0 weight 2=sum(0);");
        x.span(0, 9, 9);
        x.plan();
        Check.dueOrder("plan", x, "2103");
        x.hosts(2);
        x.tick();
        due("c and b", x.step(2, 5) * 10 + x.step(1, 5), 11);
        due("not a", x.step(0, 5), 0);
        x.tick();
        due("both are done, and their hosts begin nothing in that tick", x.count(5) * 10 + x.count(4), 20);
        x.tick();
        due("a alone is left that is ready", x.count(4), 1);
        x.land(0);
        x.tick();
        due("the other host begins d", x.step(3, 8), 1);
        due("a is done", x.step(0, 6), 4);
        x.tick();
        due("d is done", x.step(3, 6), 5);
        x.tick();
        due("nothing is left", x.count(4), 0);
    }

    private static void ticksThatItTakes() {
        sentence("with as many TICKS as it takes it is DONE");
        for (int takes = 1; takes <= 20; takes++) {
            DawnHouse x = Check.houseOf("part a takes " + takes + "=1;");
            for (int n = 1; n < takes; n++) {
                x.tick();
                due("under way", x.step(0, 5), 1);
                due("worked", x.step(0, 8), n);
            }
            x.tick();
            due("done", x.step(0, 5), 2);
            due("its tick", x.step(0, 6), takes);
            due("worked, being done", x.step(0, 8), 0);
        }
    }

    private static void readyInTheNextTick() {
        sentence("(so that others are READY in the next TICK)");
        DawnHouse x = Check.houseOf("part a takes 1=1;part b takes 1=a;part c takes 1=b;part d takes 1=c;");
        x.hosts(3);
        for (int n = 1; n <= 4; n++) {
            x.tick();
            due("done in tick " + n, x.count(5), n);
            due("its tick", x.step(n - 1, 6), n);
            due("the next waits", x.step(n, 5), n < 4 ? 0 : NONE);
        }
    }

    private static void valueAsTablesAreThen() {
        sentence("by E as TABLES and parts are then.");
        DawnHouse x = Check.houseOf("part a takes 1=sum(0);part b takes 3=a+1;");
        x.row(0, 0, 5);
        x.land(0);
        Check.ticked(x, 2);
        x.row(0, 0, 100);
        Check.ticked(x, 2);
        due("what is loaded only does not count", x.value(1, 0), 6);
        x.land(0);
        due("no value while it is not done", x.value(1, 0), 0);
        Check.ticked(x, 3);
        due("nor while it is under way", x.value(1, 0), 0);
        x.tick();
        due("the new rows", x.value(1, 0), 101);
    }

    private static void orderAheadOfAny() {
        sentence("THE ORDER is that of the latest plan(), by STEPS' numbers ahead of any.");
        String text = "report a takes 1 due 0 weight 1=1;report b takes 1 due 0 weight 2=1;";
        DawnHouse x = Check.houseOf(text);
        Check.dueOrder("ahead of any plan", x, "01");
        x.foreseen(0);
        x.sure(0);
        Check.dueOrder("looking ahead is no plan", x, "01");
        due("plan", x.plan(), 2 + 2);
        Check.dueOrder("plan", x, "10");
        x.hosts(3);
        Check.dueOrder("until the next plan", x, "10");
        x.plan();
        Check.dueOrder("the latest", x, "01");
        x.hosts(1);
        x.plan();
        Check.read(x, "?");
        Check.dueOrder("a text with a fault is none", x, "10");
        Check.read(x, text);
        Check.dueOrder("ahead of any plan of the new text", x, "01");
        x.tick();
        due("and so it is worked", x.step(0, 6), 1);
    }

    private static DawnHouse readByAll(String text, int rights) {
        DawnHouse x = Check.houseOf(text);
        for (int r = 0; r < 6; r++) {
            x.reader(rights);
            x.reads(0, r);
        }
        return x;
    }

    private static void goesToReaders() {
        sentence("SENDING: a report that gets DONE goes to each of its READERS, by numbers, who is not HELD");
        for (int held = 0; held < 64; held++) {
            DawnHouse x = readByAll("report a takes 2 due 9 weight 1=7;report b takes 1 due 9 weight 1=8;", 255);
            for (int r = 0; r < 6; r++) {
                x.hold(r, (held >> r & 1) != 0);
            }
            x.tick();
            due("nothing goes while it is under way", x.count(6), 0);
            Check.ticked(x, 2);
            for (int r = 0; r < 6; r++) {
                boolean goes = (held >> r & 1) == 0;
                due("marks of " + r, x.marks(0, r), goes ? 1 : 0);
                due("what went to " + r, x.sent(0, r, r), goes ? 7 : 0);
                due("of what it does not read", x.sent(1, r, r), 0);
            }
            due("marks of all", x.count(6), 6 - Integer.bitCount(held));
        }
    }

    private static void seesItsRights() {
        sentence("what it may see now, that is the eight longs of its RIGHTS, 0 for others, goes");
        for (int rights = 0; rights < 256; rights++) {
            DawnHouse x = Check.houseOf("report a takes 1 due 9 weight 1=sum(0)+1;");
            x.reader(255 - rights);
            x.reads(0, 0);
            due("rights", x.rights(0, rights), true);
            long all = 0;
            for (int group = 0; group < 8; group++) {
                x.row(0, group, 10 * group);
                all += (rights >> group & 1) * (10 * group + 1);
            }
            x.land(0);
            x.tick();
            for (int group = 0; group < 8; group++) {
                due("group " + group + " by " + rights, x.sent(0, 0, group), (rights >> group & 1) * (10 * group + 1));
            }
            due("all together", x.sent(0, 0, NONE), all);
        }
    }

    private static void firstSinceTheText() {
        sentence("if it is the first of this report for this READER since the text");
        DawnHouse x = readByAll("report a takes 1 due 9 weight 1=0;report b takes 1 due 9 weight 1=0;", 0);
        x.reads(1, 5);
        x.tick();
        due("the first goes, be it all 0", x.marks(0, 0), 1);
        due("to each", x.count(6), 6);
        x.tick();
        due("of each report", x.marks(1, 5), 1);
        Check.read(x, "report a takes 1 due 9 weight 1=0;");
        x.reads(0, 3);
        x.tick();
        due("the first since this text", x.marks(0, 3), 1);
        due("marks of all", x.count(6), 1);
    }

    private static void anythingThatDiffers() {
        sentence("or anything of that differs from what went last; it has a MARK more then.");
        for (int group = 0; group < 8; group++) {
            DawnHouse x = Check.houseOf("report a takes 1 due 9 weight 1=sum(0);");
            x.reader(1 << group);
            x.reader(255 - (1 << group));
            x.reads(0, 0);
            x.reads(0, 1);
            int[] values = {5, 5, 6, 5, 0, 0, Integer.MIN_VALUE};
            int[] marks = {1, 1, 2, 3, 4, 4, 5};
            for (int n = 0; n < values.length; n++) {
                x.row(0, group, values[n]);
                x.land(0);
                x.tick();
                due("marks with " + values[n], x.marks(0, 0), marks[n]);
                due("what went", x.sent(0, 0, group), values[n]);
                due("for one without the right nothing differs", x.marks(0, 1), 1);
            }
            due("marks of all", x.count(6), 6);
        }
        DawnHouse y = Check.houseOf("report a takes 1 due 9 weight 1=sum(0);");
        y.reader(3);
        y.reads(0, 0);
        y.row(0, 0, 4);
        y.row(0, 1, 9);
        y.land(0);
        y.tick();
        y.row(0, 0, 9);
        y.row(0, 1, 4);
        y.land(0);
        y.tick();
        due("it differs, though not all together", y.marks(0, 0), 2);
        y.rights(0, 1);
        y.row(0, 0, 9);
        y.row(0, 1, 4);
        y.land(0);
        y.tick();
        due("it differs by its rights", y.marks(0, 0), 3);
        due("what went last", y.sent(0, 0, NONE), 9);
    }

    private static void heldAndNoMore() {
        sentence("One who was HELD and is no more gets at once, likewise, all its reports, by STEPS, that are DONE.");
        DawnHouse x = Check.houseOf("report a takes 1 due 9 weight 1=sum(0);report b takes 1 due 9 weight 1=1;"
            + "report c takes 1 due 9 weight 1=2;report d takes 2 due 9 weight 1=3;part e takes 1=4;");
        x.reader(255);
        x.reads(0, 0);
        x.reads(1, 0);
        x.reads(3, 0);
        x.hold(0, true);
        x.row(0, 0, 5);
        x.land(0);
        Check.ticked(x, 4);
        due("held: nothing goes", x.count(6), 0);
        due("no more", x.hold(0, false), true);
        due("a goes at once", x.sent(0, 0, 0) * 10 + x.marks(0, 0), 51);
        due("b goes at once", x.sent(1, 0, 0) * 10 + x.marks(1, 0), 11);
        due("c, which it does not read, does not", x.sent(2, 0, 0), 0);
        due("d, which is under way, does not", x.marks(3, 0), 0);
        x.hold(0, true);
        due("no more, and nothing differs", x.hold(0, false), true);
        due("marks of all", x.count(6), 2);
        x.hold(0, true);
        for (int v = 6; v <= 8; v++) {
            x.row(0, 0, v);
            x.land(0);
            Check.ticked(x, 3);
        }
        x.hold(0, false);
        due("one mark for all that it missed", x.marks(0, 0), 2);
        due("what is now", x.sent(0, 0, 0), 8);
        due("d, done in between", x.marks(3, 0), 1);
        x.hold(0, true);
        x.row(0, 0, 9);
        x.land(0);
        x.hold(0, false);
        due("what is not done any more does not go", x.sent(0, 0, 0) * 10 + x.marks(0, 0), 82);
        x.hold(0, true);
        x.rights(0, 2);
        x.hold(0, false);
        due("likewise by rights: b", x.marks(1, 0), 2);
        due("b, where it has no right any more", x.sent(1, 0, 0), 0);
        due("a is not done", x.marks(0, 0), 2);
        DawnHouse y = Check.ticked(Check.houseOf("report a takes 1 due 9 weight 1=7;"), 1);
        y.reader(255);
        y.hold(0, true);
        y.reads(0, 0);
        y.hold(0, false);
        due("one that it reads only since it was done", y.marks(0, 0), 1);
    }

    // What a step is, differs by step and group; what a reader sees, by its rights: no two of 42 go to one place.
    private static void fullHouse() {
        sentence("READERS, 6 at most: RIGHTS (GROUPS as bits)");
        StringBuilder text = new StringBuilder();
        for (int k = 0; k < 7; k++) {
            text.append("report r").append(k).append(" takes 1 due 9 weight 9=sum(0)+").append(100 * k).append(";");
        }
        DawnHouse x = Check.houseOf(text.toString());
        for (int r = 0; r < 6; r++) {
            due("reader", x.reader(255 - (1 << r)), r);
            for (int k = 0; k < 7; k++) {
                due("reads", x.reads(k, r), true);
            }
        }
        for (int group = 0; group < 8; group++) {
            x.row(0, group, group + 1);
        }
        x.land(0);
        Check.ticked(x, 7);
        for (int r = 5; r >= 0; r--) {
            x.rights(r, 1 << r);
            x.hold(r, true);
            x.hold(r, false);
        }
        due("marks of all", x.count(6), 84);
        for (int i = 0; i < 42; i++) {
            int k = i / 6;
            int r = i % 6;
            due("marks of " + k + " for " + r, x.marks(k, r), 2);
            due("what went of " + k + " to " + r, x.sent(k, r, r), 100 * k + r + 1);
            due("where it had rights before", x.sent(k, r, 7 - r), 0);
            due("all together", x.sent(k, r, NONE), 100 * k + r + 1);
        }
    }

    private static void none() {
        sentence("public static final int NONE = -1;");
        due("NONE", DawnHouse.NONE, -1);
    }

    private static void newObject() {
        sentence("TICK 0; nothing is there.");
        DawnHouse x = new DawnHouse();
        int[] counts = {0, 0, 0, 1, 0, 0, 0, 0};
        for (int what = 0; what < 8; what++) {
            due("count " + what, x.count(what), counts[what]);
        }
        for (int k = -1; k <= 7; k++) {
            due("order", x.order(k), NONE);
            due("foreseen", x.foreseen(k), NONE);
            due("sure", x.sure(k), NONE);
            due("step", x.step(k, 0), NONE);
            due("value", x.value(k, 0), 0);
            due("sent", x.sent(k, 0, 0), 0);
            due("marks", x.marks(k, 0), NONE);
            due("reads", x.reads(k, 0), false);
            due("rights", x.rights(k, 0), false);
            due("hold", x.hold(k, true), false);
        }
        for (int i = 0; i < 30; i++) {
            due("table", x.table(i / 5, i % 5), 0);
        }
        due("place", x.place(), NONE);
        due("back", x.back(1), NONE);
        due("plan", x.plan(), 0);
        due("tick", x.tick(), 1);
        DawnHouse y = new DawnHouse();
        y.land(0);
        due("what is done with one object is not there in another", x.table(0, 0), 0);
    }

    private static void spanRefused() {
        sentence("A TABLE's SPAN becomes a .. b: true; false: no such TABLE (0 .. 5), a not 0 .. b, b above 399.");
        for (int a : Check.edges()) {
            DawnHouse x = new DawnHouse();
            x.span(5, 11, 22);
            int begin = 11;
            int end = 22;
            for (int b : Check.edges()) {
                boolean fits = a >= 0 && a <= b && b <= 399;
                begin = fits ? a : begin;
                end = fits ? b : end;
                due("span " + a + " " + b, x.span(5, a, b), fits);
                due("begin", x.table(5, 3), begin);
                due("end", x.table(5, 4), end);
            }
        }
        for (int t : Check.edges()) {
            due("span of table " + t, new DawnHouse().span(t, 1, 2), t >= 0 && t <= 5);
        }
    }

    private static void rowRefused() {
        sentence("A ROW is loaded for a TABLE: how many are loaded. NONE, and nothing happens: no such TABLE, GROUP; 40 are loaded.");
        for (int t : Check.edges()) {
            due("row of table " + t, new DawnHouse().row(t, 0, 1), t >= 0 && t <= 5 ? 1 : NONE);
            due("row of group " + t, new DawnHouse().row(0, t, 1), t >= 0 && t <= 7 ? 1 : NONE);
            due("row of value " + t, new DawnHouse().row(5, 7, t), 1);
        }
        DawnHouse x = new DawnHouse();
        for (int n = 1; n <= 45; n++) {
            due("row", x.row(2, 0, n), n <= 40 ? n : NONE);
            due("a wrong group", x.row(2, 8, n), NONE);
            due("loaded", x.table(2, 2), Math.min(n, 40));
        }
        x.land(2);
        due("row behind a landing", x.row(2, 0, 1), 1);
    }

    private static void landAnswers() {
        sentence("A TABLE LANDS: its STATE. NONE: no such TABLE.");
        for (int t : Check.edges()) {
            DawnHouse x = new DawnHouse();
            boolean fits = t >= 0 && t <= 5;
            due("land " + t, x.land(t), fits ? 1 : NONE);
            due("land " + t + " again", x.land(t), fits ? 2 : NONE);
            int all = 0;
            for (int table = 0; table < 6; table++) {
                all += x.table(table, 0);
            }
            due("landings of all", all, fits ? 2 : 0);
        }
    }

    private static void readerRefused() {
        sentence("A READER: its number. NONE, and nothing happens: 6 are there, rights not 0 .. 255.");
        for (int rights : Check.edges()) {
            DawnHouse x = new DawnHouse();
            boolean fits = rights >= 0 && rights <= 255;
            due("reader " + rights, x.reader(rights), fits ? 0 : NONE);
            due("readers", x.count(1), fits ? 1 : 0);
            due("the next", x.reader(255), fits ? 1 : 0);
        }
        DawnHouse y = new DawnHouse();
        for (int r = 0; r < 8; r++) {
            due("reader", y.reader(255), r < 6 ? r : NONE);
            due("readers", y.count(1), Math.min(r + 1, 6));
        }
    }

    private static void rightsRefused() {
        sentence("RIGHTS of a READER become these: true; false: no such ones. (What went stays.)");
        for (int n : Check.edges()) {
            DawnHouse x = Check.houseOf("report a takes 1 due 9 weight 1=7;");
            x.reader(9);
            x.reader(9);
            x.reads(0, 1);
            boolean fits = n >= 0 && n <= 255;
            due("rights " + n, x.rights(1, n), fits);
            due("rights of reader " + n, x.rights(n, 9), n == 0 || n == 1);
            x.tick();
            due("what goes", x.sent(0, 1, NONE), 7 * Integer.bitCount(fits && n != 1 ? n : 9));
        }
        DawnHouse y = Check.houseOf("report a takes 1 due 9 weight 1=7;");
        y.reader(255);
        y.reads(0, 0);
        y.tick();
        due("rights", y.rights(0, 0), true);
        due("the same again", y.rights(0, 0), true);
        due("what went stays", y.sent(0, 0, NONE), 56);
        due("nothing goes", y.marks(0, 0), 1);
    }

    private static void holdRefused() {
        sentence("A READER is HELD, or no more: true; false: there is none such, or it is so.");
        DawnHouse x = new DawnHouse();
        x.reader(1);
        x.reader(1);
        for (int r : Check.edges()) {
            boolean there = r == 0 || r == 1;
            due("no more held " + r, x.hold(r, false), false);
            due("hold " + r, x.hold(r, true), there);
            due("hold " + r + " again", x.hold(r, true), false);
            due("no more " + r, x.hold(r, false), there);
            due("no more " + r + " again", x.hold(r, false), false);
        }
        x.hold(0, true);
        due("another is not held by that", x.hold(1, false), false);
    }

    private static void readsRefused() {
        sentence("A READER reads a report from now on (nothing goes by that alone): true; false: no such ones, a part, or it does.");
        for (int n : Check.edges()) {
            DawnHouse x = Check.houseOf("part p takes 1=1;report a takes 1 due 9 weight 1=p;report b takes 1 due 9 weight 1=p;");
            x.reader(255);
            x.reader(255);
            Check.ticked(x, 3);
            due("reads " + n + " by 0", x.reads(n, 0), n == 1 || n == 2);
            due("reads " + n + " by 0 again", x.reads(n, 0), false);
            due("reads 2 by " + n, x.reads(2, n), n == 1 || n == 0);
            due("reads 2 by " + n + " again", x.reads(2, n), false);
            due("nothing goes by that", x.count(6), 0);
        }
        DawnHouse y = Check.houseOf("report a takes 1 due 9 weight 1=sum(0);");
        y.reader(255);
        y.land(0);
        y.tick();
        y.reads(0, 0);
        y.land(0);
        y.tick();
        due("from now on", y.marks(0, 0), 1);
    }

    private static void hostsRefused() {
        sentence("HOSTS become n: true; false for others, or if something is UNDER WAY.");
        for (int n : Check.edges()) {
            DawnHouse x = Check.houseOf("part a takes 2=1;");
            x.hosts(2);
            boolean fits = n >= 1 && n <= 3;
            due("hosts " + n, x.hosts(n), fits);
            due("hosts", x.count(3), fits ? n : 2);
            x.tick();
            due("hosts " + n + " while under way", x.hosts(n), false);
            due("hosts", x.count(3), fits ? n : 2);
            x.tick();
            due("hosts " + n + " when it is done", x.hosts(n), fits);
        }
        DawnHouse y = Check.houseOf("part a takes 2=sum(0);");
        y.land(0);
        y.tick();
        due("while under way", y.hosts(3), false);
        y.land(0);
        due("when it is lost", y.hosts(3), true);
    }

    private static void tickRefused() {
        sentence("A TICK: the one that is now. NONE, and nothing happens: 399 is now.");
        DawnHouse x = Check.ticked(new DawnHouse(), 397);
        Check.read(x, "part a takes 2=1;part b takes 2=1;");
        due("tick", x.tick(), 398);
        due("tick", x.tick(), 399);
        due("a is done in the last", x.step(0, 6), 399);
        due("beyond", x.tick(), NONE);
        due("the tick", x.count(2), 399);
        due("b is not begun", x.step(1, 5), 0);
        DawnHouse y = Check.ticked(new DawnHouse(), 398);
        Check.read(y, "part a takes 2=1;");
        due("tick", y.tick(), 399);
        due("beyond", y.tick(), NONE);
        due("a is not worked at any more", y.step(0, 8), 1);
        due("a is not done", y.step(0, 5), 1);
    }

    private static void stepToldByText() {
        sentence("Of a STEP: what 0: 1 a report, 0 a part, 1: takes, 2: due, 3: weight (0 of parts), 4: TABLES that it NEEDS, by parts too (bits)");
        DawnHouse x = Check.houseOf("part a takes 1=1;part b takes 20=sum(0)+count(1)+most(2)+sum(3)+count(4)+most(5);"
            + "report c takes 1 due 0 weight 0=a;report d takes 20 due 399 weight 100=b;");
        int[][] want = {{0, 1, 0, 0, 0}, {0, 20, 0, 0, 63}, {1, 1, 0, 0, 0}, {1, 20, 399, 100, 63}};
        for (int i = 0; i < 20; i++) {
            due("step " + i / 5 + " " + i % 5, x.step(i / 5, i % 5), want[i / 5][i % 5]);
        }
        for (int t = 0; t < 6; t++) {
            due("the table's bit", Check.houseOf("part a takes 1=max(1,most(" + t + "));").step(0, 4), 1 << t);
        }
    }

    private static void stepAnswers() {
        sentence("5: 0 not DONE, 1 UNDER WAY, 2 DONE; 6: the TICK in which it got DONE (NONE), 7: how often it got DONE, "
            + "8: TICKS worked at it so far (UNDER WAY; 0 for others). NONE for others.");
        String text = "part a takes 2=sum(5)*count(0);report b takes 20 due 399 weight 100=a-most(2);report c takes 1 due 0 weight 0=1;";
        int[][] want = {{0, 2, 0, 0, 33, 0, NONE, 0, 0}, {1, 20, 399, 100, 37, 0, NONE, 0, 0}, {1, 1, 0, 0, 0, 0, NONE, 0, 0}};
        for (int what : Check.edges()) {
            DawnHouse x = Check.houseOf(text);
            for (int k = 0; k < 3; k++) {
                due("step " + k + " " + what, x.step(k, what), what >= 0 && what <= 8 ? want[k][what] : NONE);
            }
            for (int k : Check.edges()) {
                due("step " + k + " takes", x.step(k, 1), k >= 0 && k <= 2 ? want[k][1] : NONE);
            }
        }
        DawnHouse y = Check.houseOf(text);
        y.land(0);
        y.land(2);
        y.land(5);
        int[][] later = {{1, NONE, 0, 1}, {2, 2, 1, 0}, {2, 2, 1, 0}};
        for (int[] answers : later) {
            y.tick();
            for (int i = 0; i < 4; i++) {
                due("a in tick " + y.count(2) + ", " + (5 + i), y.step(0, 5 + i), answers[i]);
            }
        }
        y.land(0);
        int[] lost = {0, NONE, 1, 0};
        for (int i = 0; i < 4; i++) {
            due("a when it is not done any more, " + (5 + i), y.step(0, 5 + i), lost[i]);
        }
    }

    private static void valueAnswers() {
        sentence("What a STEP that is DONE is in a GROUP; 0 for others.");
        DawnHouse x = Check.houseOf("part a takes 1=7;report b takes 2 due 9 weight 1=8+sum(0);");
        x.land(0);
        due("not done", x.value(0, 0), 0);
        Check.ticked(x, 2);
        due("done", x.value(0, 7), 7);
        due("under way", x.value(1, 0), 0);
        x.tick();
        for (int n : Check.edges()) {
            due("group " + n + " of 0", x.value(0, n), n >= 0 && n <= 7 ? 7 : 0);
            due("group " + n + " of 1", x.value(1, n), n >= 0 && n <= 7 ? 8 : 0);
            due("step " + n, x.value(n, 0), n == 0 ? 7 : n == 1 ? 8 : 0);
        }
        x.land(0);
        due("not done any more", x.value(1, 0), 0);
        due("done still", x.value(0, 0), 7);
    }

    private static void sentAnswers() {
        sentence("What went last of a report to a READER in a GROUP; GROUP NONE: all together; 0 if nothing went, for others.");
        DawnHouse x = Check.houseOf("part p takes 1=9;report a takes 1 due 9 weight 1=sum(0);");
        x.reader(255);
        x.reader(1);
        x.reader(255);
        x.reads(1, 0);
        x.reads(1, 1);
        due("nothing went", x.sent(1, 0, 0), 0);
        due("nothing went, all together", x.sent(1, 0, NONE), 0);
        for (int group = 0; group < 8; group++) {
            x.row(0, group, group + 1);
        }
        x.land(0);
        Check.ticked(x, 2);
        for (int n : Check.edges()) {
            due("group " + n, x.sent(1, 0, n), n == NONE ? 36 : n >= 0 && n <= 7 ? n + 1 : 0);
            due("group " + n + " of rights", x.sent(1, 1, n), n == NONE || n == 0 ? 1 : 0);
            due("step " + n, x.sent(n, 0, 0), n == 1 ? 1 : 0);
            due("reader " + n, x.sent(1, n, NONE), n == 0 ? 36 : n == 1 ? 1 : 0);
        }
        due("a part", x.sent(0, 0, NONE), 0);
        due("one who does not read it", x.sent(1, 2, NONE), 0);
        x.land(0);
        due("it stays when the report is not done any more", x.sent(1, 0, NONE), 36);
        DawnHouse y = Check.houseOf("report a takes 1 due 9 weight 1=8192*8192*8192*8192*1024;");
        y.reader(3);
        y.reader(15);
        y.reads(0, 0);
        y.reads(0, 1);
        y.tick();
        due("one", y.sent(0, 0, 1), 1L << 62);
        due("two together wrap", y.sent(0, 0, NONE), Long.MIN_VALUE);
        due("four together wrap", y.sent(0, 1, NONE), 0);
    }

    private static void marksAnswers() {
        sentence("MARKS of a report for a READER; NONE: no such ones, it does not read it.");
        DawnHouse x = Check.houseOf("part p takes 1=9;report a takes 1 due 9 weight 1=1;report b takes 1 due 9 weight 1=1;");
        x.reader(255);
        x.reader(255);
        x.reads(1, 0);
        x.reads(2, 1);
        for (int n : Check.edges()) {
            due("step " + n, x.marks(n, 0), n == 1 ? 0 : NONE);
            due("reader " + n, x.marks(2, n), n == 1 ? 0 : NONE);
        }
        Check.ticked(x, 3);
        for (int n : Check.edges()) {
            due("step " + n, x.marks(n, 0), n == 1 ? 1 : NONE);
            due("reader " + n, x.marks(2, n), n == 1 ? 1 : NONE);
        }
    }

    private static void tableAnswers() {
        sentence("Of a TABLE: what 0: STATE, 1: ROWS that it has, 2: those loaded, 3, 4: its SPAN. NONE for others.");
        DawnHouse x = new DawnHouse();
        x.span(5, 11, 22);
        for (int n = 0; n < 3; n++) {
            x.row(5, 0, 1);
        }
        for (int n = 0; n < 4; n++) {
            x.row(5, 0, 1);
            x.land(5);
        }
        x.row(5, 0, 1);
        x.row(5, 0, 1);
        int[] want = {4, 1, 2, 11, 22};
        for (int n : Check.edges()) {
            due("what " + n, x.table(5, n), n >= 0 && n <= 4 ? want[n] : NONE);
            due("state of table " + n, x.table(n, 0), n == 5 ? 4 : n >= 0 && n < 5 ? 0 : NONE);
            due("span of table " + n, x.table(n, 4), n == 5 ? 22 : n >= 0 && n < 5 ? 0 : NONE);
        }
    }

    private static void countAnswers() {
        sentence("0 STEPS, 1 READERS, 2 the TICK, 3 HOSTS, 4 STEPS UNDER WAY, 5 DONE, 6 MARKS of all, 7 bytes on the tape. NONE for others.");
        DawnHouse x = Check.houseOf("report a takes 1 due 1 weight 1=1;part b takes 4=1;part c takes 4=1;part d takes 1=1;"
            + "part e takes 1=1;part f takes 1=1;part g takes 9=1;");
        x.hosts(3);
        for (int r = 0; r < 5; r++) {
            x.reader(255);
            x.reads(0, r);
        }
        x.hold(4, true);
        Check.give(x, "part a");
        Check.ticked(x, 3);
        int[] want = {7, 5, 3, 3, 2, 3, 4, 6};
        for (int n : Check.edges()) {
            due("count " + n, x.count(n), n >= 0 && n <= 7 ? want[n] : NONE);
        }
    }
}
