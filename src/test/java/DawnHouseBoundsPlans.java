/** What is foreseen, planned and sure: each sentence of the document that names a boundary case (Terms IV, promises 15 to 18). */
public final class DawnHouseBoundsPlans {
    private static final int NONE = DawnHouse.NONE;
    // Seven reports, each heavier than the one before, and their ORDERS as one after the other gets DONE.
    private static final String RISING = risingReports();
    private static final String[] ORDERS_OF_RISING = {"6543210", "5432106", "4321056", "3210456",
        "2103456", "1023456", "0123456", "0123456"};

    public static void main(String[] args) {
        goesOnAsItIs();
        landsAtTheEndOfItsSpan();
        landsAheadOfHosts();
        nothingElseComes();
        endsAt400();
        lateAtLeast0();
        lateOfDoneOnes();
        leastOfAllOrders();
        firstOfAlikeOnes();
        sureByBeginsOfSpans();
        sureWhateverHosts();
        sureGoesOn();
        planAnswers();
        orderAnswers();
        foreseenAnswers();
        sureAnswers();
        Check.end();
    }

    private static void sentence(String words) {
        Check.sentence(words);
    }

    private static void due(String call, long got, long want) {
        Check.due(call, got, want);
    }

    private static void dueEnds(String when, DawnHouse x, int... ends) {
        for (int k = 0; k < ends.length; k++) {
            due(when + ": end of " + k, x.foreseen(k), ends[k]);
        }
    }

    private static void goesOnAsItIs() {
        sentence("FORESEEN: the STEPS' ends if all goes on as it is from now, by an ORDER");
        String text = "part a takes 3=1;part b takes 2=a;report c takes 4 due 9 weight 1=1;report d takes 1 due 9 weight 1=b;";
        dueEnds("one host", Check.houseOf(text), 3, 5, 9, 10);
        DawnHouse x = Check.houseOf(text);
        x.hosts(2);
        dueEnds("two hosts", x, 3, 5, 4, 6);
        for (int now = 1; now <= 7; now++) {
            x.tick();
            dueEnds("at " + now, x, 3, 5, 4, 6);
        }
        for (int k = 0; k < 4; k++) {
            due("and so it came: " + k, x.step(k, 6), x.foreseen(k));
        }
        DawnHouse y = Check.houseOf("report a takes 2 due 0 weight 1=1;report b takes 2 due 0 weight 9=1;");
        dueEnds("by numbers", y, 2, 4);
        y.plan();
        dueEnds("by the plan", y, 4, 2);
        y.tick();
        dueEnds("under way", y, 4, 2);
    }

    private static void landsAtTheEndOfItsSpan() {
        sentence("a TABLE that has no STATE lands at the end of its SPAN, or in the next TICK, if that is not above now");
        for (int now = 0; now <= 8; now++) {
            for (int end = 0; end <= 12; end++) {
                DawnHouse x = Check.ticked(Check.houseOf("part a takes 3=sum(5);"), now);
                x.span(5, end / 2, end);
                due("span's end " + end + " at " + now, x.foreseen(0), Math.max(now + 1, end) + 2);
            }
        }
        DawnHouse y = Check.houseOf("part a takes 1=sum(0)+sum(1);part b takes 1=a+sum(2);");
        y.span(0, 0, 4);
        y.span(1, 0, 7);
        y.span(2, 0, 3);
        dueEnds("the latest of its tables", y, 7, 8);
        y.land(1);
        dueEnds("without one that landed", y, 4, 5);
    }

    private static void landsAheadOfHosts() {
        sentence("(it lands in a TICK ahead of what HOSTS do in it)");
        for (int end = 1; end <= 399; end += end < 390 ? 13 : 1) {
            DawnHouse x = Check.houseOf("part a takes 1=sum(0);");
            x.span(0, 0, end);
            due("a step of one tick, its table lands in " + end, x.foreseen(0), end);
        }
        DawnHouse y = Check.houseOf("part a takes 1=sum(0);part b takes 1=1;");
        y.span(0, 0, 1);
        dueEnds("a is ready as soon as b is, and is first", y, 1, 2);
        y.span(0, 0, 2);
        dueEnds("b is ready sooner", y, 2, 1);
    }

    private static void nothingElseComes() {
        sentence("nothing else comes.");
        DawnHouse x = Check.houseOf("part a takes 1=sum(0);part b takes 1=sum(1);");
        x.span(0, 5, 9);
        x.span(1, 3, 4);
        x.land(0);
        dueEnds("a table that has landed does not wait for its span", x, 1, 4);
        x.tick();
        x.row(0, 0, 1);
        dueEnds("nor does it land again", x, 1, 4);
        due("and it stays done", x.step(0, 5), 2);
        Check.ticked(x, 9);
        dueEnds("a table that was to land has not: the next tick, again and again", x, 1, 11);
        due("foreseen, but not landed", x.table(1, 0), 0);
    }

    private static void endsAt400() {
        sentence("A STEP that does not end by TICK 399 ends at 400.");
        for (int takes = 1; takes <= 20; takes++) {
            DawnHouse x = Check.houseOf("report a takes " + takes + " due 0 weight 1=sum(0);part b takes 1=1;");
            x.span(0, 0, 400 - takes);
            dueEnds("in the last tick", x, 399, 1);
            due("late by 399", x.plan(), 399);
            if (takes > 1) {
                x.span(0, 0, 401 - takes);
                dueEnds("a tick too late", x, 400, 1);
                due("late by 400", x.plan(), 400);
            }
            x.span(0, 399, 399);
            dueEnds("begun in the last tick", x, takes == 1 ? 399 : 400, 1);
        }
        DawnHouse y = Check.ticked(new DawnHouse(), 398);
        Check.read(y, "part a takes 1=1;part b takes 1=a;report c takes 2 due 399 weight 100=1;report d takes 1 due 0 weight 1=b;");
        y.hosts(2);
        dueEnds("at 398", y, 399, 400, 400, 400);
        due("late", y.plan(), 100 + 400);
        y.tick();
        dueEnds("at 399", y, 399, 400, 400, 400);
        due("late at 399", y.plan(), 100 + 400);
        due("c is under way for ever", y.step(2, 5), 1);
        DawnHouse z = Check.ticked(new DawnHouse(), 389);
        Check.read(z, "report a takes 9 due 390 weight 1=1;report b takes 9 due 390 weight 1=1;report c takes 9 due 390 weight 1=1;part d takes 20=1;");
        dueEnds("one ends, one is begun, two are not", z, 398, 400, 400, 400);
        due("those that are never begun are late too", z.plan(), 8 + 10 + 10);
        DawnHouse w = Check.ticked(new DawnHouse(), 398);
        Check.read(w, "report a takes 20 due 0 weight 1=1;");
        w.tick();
        dueEnds("under way with 19 ticks to go", w, 400);
        due("late", w.plan(), 400);
        DawnHouse v = Check.ticked(new DawnHouse(), 389);
        Check.read(v, "report a takes 20 due 390 weight 1=1;report b takes 1 due 390 weight 1=1;");
        v.tick();
        dueEnds("one under way, the only other one never begun", v, 400, 400);
        due("both are late", v.plan(), 10 + 10);
    }

    private static void lateAtLeast0() {
        sentence("LATE: its end less its due, at least 0");
        for (int dueTick = 0; dueTick <= 8; dueTick++) {
            DawnHouse x = Check.houseOf("report a takes 5 due " + dueTick + " weight 7=1;");
            due("late by due " + dueTick, x.plan(), 7 * Math.max(0, 5 - dueTick));
        }
        DawnHouse y = Check.houseOf("report a takes 1 due 399 weight 100=1;report b takes 1 due 1 weight 1=sum(0);");
        y.span(0, 3, 3);
        due("one that is early makes up for nothing", y.plan(), 2);
        DawnHouse z = Check.houseOf("part p takes 20=1;report a takes 1 due 0 weight 0=p;");
        due("a part is never late, nor is what has no weight", z.plan(), 0);
        DawnHouse w = Check.houseOf("report a takes 20 due 0 weight 100=sum(0);report b takes 20 due 0 weight 100=sum(0);"
            + "report c takes 20 due 0 weight 100=sum(0);report d takes 20 due 0 weight 100=sum(0);"
            + "report e takes 20 due 0 weight 100=sum(0);report f takes 20 due 0 weight 100=sum(0);"
            + "report g takes 20 due 0 weight 100=sum(0);");
        w.span(0, 399, 399);
        due("as late as can be", w.plan(), 7 * 100 * 400);
        Check.dueOrder("as late as can be", w, "0123456");
        dueEnds("as late as can be", w, 400, 400, 400, 400, 400, 400, 400);
    }

    private static void lateOfDoneOnes() {
        sentence("(DONE ones: the TICK in which they got so).");
        DawnHouse x = Check.houseOf("report a takes 3 due 1 weight 10=1;report b takes 1 due 9 weight 1=1;");
        Check.ticked(x, 4);
        for (int now = 4; now <= 60; now += 7) {
            due("late at " + now, x.plan(), 20);
            due("end at " + now, x.foreseen(0), 3);
            Check.ticked(x, 7);
        }
        DawnHouse y = Check.houseOf("report a takes 1 due 1 weight 10=sum(0);");
        y.land(0);
        Check.ticked(y, 5);
        due("on time", y.plan(), 0);
        y.land(0);
        due("not done any more, and late", y.plan(), 50);
    }

    private static void leastOfAllOrders() {
        sentence("plan() takes of all ORDERS that by which the LATES of reports, each times its weight, come to the least together");
        DawnHouse x = Check.houseOf(RISING);
        due("the last of all orders", x.plan(), 7 + 6 * 2 + 5 * 3 + 4 * 4 + 3 * 5 + 2 * 6 + 7);
        Check.dueOrder("the last of all orders", x, "6543210");
        dueEnds("ends", x, 7, 6, 5, 4, 3, 2, 1);
        // By weights for a TICK: b 4, d 3, c 2, a 1.
        DawnHouse y = Check.houseOf("report a takes 4 due 0 weight 4=1;report b takes 1 due 0 weight 4=1;"
            + "report c takes 3 due 0 weight 6=1;report d takes 2 due 0 weight 6=1;");
        due("by weight and length", y.plan(), 4 + 6 * 3 + 6 * 6 + 4 * 10);
        Check.dueOrder("by weight and length", y, "1320");
        DawnHouse z = Check.houseOf("report a takes 1 due 9 weight 100=1;part p takes 2=1;report b takes 1 due 3 weight 1=p;");
        due("a part is needed first", z.plan(), 0);
        Check.dueOrder("a part is needed first", z, "120");
        DawnHouse v = Check.houseOf("report a takes 2 due 0 weight 1=1;report b takes 2 due 0 weight 2=1;report c takes 2 due 0 weight 3=1;"
            + "report d takes 2 due 0 weight 4=1;report e takes 2 due 0 weight 5=1;report f takes 2 due 0 weight 6=1;");
        v.hosts(3);
        due("three at a time", v.plan(), 2 * (4 + 5 + 6) + 4 * (1 + 2 + 3));
        Check.dueOrder("three at a time", v, "345012");
        dueEnds("three at a time", v, 4, 4, 4, 2, 2, 2);
        v.tick();
        due("three at a time, under way", v.plan(), 54);
        dueEnds("three at a time, under way", v, 4, 4, 4, 2, 2, 2);
        // b would be on time only if the HOST waited for its TABLE, which no ORDER brings about.
        DawnHouse w = Check.houseOf("report a takes 9 due 9 weight 1=1;report b takes 1 due 2 weight 5=sum(0);");
        w.span(0, 0, 2);
        due("no order makes a host wait", w.plan(), 8 * 5);
        Check.dueOrder("no order makes a host wait", w, "01");
    }

    private static void firstOfAlikeOnes() {
        sentence("of alike ones the first (the least STEP first, and so on).");
        StringBuilder alike = new StringBuilder();
        for (int k = 0; k < 7; k++) {
            alike.append("report r").append(k).append(" takes 2 due 1 weight 3=1;");
        }
        for (int hosts = 1; hosts <= 3; hosts++) {
            DawnHouse x = Check.houseOf(alike.toString());
            x.hosts(hosts);
            x.plan();
            Check.dueOrder("all alike with " + hosts, x, "0123456");
        }
        DawnHouse y = Check.houseOf("part a takes 1=1;part b takes 9=1;report c takes 1 due 0 weight 1=1;"
            + "report d takes 1 due 0 weight 2=1;part e takes 1=1;report f takes 1 due 0 weight 2=1;");
        due("plan", y.plan(), 2 + 2 * 2 + 3);
        Check.dueOrder("those that make none late go behind, by numbers", y, "352014");
        // c is DONE: where it stands has no say, so it stands as early as the least STEP first lets it.
        DawnHouse z = Check.houseOf("report a takes 1 due 0 weight 1=sum(0);report b takes 1 due 0 weight 2=sum(0);report c takes 1 due 0 weight 9=1;");
        z.tick();
        due("c is done", z.step(2, 5), 2);
        due("plan with one done", z.plan(), 9 + 2 * 2 + 3);
        Check.dueOrder("plan with one done", z, "102");
        DawnHouse w = Check.houseOf("report a takes 1 due 0 weight 1=1;report b takes 1 due 0 weight 2=1;report c takes 1 due 0 weight 9=1;");
        w.hosts(3);
        w.plan();
        Check.dueOrder("a host for each", w, "012");
        DawnHouse v = Check.houseOf("report a takes 1 due 0 weight 1=1;report b takes 1 due 0 weight 1=1;report c takes 1 due 0 weight 9=1;");
        v.plan();
        Check.dueOrder("the heavy one first", v, "201");
        v.tick();
        v.plan();
        Check.dueOrder("when that is done", v, "012");
        DawnHouse u = Check.houseOf(RISING);
        u.plan();
        for (int n = 1; n <= 7; n++) {
            u.tick();
            u.plan();
            Check.dueOrder("with " + n + " done", u, ORDERS_OF_RISING[n]);
        }
    }

    private static String risingReports() {
        StringBuilder rising = new StringBuilder();
        for (int k = 0; k < 7; k++) {
            rising.append("report r").append(k).append(" takes 1 due 0 weight ").append(k + 1).append("=1;");
        }
        return rising.toString();
    }

    private static void sureByBeginsOfSpans() {
        sentence("SURE: the soonest that a report can end: TABLES without a STATE land at the begin of their SPAN, "
            + "or in the next TICK, if that is not above now");
        for (int now = 0; now <= 6; now++) {
            for (int begin = 0; begin <= 10; begin++) {
                int soonest = Math.max(now + 1, begin) + 2;
                for (int dueTick = soonest - 1; dueTick <= soonest + 1; dueTick++) {
                    DawnHouse x = Check.houseOf("report a takes 3 due " + dueTick + " weight 1=sum(0);");
                    x.span(0, begin, 399);
                    Check.ticked(x, now);
                    due("begin " + begin + ", due " + dueTick + " at " + now, x.sure(0), soonest > dueTick ? 1 : 0);
                }
            }
        }
        DawnHouse y = Check.houseOf("report a takes 1 due 4 weight 1=sum(0)+sum(1);");
        y.span(0, 4, 9);
        due("the latest of its tables", y.sure(0), 0);
        y.span(1, 5, 9);
        due("the latest of its tables", y.sure(0), 1);
        y.land(1);
        due("without one that landed", y.sure(0), 0);
        DawnHouse z = Check.houseOf("report a takes 1 due 399 weight 1=sum(0);report b takes 2 due 399 weight 1=sum(0);");
        z.span(0, 399, 399);
        due("in the last tick", z.sure(0), 0);
        due("behind the last tick", z.sure(1), 1);
    }

    private static void sureWhateverHosts() {
        sentence("each STEP begins as soon as it is READY, whatever HOSTS there are");
        StringBuilder text = new StringBuilder("part p takes 3=1;");
        for (int k = 1; k < 7; k++) {
            text.append("report r").append(k).append(" takes 2 due ").append(k < 4 ? 4 : 5).append(" weight 1=p;");
        }
        for (int hosts = 1; hosts <= 3; hosts++) {
            DawnHouse x = Check.houseOf(text.toString());
            x.hosts(hosts);
            for (int k = 1; k < 7; k++) {
                due("report " + k + " with " + hosts, x.sure(k), k < 4 ? 1 : 0);
            }
        }
        DawnHouse y = Check.houseOf("part a takes 2=sum(0);part b takes 5=sum(1);report c takes 1 due 8 weight 1=a+b;report d takes 1 due 7 weight 1=b+a;");
        y.span(1, 3, 9);
        due("the latest of its parts, in time", y.sure(2), 0);
        due("the latest of its parts, too late", y.sure(3), 1);
    }

    private static void sureGoesOn() {
        sentence("(one that is READY or UNDER WAY goes on in the next TICK).");
        DawnHouse x = Check.houseOf("report a takes 3 due 3 weight 1=1;report b takes 3 due 4 weight 1=1;report c takes 3 due 5 weight 1=1;");
        int[][] sure = {{0, 0, 0}, {0, 0, 0}, {0, 1, 0}, {0, 1, 1}, {0, 1, 1}};
        for (int now = 0; now < sure.length; now++) {
            for (int k = 0; k < 3; k++) {
                due("report " + k + " at " + now, x.sure(k), sure[now][k]);
            }
            x.tick();
        }
        DawnHouse y = Check.houseOf("report a takes 3 due 4 weight 1=sum(0);");
        y.land(0);
        Check.ticked(y, 2);
        due("under way", y.sure(0), 0);
        y.land(0);
        due("what is lost begins anew", y.sure(0), 1);
    }

    private static void planAnswers() {
        sentence("THE ORDER of least LATES: what they come to.");
        due("without steps", new DawnHouse().plan(), 0);
        due("without reports", Check.houseOf("part a takes 20=1;").plan(), 0);
        DawnHouse x = Check.ticked(Check.houseOf("report a takes 1 due 0 weight 100=1;"), 1);
        due("with all done", x.plan(), 100);
        DawnHouse y = Check.ticked(Check.houseOf("report a takes 3 due 0 weight 1=1;report b takes 1 due 0 weight 1=1;report c takes 1 due 0 weight 5=1;"), 1);
        due("with one under way", y.plan(), 3 + 5 + 4 * 5);
        Check.dueOrder("one that is under way stands as early as it can", y, "021");
        due("again", y.plan(), 28);
        due("a plan passes no tick", y.count(2), 1);
        Check.nothingHappens("a second plan", () -> {
            DawnHouse busy = Check.busyHouse();
            busy.plan();
            return busy;
        }, DawnHouse::plan);
    }

    private static void orderAnswers() {
        sentence("The i-th STEP of THE ORDER; NONE: not so many.");
        DawnHouse x = Check.houseOf("report a takes 1 due 0 weight 1=1;report b takes 1 due 0 weight 2=1;report c takes 1 due 0 weight 3=1;");
        for (int planned = 0; planned < 2; planned++) {
            for (int i : Check.edges()) {
                boolean there = i >= 0 && i <= 2;
                due("order " + i, x.order(i), there ? planned == 0 ? i : 2 - i : NONE);
            }
            x.plan();
        }
        Check.read(x, "part a takes 1=1;");
        due("the first of one", x.order(0), 0);
        due("not so many any more", x.order(1), NONE);
        x.read();
        due("none any more", x.order(0), NONE);
    }

    private static void foreseenAnswers() {
        sentence("The FORESEEN end of a STEP by THE ORDER; NONE: there is none such.");
        DawnHouse x = Check.houseOf("part a takes 1=1;report b takes 2 due 9 weight 1=a;");
        for (int k : Check.edges()) {
            due("foreseen " + k, x.foreseen(k), k == 0 ? 1 : k == 1 ? 3 : NONE);
        }
        Check.nothingHappens("foreseen", Check::busyHouse, y -> y.foreseen(1));
    }

    private static void sureAnswers() {
        sentence("1 if it is SURE that a report ends behind its due, else 0; NONE: there is none such, a part.");
        DawnHouse x = Check.houseOf("part p takes 1=1;report a takes 2 due 2 weight 0=1;report b takes 2 due 1 weight 0=1;");
        for (int k : Check.edges()) {
            due("sure " + k, x.sure(k), k == 1 ? 0 : k == 2 ? 1 : NONE);
        }
        Check.ticked(x, 5);
        due("done behind its due", x.sure(1) * 10 + x.sure(2), 11);
        DawnHouse y = Check.ticked(Check.houseOf("report a takes 2 due 2 weight 1=1;"), 9);
        due("done on time", y.sure(0), 0);
        Check.nothingHappens("sure", Check::busyHouse, z -> z.sure(1));
    }
}
