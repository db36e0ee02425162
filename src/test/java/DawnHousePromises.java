/** Each promise of the document, by its number, worked out by hand. */
public final class DawnHousePromises {
    private static final int NONE = DawnHouse.NONE;
    private static int checks = 0;
    private static int wrong = 0;

    public static void main(String[] args) {
        newObject();
        feeding();
        goingBack();
        reading();
        tokens();
        syntaxFaults();
        roomFaults();
        senseFaults();
        orderOfFaults();
        readingAnew();
        places();
        spans();
        rows();
        landing();
        landingWhileUnderWay();
        readers();
        rightsOfReaders();
        holding();
        readsOfReaders();
        hostsOfHouse();
        ticks();
        ticksByOrder();
        plans();
        plansWithIdleSteps();
        orders();
        foreseenEnds();
        foreseenAtTheEnd();
        sureLateness();
        stepsAnswers();
        valuesOfSteps();
        needsOfSteps();
        valuesThatWrap();
        sentOnceAndAgain();
        marksOfReaders();
        tablesAnswers();
        counts();
        System.out.println(checks + " checks, " + wrong + " wrong");
        if (wrong != 0) {
            System.exit(1);
        }
    }

    private static void due(int promise, String what, long got, long want) {
        checks++;
        if (got != want) {
            wrong++;
            System.out.println("promise " + promise + ": " + what + " answered " + got + ", due is " + want);
        }
    }

    private static void due(int promise, String what, boolean got, boolean want) {
        due(promise, what, got ? 1 : 0, want ? 1 : 0);
    }

    private static DawnHouse houseOf(String text) {
        DawnHouse x = new DawnHouse();
        Check.give(x, text);
        due(4, "read of " + text, x.read(), 0);
        return x;
    }

    private static void fault(int promise, String text, int fault, int place) {
        DawnHouse x = houseOf("part old takes 3 = 1;");
        Check.give(x, text);
        due(promise, "read of " + text, x.read(), fault);
        due(5, "place in " + text, x.place(), place);
        due(4, "steps after " + text, x.count(0), fault == 0 ? x.count(0) : 1);
        due(4, "tape after " + text, x.count(7), 0);
        if (fault != 0) {
            due(4, "the old step after " + text, x.step(0, 1), 3);
        }
    }

    private static void newObject() {
        DawnHouse x = new DawnHouse();
        int[] counts = {0, 0, 0, 1, 0, 0, 0, 0};
        for (int what = 0; what < 8; what++) {
            due(1, "count " + what, x.count(what), counts[what]);
        }
        due(1, "NONE", DawnHouse.NONE, -1);
        due(1, "place", x.place(), NONE);
        due(1, "plan", x.plan(), 0);
        due(1, "order", x.order(0), NONE);
        due(1, "step", x.step(0, 0), NONE);
        due(1, "foreseen", x.foreseen(0), NONE);
        due(1, "sure", x.sure(0), NONE);
        due(1, "value", x.value(0, 0), 0);
        due(1, "sent", x.sent(0, 0, 0), 0);
        due(1, "marks", x.marks(0, 0), NONE);
        due(1, "reads", x.reads(0, 0), false);
        due(1, "hold", x.hold(0, true), false);
        for (int t = 0; t < 6; t++) {
            for (int what = 0; what < 5; what++) {
                due(1, "table", x.table(t, what), 0);
            }
        }
        due(1, "tick", x.tick(), 1);
    }

    private static void feeding() {
        DawnHouse x = new DawnHouse();
        int blanks = 0x20202020;
        for (int n = 1; n <= 100; n++) {
            due(2, "feed", x.feed(blanks, blanks, blanks, blanks, blanks), 20 * n);
        }
        due(2, "feed beyond 2,000", x.feed(blanks, blanks, blanks, blanks, blanks), NONE);
        due(2, "bytes", x.count(7), 2000);
        x.back(19);
        due(2, "feed onto 1,981", x.feed(blanks, blanks, blanks, blanks, blanks), NONE);
        due(2, "bytes", x.count(7), 1981);
        x.back(1);
        due(2, "feed onto 1,980", x.feed(blanks, blanks, blanks, blanks, blanks), 2000);
        due(2, "read of blanks", x.read(), 0);
        due(2, "feed again", x.feed(0, 0, 0, 0, 0), 20);

        DawnHouse y = new DawnHouse();
        y.feed(0x70617274, 0x20612074, 0x616b6573, 0x20333d31, 0x3b202020);
        due(2, "read of bytes, the highest first", y.read(), 0);
        due(2, "takes", y.step(0, 1), 3);
        y.feed(-1, 0x20202020, 0x20202020, 0x20202020, 0x20202020);
        due(2, "read of bytes of 255", y.read(), 1);
        due(2, "place", y.place(), 0);
    }

    private static void goingBack() {
        DawnHouse x = new DawnHouse();
        due(3, "back 0 of none", x.back(0), 0);
        due(3, "back 1 of none", x.back(1), NONE);
        Check.give(x, "part a takes 1 = 1;");
        due(3, "bytes", x.count(7), 19);
        due(3, "back -1", x.back(-1), NONE);
        due(3, "back least", x.back(Integer.MIN_VALUE), NONE);
        due(3, "back 20", x.back(20), NONE);
        due(3, "back most", x.back(Integer.MAX_VALUE), NONE);
        due(3, "bytes", x.count(7), 19);
        due(3, "back 3", x.back(3), 16);
        Check.give(x, " 2;");
        due(3, "read", x.read(), 0);
        due(3, "count", x.count(0), 1);
        Check.give(x, "x");
        due(3, "back all", x.back(1), 0);
        due(3, "read", x.read(), 0);
        due(3, "count", x.count(0), 0);
    }

    private static void reading() {
        fault(4, "", 0, NONE);
        fault(4, " \t\n\r", 0, NONE);
        fault(4, "part a takes 1 = 1;", 0, NONE);
        fault(4, "part a takes 20=9999;", 0, NONE);
        fault(4, "report a takes 1 due 399 weight 100 = 0;", 0, NONE);
        fault(4, "report a takes 1 due 0 weight 0 = 0;", 0, NONE);
        fault(4, "part a takes 1=sum(0)+count(1)-most(2)*max(sum(3),(sum(4)+count(5)));", 0, NONE);
        fault(4, "part a takes 1 = 1; part b takes 1 = a*a; report c takes 1 due 1 weight 1 = a+b;", 0, NONE);
    }

    private static void tokens() {
        fault(4, "parta takes 1 = 1;", 1, 0);
        fault(4, "part a takes1 = 1;", 1, 7);
        fault(4, "report a takes 1due 2weight 3=4;", 0, NONE);
        fault(4, "part\ta\ntakes\r1=1;", 0, NONE);
        fault(4, "part\u000ba takes 1=1;", 1, 4);
        fault(4, "part a1b2c3d4 takes 1=1;", 0, NONE);
        fault(4, "part a1b2c3d4e takes 1=1;", 1, 5);
        fault(4, "part az09za takes 1=1; part z takes 1=az09za;", 0, NONE);
        fault(4, "part `a takes 1=1;", 1, 5);
        fault(4, "part {a takes 1=1;", 1, 5);
        fault(4, "part 1a takes 1=1;", 1, 5);
        fault(4, "part A takes 1=1;", 1, 5);
        fault(4, "part aB takes 1=1;", 1, 6);
        fault(4, "part a_b takes 1=1;", 1, 6);
        fault(4, "part a takes 0001 = 0000;", 0, NONE);
        fault(4, "part a takes 00001 = 1;", 1, 13);
        fault(4, "part a takes 1 = 12345;", 1, 17);
        fault(4, "part a takes 1 = 1.;", 1, 18);
        fault(4, "part a takes 1 = 1/1;", 1, 18);
        fault(4, "part a takes 1 = \u00e9;", 1, 17);
        fault(4, "\0part a takes 1 = 1;", 1, 0);
        for (String word : new String[] {"part", "takes", "report", "due", "weight", "sum", "count", "most", "max"}) {
            fault(4, "part " + word + " takes 1 = 1;", 1, 5);
            fault(4, "part " + word + "1 takes 1 = 1;", 0, NONE);
        }
        fault(4, "part takest takes 1=1; part duex takes 1=takest; part n takes 1=duex;", 0, NONE);
    }

    private static void syntaxFaults() {
        fault(4, "a", 1, 0);
        fault(4, " ; ", 1, 1);
        fault(4, "part", 1, 4);
        fault(4, "part  ", 1, 6);
        fault(4, "part a", 1, 6);
        fault(4, "part a takes", 1, 12);
        fault(4, "part a takes 1", 1, 14);
        fault(4, "part a takes 1 =", 1, 16);
        fault(4, "part a takes 1 = 1", 1, 18);
        fault(4, "part a takes 1 = 1 ", 1, 19);
        fault(4, "part a takes 1 = ;", 1, 17);
        fault(4, "part a takes b = 1;", 1, 13);
        fault(4, "part a due 1 = 1;", 1, 7);
        fault(4, "part a takes 1 due 2 weight 3 = 1;", 1, 15);
        fault(4, "report a takes 1 = 1;", 1, 17);
        fault(4, "report a takes 1 due 1 = 1;", 1, 23);
        fault(4, "report a takes 1 weight 1 due 1 = 1;", 1, 17);
        fault(4, "part a takes 1 = 1 1;", 1, 19);
        fault(4, "part a takes 1 = 1 +;", 1, 20);
        fault(4, "part a takes 1 = -1;", 1, 17);
        fault(4, "part a takes 1 = 1**1;", 1, 19);
        fault(4, "part a takes 1 = 1, 2;", 1, 18);
        fault(4, "part a takes 1 = (1, 2);", 1, 19);
        fault(4, "part a takes 1 = (1;", 1, 19);
        fault(4, "part a takes 1 = 1);", 1, 18);
        fault(4, "part a takes 1 = ();", 1, 18);
        fault(4, "part a takes 1 = sum 1;", 1, 21);
        fault(4, "part a takes 1 = sum();", 1, 21);
        fault(4, "part a takes 1 = sum(b);", 1, 21);
        fault(4, "part a takes 1 = sum(1+1);", 1, 22);
        fault(4, "part a takes 1 = count((1));", 1, 23);
        fault(4, "part a takes 1 = most(1;", 1, 23);
        fault(4, "part a takes 1 = max 1;", 1, 21);
        fault(4, "part a takes 1 = max(1);", 1, 22);
        fault(4, "part a takes 1 = max(1,);", 1, 23);
        fault(4, "part a takes 1 = max(1,2,3);", 1, 24);
        fault(4, "part a takes 1 = max((1,2),3);", 1, 23);
        fault(4, "part a takes 1 = 1;;", 1, 19);
        fault(4, "part a takes 1 = 1; b", 1, 20);
        fault(4, "part a takes 1 == 1;", 1, 16);
    }

    private static void roomFaults() {
        // Six TOKENS beside the E; the E has 4 and two for each sign behind it, or 1 and two.
        String text400 = "part a takes 1=sum(0)" + "+1".repeat(195) + ";";
        fault(4, text400, 0, NONE);
        fault(4, text400 + " ", 0, NONE);
        fault(4, text400 + " part", 2, text400.length() + 1);
        fault(4, text400 + " 1", 1, text400.length() + 1);
        fault(4, text400 + " ?", 1, text400.length() + 1);
        String text401 = "part a takes 1=1" + "+1".repeat(197) + ";";
        String head400 = text401.substring(0, text401.length() - 1);
        fault(4, text401, 2, head400.length());
        fault(4, head400, 1, head400.length());
        fault(4, head400 + "+", 2, head400.length());
        fault(4, head400 + " 1", 1, head400.length() + 1);
        fault(4, head400 + " 12345", 1, head400.length() + 1);

        String seven = "";
        for (int k = 0; k < 7; k++) {
            seven += "part a" + k + " takes 1=1; ";
        }
        fault(4, seven, 0, NONE);
        fault(4, seven + "part b takes 1=1;", 2, seven.length());
        fault(4, seven + "report", 2, seven.length());
        fault(4, seven + "b", 1, seven.length());
        fault(4, seven + "?", 1, seven.length());

        fault(4, "part a takes 1=((((((1))))));", 0, NONE);
        fault(4, "part a takes 1=(((((((1)))))));", 2, 21);
        fault(4, "part a takes 1=(((((sum(1))))));", 0, NONE);
        fault(4, "part a takes 1=((((((sum(1)))))));", 2, 24);
        fault(4, "part a takes 1=((((((max(1,1)))))));", 2, 24);
        fault(4, "part a takes 1=((((((sum))))));", 1, 24);
        fault(4, "part a takes 1=((((((1(", 1, 22);
        fault(4, "part a takes 1=max(max(max(max(max(max(1,2),3),4),5),6),7)+(((((1)))));", 0, NONE);
        fault(4, "part a takes 1=max(1,max(1,max(1,max(1,max(1,max(1,sum(0)))))));", 2, 54);
        fault(4, "part a takes 1=(1)+(1)+(1)+(1)+(1)+(1)+(1)+(1);", 0, NONE);
    }

    private static void senseFaults() {
        fault(4, "part a takes 1=1; part a takes 1=1;", 3, 23);
        fault(4, "part a takes 1=1; report a takes 1 due 1 weight 1=1;", 3, 25);
        fault(4, "report a takes 1 due 1 weight 1=1; part a takes 1=1;", 3, 40);
        fault(4, "report a takes 1 due 1 weight 1=1; report a takes 1 due 1 weight 1=1;", 3, 42);
        fault(4, "part a takes 1=b;", 4, 15);
        fault(4, "part a takes 1=a;", 4, 15);
        fault(4, "part a takes 1=b; part b takes 1=1;", 4, 15);
        fault(4, "report a takes 1 due 1 weight 1=1; part b takes 1=a;", 4, 50);
        fault(4, "part a takes 0=1;", 5, 13);
        fault(4, "part a takes 21=1;", 5, 13);
        fault(4, "report a takes 1 due 400 weight 1=1;", 5, 21);
        fault(4, "report a takes 1 due 1 weight 101=1;", 5, 30);
        fault(4, "part a takes 1=sum(6);", 5, 19);
        fault(4, "part a takes 1=1+count(9999);", 5, 23);
        fault(4, "part a takes 1=most(5)+most(6);", 5, 28);
    }

    private static void orderOfFaults() {
        fault(4, "part a takes 0=b; part a", 1, 24);
        fault(4, "part a takes 0=(((((((1)))))));", 2, 21);
        fault(4, "part a takes 0=b; part a takes 1=1;", 5, 13);
        fault(4, "part a takes 1=b; part a takes 0=1;", 4, 15);
        fault(4, "part a takes 1=1; part a takes 0=b;", 3, 23);
        fault(4, "report a takes 1 due 400 weight 101=sum(6);", 5, 21);
        fault(4, "part a takes 1=sum(6)+b;", 5, 19);
        fault(4, "part a takes 1=b+sum(6);", 4, 15);
        fault(4, "part a takes 1=(((((((; ?", 2, 21);
        fault(4, "part a takes 1=(((((+((", 1, 20);
    }

    private static void readingAnew() {
        DawnHouse x = houseOf("report a takes 1 due 9 weight 1=sum(0); report b takes 3 due 1 weight 9=1;");
        x.hosts(2);
        x.span(1, 4, 7);
        x.row(0, 2, 5);
        x.land(0);
        x.reader(255);
        x.reads(0, 0);
        x.hold(0, true);
        x.hold(0, false);
        due(4, "plan", x.plan(), 18);
        x.tick();
        due(4, "done", x.count(5), 1);
        due(4, "under way", x.count(4), 1);
        due(4, "marks", x.count(6), 1);
        Check.give(x, "part a takes 0=1;");
        due(4, "read of a fault", x.read(), 5);
        due(4, "done", x.count(5), 1);
        due(4, "under way", x.count(4), 1);
        due(4, "marks", x.marks(0, 0), 1);
        due(4, "sent", x.sent(0, 0, 2), 5);
        Check.give(x, "report c takes 2 due 3 weight 1=most(0); part d takes 1=2;");
        due(4, "read", x.read(), 0);
        due(4, "done", x.count(5), 0);
        due(4, "under way", x.count(4), 0);
        due(4, "all marks", x.count(6), 0);
        due(4, "steps", x.count(0), 2);
        due(4, "tick", x.count(2), 1);
        due(4, "hosts", x.count(3), 2);
        due(4, "readers", x.count(1), 1);
        due(4, "marks: nobody reads", x.marks(0, 0), NONE);
        due(4, "sent", x.sent(0, 0, 2), 0);
        due(4, "times done", x.step(0, 7), 0);
        due(4, "tick done", x.step(0, 6), NONE);
        due(4, "state", x.table(0, 0), 1);
        due(4, "span", x.table(1, 4), 7);
        due(4, "reads again", x.reads(0, 0), true);
        Check.ticked(x, 2);
        due(4, "sent of the new text", x.sent(0, 0, 2), 5);
        due(4, "marks of the new text", x.marks(0, 0), 1);
        due(4, "read of nothing", x.read(), 0);
        due(4, "steps", x.count(0), 0);

        DawnHouse y = houseOf("report a takes 5 due 9 weight 1=1; report b takes 1 due 1 weight 9=1;");
        y.plan();
        due(4, "order by a plan", y.order(0), 1);
        Check.give(y, "part a takes 1=1; part b takes 1=1;");
        y.read();
        due(4, "order: nothing is planned", y.order(0), 0);
        due(4, "order", y.order(1), 1);
    }

    private static void places() {
        DawnHouse x = new DawnHouse();
        due(5, "place", x.place(), NONE);
        Check.give(x, "part a takes 1=b;");
        due(5, "place before read", x.place(), NONE);
        x.read();
        due(5, "place", x.place(), 15);
        due(5, "place again", x.place(), 15);
        Check.give(x, "part a takes 1=1;");
        due(5, "place of the latest read", x.place(), 15);
        x.read();
        due(5, "place without a fault", x.place(), NONE);
    }

    private static void spans() {
        DawnHouse x = new DawnHouse();
        due(6, "span", x.span(0, 0, 399), true);
        due(6, "span", x.span(5, 399, 399), true);
        due(6, "span", x.span(3, 7, 9), true);
        due(6, "no table", x.span(6, 0, 1), false);
        due(6, "no table", x.span(-1, 0, 1), false);
        due(6, "a below 0", x.span(3, -1, 1), false);
        due(6, "a above b", x.span(3, 2, 1), false);
        due(6, "b above 399", x.span(3, 2, 400), false);
        due(6, "far off", x.span(Integer.MAX_VALUE, Integer.MIN_VALUE, Integer.MAX_VALUE), false);
        due(6, "begin", x.table(3, 3), 7);
        due(6, "end", x.table(3, 4), 9);
        due(6, "end", x.table(5, 4), 399);
        due(6, "narrow", x.span(3, 0, 0), true);
        due(6, "end", x.table(3, 4), 0);
    }

    private static void rows() {
        DawnHouse x = new DawnHouse();
        due(7, "no table", x.row(-1, 0, 1), NONE);
        due(7, "no table", x.row(6, 0, 1), NONE);
        due(7, "no group", x.row(0, -1, 1), NONE);
        due(7, "no group", x.row(0, 8, 1), NONE);
        due(7, "nothing loaded", x.table(0, 2), 0);
        for (int n = 1; n <= 40; n++) {
            due(7, "row", x.row(0, n % 8, n), n);
        }
        due(7, "row 41", x.row(0, 0, 1), NONE);
        due(7, "loaded", x.table(0, 2), 40);
        due(7, "another table", x.row(1, 7, Integer.MIN_VALUE), 1);
        x.land(0);
        due(7, "row after landing", x.row(0, 0, 1), 1);
        due(7, "rows it has", x.table(0, 1), 40);
    }

    private static void landing() {
        DawnHouse x = houseOf("part a takes 1=sum(0); part b takes 1=a+sum(1); report c takes 1 due 9 weight 1=b;"
            + " part d takes 1=sum(2); part e takes 1=7;");
        x.hosts(3);
        due(8, "no table", x.land(-1), NONE);
        due(8, "no table", x.land(6), NONE);
        x.row(0, 1, 10);
        x.row(1, 1, 1);
        due(8, "land", x.land(0), 1);
        due(8, "land", x.land(1), 1);
        due(8, "land", x.land(2), 1);
        Check.ticked(x, 4);
        due(8, "done", x.count(5), 5);
        due(8, "value", x.value(2, 1), 11);
        due(8, "land of a table that nothing needs", x.land(5), 1);
        due(8, "done", x.count(5), 5);
        x.row(1, 1, 5);
        due(8, "land again", x.land(1), 2);
        due(8, "rows", x.table(1, 1), 1);
        due(8, "a stays done", x.step(0, 5), 2);
        due(8, "b is not done", x.step(1, 5), 0);
        due(8, "c, by b, is not done", x.step(2, 5), 0);
        due(8, "d stays done", x.step(3, 5), 2);
        Check.ticked(x, 2);
        due(8, "value anew, of the new rows alone", x.value(2, 1), 15);
        due(8, "land without rows", x.land(0), 2);
        due(8, "rows", x.table(0, 1), 0);
        due(8, "all but d and e are undone", x.count(5), 2);
        Check.ticked(x, 3);
        due(8, "value anew", x.value(2, 1), 5);
        due(8, "times done", x.step(2, 7), 3);
        due(8, "times done", x.step(4, 7), 1);
    }

    private static void landingWhileUnderWay() {
        DawnHouse x = houseOf("part a takes 3=sum(0); part b takes 4=sum(1);");
        x.hosts(2);
        x.land(0);
        x.land(1);
        Check.ticked(x, 2);
        due(8, "under way", x.count(4), 2);
        x.row(0, 0, 3);
        x.land(0);
        due(8, "under way", x.count(4), 1);
        due(8, "a is lost", x.step(0, 5), 0);
        due(8, "its ticks too", x.step(0, 8), 0);
        due(8, "b goes on", x.step(1, 8), 2);
        x.tick();
        due(8, "a begins anew", x.step(0, 8), 1);
        due(8, "b", x.step(1, 8), 3);
        x.tick();
        due(8, "b is done", x.step(1, 6), 4);
        x.tick();
        due(8, "a is done", x.step(0, 6), 5);
        due(8, "a", x.value(0, 0), 3);
    }

    private static void readers() {
        DawnHouse x = new DawnHouse();
        due(9, "rights -1", x.reader(-1), NONE);
        due(9, "rights 256", x.reader(256), NONE);
        due(9, "count", x.count(1), 0);
        for (int r = 0; r < 6; r++) {
            due(9, "reader", x.reader(r == 0 ? 0 : 255), r);
        }
        due(9, "a seventh", x.reader(1), NONE);
        due(9, "count", x.count(1), 6);
    }

    private static void rightsOfReaders() {
        DawnHouse x = houseOf("report a takes 1 due 9 weight 1=sum(0);");
        due(10, "no reader", x.rights(0, 1), false);
        x.reader(1);
        due(10, "no reader", x.rights(1, 1), false);
        due(10, "no reader", x.rights(-1, 1), false);
        due(10, "rights -1", x.rights(0, -1), false);
        due(10, "rights 256", x.rights(0, 256), false);
        x.reads(0, 0);
        for (int g = 0; g < 8; g++) {
            x.row(0, g, g + 1);
        }
        x.land(0);
        x.tick();
        due(10, "sent", x.sent(0, 0, 0), 1);
        due(10, "sent to no right", x.sent(0, 0, 1), 0);
        due(10, "rights", x.rights(0, 128 + 2), true);
        due(10, "what went stays", x.sent(0, 0, 0), 1);
        due(10, "nothing goes by that", x.marks(0, 0), 1);
        x.row(0, 1, 2);
        x.row(0, 7, 8);
        x.land(0);
        x.tick();
        due(10, "sent by new rights", x.sent(0, 0, 0), 0);
        due(10, "sent by new rights", x.sent(0, 0, 1), 2);
        due(10, "sent by new rights", x.sent(0, 0, 7), 8);
        due(10, "all together", x.sent(0, 0, NONE), 10);
        due(10, "the same rights", x.rights(0, 130), true);
        due(10, "no rights", x.rights(0, 0), true);
        due(10, "all rights", x.rights(0, 255), true);
    }

    private static void holding() {
        DawnHouse x = houseOf("report a takes 1 due 9 weight 1=sum(0); report b takes 2 due 9 weight 1=sum(0);"
            + " report c takes 1 due 9 weight 1=sum(1);");
        due(11, "no reader", x.hold(0, true), false);
        x.reader(255);
        x.reader(255);
        due(11, "no reader", x.hold(2, true), false);
        due(11, "no reader", x.hold(-1, true), false);
        due(11, "not held at first", x.hold(0, false), false);
        for (int step = 0; step < 3; step++) {
            x.reads(step, 0);
            x.reads(step, 1);
        }
        due(11, "hold", x.hold(0, true), true);
        due(11, "hold again", x.hold(0, true), false);
        x.row(0, 0, 4);
        x.land(0);
        Check.ticked(x, 2);
        due(11, "held: nothing goes", x.marks(0, 0), 0);
        due(11, "to another it does", x.marks(0, 1), 1);
        due(11, "no more", x.hold(0, false), true);
        due(11, "what is done goes", x.marks(0, 0), 1);
        due(11, "what is done goes", x.sent(0, 0, 0), 4);
        due(11, "what is under way does not", x.marks(1, 0), 0);
        x.tick();
        due(11, "but later", x.marks(1, 0), 1);
        x.hold(0, true);
        x.hold(0, false);
        due(11, "nothing differs", x.count(6), 4);
        x.hold(0, true);
        x.rights(0, 2);
        x.hold(0, false);
        due(11, "rights differ", x.sent(0, 0, 0), 0);
        due(11, "rights differ", x.marks(0, 0), 2);
        due(11, "rights differ", x.marks(1, 0), 2);
        due(11, "not done", x.marks(2, 0), 0);
        x.hold(0, true);
        x.rights(0, 255);
        x.land(0);
        x.hold(0, false);
        due(11, "not done any more", x.marks(0, 0), 2);
        due(11, "what went last", x.sent(0, 0, 0), 0);
    }

    private static void readsOfReaders() {
        DawnHouse x = houseOf("part p takes 1=1; report a takes 1 due 9 weight 1=p;");
        due(12, "no reader", x.reads(1, 0), false);
        x.reader(255);
        due(12, "a part", x.reads(0, 0), false);
        due(12, "no step", x.reads(2, 0), false);
        due(12, "no step", x.reads(-1, 0), false);
        due(12, "no reader", x.reads(1, 1), false);
        due(12, "no reader", x.reads(1, -1), false);
        Check.ticked(x, 2);
        due(12, "done", x.step(1, 5), 2);
        due(12, "reads", x.reads(1, 0), true);
        due(12, "nothing goes by that alone", x.marks(1, 0), 0);
        due(12, "again", x.reads(1, 0), false);
        x.hold(0, true);
        x.hold(0, false);
        due(12, "held and no more", x.sent(1, 0, 5), 1);
    }

    private static void hostsOfHouse() {
        DawnHouse x = houseOf("part a takes 2=1; part b takes 2=1; part c takes 2=1; part d takes 2=1;");
        due(13, "hosts 0", x.hosts(0), false);
        due(13, "hosts 4", x.hosts(4), false);
        due(13, "hosts -1", x.hosts(-1), false);
        due(13, "hosts", x.count(3), 1);
        due(13, "hosts 3", x.hosts(3), true);
        due(13, "hosts 3 again", x.hosts(3), true);
        x.tick();
        due(13, "under way", x.count(4), 3);
        due(13, "hosts while under way", x.hosts(1), false);
        due(13, "the same while under way", x.hosts(3), false);
        x.tick();
        due(13, "done", x.count(5), 3);
        due(13, "hosts 2", x.hosts(2), true);
        due(13, "hosts", x.count(3), 2);
        due(13, "hosts 1", x.hosts(1), true);
        due(13, "hosts", x.count(3), 1);
        x.tick();
        due(13, "one host works at the last", x.step(3, 8), 1);
    }

    private static void ticks() {
        DawnHouse x = houseOf("part a takes 2=1; part b takes 1=a; report c takes 20 due 9 weight 1=b+sum(0);");
        due(14, "tick", x.tick(), 1);
        due(14, "a", x.step(0, 8), 1);
        due(14, "b waits", x.step(1, 5), 0);
        due(14, "tick", x.tick(), 2);
        due(14, "a is done", x.step(0, 5), 2);
        due(14, "b is ready in the next tick", x.step(1, 5), 0);
        x.tick();
        due(14, "b begins and is done", x.step(1, 6), 3);
        x.tick();
        due(14, "c waits for its table", x.step(2, 5), 0);
        x.land(0);
        Check.ticked(x, 19);
        due(14, "c", x.step(2, 8), 19);
        x.tick();
        due(14, "c is done", x.step(2, 6), 24);
        Check.ticked(x, 374);
        due(14, "the last tick", x.tick(), 399);
        due(14, "beyond", x.tick(), NONE);
        due(14, "now", x.count(2), 399);
        x.land(0);
        due(14, "beyond", x.tick(), NONE);
        due(14, "nothing happens", x.count(4), 0);

        DawnHouse y = houseOf("part a takes 1=1; part b takes 1=a; part c takes 1=1;");
        y.hosts(2);
        y.tick();
        due(14, "a and c", y.count(5), 2);
        due(14, "b not in the same tick", y.step(1, 5), 0);
    }

    private static void ticksByOrder() {
        DawnHouse x = houseOf("report a takes 4 due 4 weight 1=1; report b takes 2 due 2 weight 1=1; part c takes 1=1;");
        due(14, "plan", x.plan(), 2);
        due(14, "order", x.order(0), 1);
        x.tick();
        due(14, "b is first", x.step(1, 5), 1);
        due(14, "a is not", x.step(0, 5), 0);
        Check.ticked(x, 5);
        due(14, "a", x.step(0, 6), 6);
        due(14, "c is last", x.step(2, 5), 0);
        x.tick();
        due(14, "c", x.step(2, 6), 7);
    }

    private static void plans() {
        DawnHouse x = houseOf("report a takes 3 due 3 weight 1=1; report b takes 2 due 2 weight 1=1; report c takes 1 due 1 weight 9=1;");
        due(15, "plan", x.plan(), 1 + 3);
        due(15, "order", x.order(0) * 100 + x.order(1) * 10 + x.order(2), 210);
        due(15, "plan of alike ones", houseOf("report a takes 1 due 1 weight 1=1; report b takes 1 due 1 weight 1=1;").plan(), 1);

        DawnHouse y = houseOf("report a takes 1 due 0 weight 1=1; report b takes 1 due 0 weight 1=1; report c takes 1 due 0 weight 1=1;");
        due(15, "plan", y.plan(), 6);
        due(15, "the first of alike ones", y.order(0) * 100 + y.order(1) * 10 + y.order(2), 12);
        y.tick();
        due(15, "plan with one done, which is late", y.plan(), 6);
        y.tick();
        y.tick();
        due(15, "plan with all done", y.plan(), 6);
        y.tick();
        due(15, "lates of done ones stay", y.plan(), 6);

        DawnHouse z = houseOf("report a takes 20 due 0 weight 0=1; report b takes 1 due 399 weight 100=sum(0); report c takes 1 due 0 weight 100=1;");
        z.span(0, 0, 399);
        due(15, "weight 0 may wait", z.plan(), 100);
        due(15, "a is behind c", z.order(0) * 100 + z.order(1) * 10 + z.order(2), 120);

        // A HOST does not wait for a STEP that will be READY later: b begins at once and holds up a.
        DawnHouse w = houseOf("report a takes 1 due 2 weight 5=sum(0); report b takes 4 due 9 weight 1=1;");
        w.span(0, 1, 2);
        due(15, "no order helps", w.plan(), 15);
        due(15, "with two hosts", w.hosts(2), true);
        due(15, "nothing is late", w.plan(), 0);
    }

    private static void plansWithIdleSteps() {
        DawnHouse x = houseOf("part a takes 1=1; report b takes 9 due 9 weight 1=1; part c takes 1=1;"
            + " report d takes 5 due 9 weight 1=sum(0); report e takes 1 due 9 weight 1=sum(0);");
        x.span(0, 4, 5);
        Check.ticked(x, 2);
        due(15, "a is done, b is under way", x.count(4) * 10 + x.count(5), 11);
        due(15, "plan", x.plan(), 1 + 2 + 7);
        // b ends at 10, then e at 11 and d at 16; a and b stand as early as they can.
        int[] order = {0, 1, 4, 3, 2};
        due(15, "ends", x.foreseen(4) * 100 + x.foreseen(3), 1116);
        for (int i = 0; i < 5; i++) {
            due(15, "order " + i, x.order(i), order[i]);
        }
    }

    private static void orders() {
        DawnHouse x = houseOf("report a takes 2 due 2 weight 1=1; report b takes 1 due 1 weight 5=1;");
        due(16, "by numbers ahead of any plan", x.order(0), 0);
        due(16, "by numbers", x.order(1), 1);
        due(16, "not so many", x.order(2), NONE);
        due(16, "below 0", x.order(-1), NONE);
        due(16, "far off", x.order(Integer.MAX_VALUE), NONE);
        x.plan();
        due(16, "by plan", x.order(0), 1);
        due(16, "by plan", x.order(1), 0);
        due(16, "not so many", x.order(2), NONE);
        x.hosts(2);
        due(16, "until the next plan", x.order(0), 1);
        x.plan();
        due(16, "by the latest plan", x.order(0), 0);
    }

    private static void foreseenEnds() {
        DawnHouse x = houseOf("part a takes 3=sum(0); report b takes 2 due 9 weight 1=a+sum(1); part c takes 4=1;");
        due(17, "no step", x.foreseen(-1), NONE);
        due(17, "no step", x.foreseen(3), NONE);
        due(17, "a: spans end at 0, so in the next tick", x.foreseen(0), 3);
        due(17, "b", x.foreseen(1), 5);
        due(17, "c", x.foreseen(2), 9);
        x.span(0, 1, 3);
        due(17, "c begins while a can't", x.foreseen(2), 4);
        due(17, "a lands at 3, but the host is free at 5", x.foreseen(0), 7);
        due(17, "b", x.foreseen(1), 9);
        x.hosts(2);
        due(17, "a with two hosts", x.foreseen(0), 5);
        due(17, "b with two hosts", x.foreseen(1), 7);
        x.span(1, 2, 8);
        due(17, "b waits for its table", x.foreseen(1), 9);
        x.tick();
        x.tick();
        due(17, "c goes on", x.foreseen(2), 4);
        x.tick();
        due(17, "a lands in the next tick: its span is over", x.foreseen(0), 6);
        x.land(0);
        due(17, "a has landed", x.foreseen(0), 6);
        x.tick();
        x.tick();
        due(17, "c is done", x.foreseen(2), 4);
        due(17, "a goes on", x.foreseen(0), 6);
        due(17, "nothing changed", x.count(2), 5);
    }

    private static void foreseenAtTheEnd() {
        DawnHouse x = houseOf("report a takes 2 due 399 weight 7=sum(0); part b takes 20=1; report c takes 1 due 390 weight 1=b;");
        Check.ticked(x, 378);
        due(17, "b", x.step(1, 6), 20);
        due(17, "c", x.step(2, 6), 21);
        x.span(0, 0, 398);
        due(17, "a by 399", x.foreseen(0), 399);
        due(17, "not late", x.plan(), 0);
        x.span(0, 0, 399);
        due(17, "a beyond 399", x.foreseen(0), 400);
        due(17, "late", x.plan(), 7);
        Check.ticked(x, 21);
        due(17, "at 399", x.foreseen(0), 400);
        x.land(0);
        due(17, "at 399, landed", x.foreseen(0), 400);
        due(17, "c is done", x.foreseen(2), 21);
        due(18, "sure at 399", x.sure(0), 1);

        DawnHouse y = houseOf("part a takes 20=sum(0); report b takes 1 due 0 weight 100=a;");
        y.span(0, 390, 390);
        due(17, "a that goes on beyond", y.foreseen(0), 400);
        due(17, "what needs it", y.foreseen(1), 400);
        due(15, "plan", y.plan(), 40000);
    }

    private static void sureLateness() {
        DawnHouse x = houseOf("part a takes 3=sum(0); report b takes 2 due 5 weight 1=a+sum(1); report c takes 4 due 4 weight 1=1;");
        due(18, "no step", x.sure(3), NONE);
        due(18, "no step", x.sure(-1), NONE);
        due(18, "a part", x.sure(0), NONE);
        due(18, "b may end at 5", x.sure(1), 0);
        due(18, "c may end at 4, whatever hosts there are", x.sure(2), 0);
        x.span(0, 1, 9);
        due(18, "b by the begin of the span", x.sure(1), 0);
        x.span(1, 4, 4);
        due(18, "b with its table at 4", x.sure(1), 0);
        x.span(1, 5, 5);
        due(18, "b with its table at 5", x.sure(1), 1);
        x.span(1, 0, 0);
        x.span(0, 2, 9);
        due(18, "b with a's table at 2", x.sure(1), 1);
        x.span(0, 1, 9);
        x.tick();
        due(18, "c is under way and may end at 4", x.sure(2), 0);
        due(18, "b at 1 can't end by 5 any more", x.sure(1), 1);
        Check.ticked(x, 3);
        due(18, "c is done at 4", x.sure(2), 0);
        x.land(0);
        Check.ticked(x, 3);
        due(18, "b is sure to be late", x.sure(1), 1);
        x.land(1);
        Check.ticked(x, 2);
        due(18, "b is done at 9, late", x.sure(1), 1);
        due(18, "c stays on time", x.sure(2), 0);

        DawnHouse y = houseOf("report a takes 2 due 3 weight 1=1; report b takes 2 due 3 weight 1=1;");
        y.tick();
        due(18, "a", y.sure(0), 0);
        due(18, "b is READY", y.sure(1), 0);
        y.tick();
        due(18, "a is done", y.sure(0), 0);
        due(18, "b can't", y.sure(1), 1);
    }

    private static void stepsAnswers() {
        DawnHouse x = houseOf("part a takes 2=sum(5)*count(0); report b takes 3 due 17 weight 42=a-most(2); part c takes 20=1;");
        int[][] want = {{0, 2, 0, 0, 33, 0, NONE, 0, 0}, {1, 3, 17, 42, 37, 0, NONE, 0, 0}, {0, 20, 0, 0, 0, 0, NONE, 0, 0}};
        for (int k = 0; k < 3; k++) {
            for (int what = 0; what <= 8; what++) {
                due(19, "step " + k + " " + what, x.step(k, what), want[k][what]);
            }
            due(19, "what -1", x.step(k, -1), NONE);
            due(19, "what 9", x.step(k, 9), NONE);
        }
        due(19, "no step", x.step(3, 0), NONE);
        due(19, "no step", x.step(-1, 0), NONE);
        due(19, "no step", x.step(Integer.MIN_VALUE, 0), NONE);
        x.hosts(3);
        x.land(0);
        x.land(2);
        x.land(5);
        x.tick();
        due(19, "under way", x.step(0, 5), 1);
        due(19, "worked", x.step(0, 8), 1);
        x.tick();
        due(19, "done", x.step(0, 5), 2);
        due(19, "its tick", x.step(0, 6), 2);
        due(19, "times", x.step(0, 7), 1);
        due(19, "worked, but done", x.step(0, 8), 0);
        x.land(5);
        due(19, "not done", x.step(0, 5), 0);
        due(19, "no tick", x.step(0, 6), NONE);
        due(19, "times stay", x.step(0, 7), 1);
        Check.ticked(x, 2);
        due(19, "times", x.step(0, 7), 2);
        due(19, "its tick", x.step(0, 6), 4);
    }

    private static void valuesOfSteps() {
        DawnHouse x = houseOf("part a takes 1=most(0); part b takes 1=sum(0)*2-count(0)*3-1; part c takes 1=max(a,b)*(2+1)-5-4;"
            + " part d takes 2=max(1,max(2,0))+2*3; report e takes 1 due 9 weight 1=a;");
        x.row(0, 0, -5);
        x.row(0, 0, -7);
        x.row(0, 3, 6);
        x.row(0, 3, 2);
        x.row(0, 3, 6);
        x.land(0);
        due(20, "not done", x.value(0, 0), 0);
        Check.ticked(x, 3);
        due(20, "most below 0", x.value(0, 0), -5);
        due(20, "most", x.value(0, 3), 6);
        due(20, "most without one", x.value(0, 1), 0);
        due(20, "b", x.value(1, 0), -24 - 6 - 1);
        due(20, "b", x.value(1, 3), 28 - 9 - 1);
        due(20, "b without rows", x.value(1, 7), -1);
        due(20, "c", x.value(2, 0), -15 - 9);
        due(20, "c", x.value(2, 3), 18 * 3 - 9);
        due(20, "c", x.value(2, 7), -9);
        x.tick();
        due(20, "under way", x.value(3, 0), 0);
        x.tick();
        due(20, "an INT is the same in each", x.value(3, 0), 8);
        due(20, "an INT is the same in each", x.value(3, 7), 8);
        due(20, "no group", x.value(3, 8), 0);
        due(20, "no group", x.value(3, -1), 0);
        due(20, "no step", x.value(5, 0), 0);
        due(20, "no step", x.value(-1, 0), 0);
        x.tick();
        due(20, "a report", x.value(4, 3), 6);
        x.row(0, 3, 1);
        due(20, "loaded, but not landed", x.value(4, 3), 6);
        x.land(0);
        due(20, "not done any more", x.value(4, 3), 0);
        due(20, "done still", x.value(3, 3), 8);
        x.tick();
        due(20, "most of the new rows alone", x.value(0, 3), 1);
        due(20, "most without one any more", x.value(0, 0), 0);
    }

    private static void needsOfSteps() {
        DawnHouse x = houseOf("part a takes 1=sum(0)+sum(1); part b takes 1=2; part c takes 1=a*sum(2)+b; report d takes 1 due 9 weight 1=c+sum(4)+sum(4);");
        due(19, "tables of a", x.step(0, 4), 3);
        due(19, "tables of b", x.step(1, 4), 0);
        due(19, "tables of c", x.step(2, 4), 7);
        due(19, "tables of d", x.step(3, 4), 23);
        x.hosts(3);
        x.land(1);
        x.land(2);
        x.land(4);
        x.tick();
        due(14, "a waits for one of two tables", x.step(0, 5), 0);
        due(14, "b needs none", x.step(1, 5), 2);
        x.tick();
        due(14, "c waits for one of two parts", x.step(2, 5), 0);
        x.land(0);
        Check.ticked(x, 3);
        due(14, "all are done", x.count(5), 4);
        Check.give(x, "report a takes 1 due 9 weight 1=7; part b takes 1=8;");
        due(4, "read", x.read(), 0);
        int[][] want = {{1, 1, 9, 1, 0}, {0, 1, 0, 0, 0}};
        for (int k = 0; k < 2; k++) {
            for (int what = 0; what <= 4; what++) {
                due(19, "nothing is left of the text before", x.step(k, what), want[k][what]);
            }
        }
        x.hosts(1);
        Check.ticked(x, 2);
        due(20, "nor of its code", x.value(0, 0) * 10 + x.value(1, 7), 78);
    }

    private static void valuesThatWrap() {
        DawnHouse x = houseOf("part a takes 1=sum(0); part b takes 1=a*a*2; part c takes 1=b+b; part d takes 1=0-sum(1)-sum(1);");
        for (int n = 0; n < 40; n++) {
            x.row(0, 0, Integer.MAX_VALUE);
            x.row(1, 0, Integer.MIN_VALUE);
        }
        x.land(0);
        x.land(1);
        Check.ticked(x, 4);
        long a = 40L * Integer.MAX_VALUE;
        due(20, "beyond an int", x.value(0, 0), a);
        due(20, "beyond a long", x.value(1, 0), a * a * 2);
        due(20, "beyond a long", x.value(2, 0), a * a * 4);
        due(20, "beyond an int, below 0", x.value(3, 0), 80L << 31);
    }

    private static void sentOnceAndAgain() {
        DawnHouse x = houseOf("part p takes 1=sum(0); report a takes 1 due 9 weight 1=p;");
        x.reader(3);
        x.reader(0);
        x.reads(1, 0);
        x.reads(1, 1);
        due(21, "nothing went", x.sent(1, 0, 0), 0);
        x.row(0, 0, 4);
        x.row(0, 1, -9);
        x.row(0, 2, 100);
        x.land(0);
        Check.ticked(x, 2);
        due(21, "sent", x.sent(1, 0, 0), 4);
        due(21, "sent", x.sent(1, 0, 1), -9);
        due(21, "no right", x.sent(1, 0, 2), 0);
        due(21, "all together", x.sent(1, 0, NONE), -5);
        due(21, "no group", x.sent(1, 0, 8), 0);
        due(21, "no group", x.sent(1, 0, -2), 0);
        due(21, "a part", x.sent(0, 0, 0), 0);
        due(21, "no step", x.sent(2, 0, 0), 0);
        due(21, "no step", x.sent(-1, 0, NONE), 0);
        due(21, "no reader", x.sent(1, 2, 0), 0);
        due(21, "no step, no reader", x.sent(9, 9, 0), 0);
        due(21, "no reader", x.sent(1, -1, NONE), 0);
        due(22, "the first goes, be it all 0", x.marks(1, 1), 1);
        x.row(0, 0, 4);
        x.row(0, 1, -9);
        x.row(0, 2, 200);
        x.land(0);
        due(21, "what went stays", x.sent(1, 0, 0), 4);
        Check.ticked(x, 2);
        due(21, "nothing of its rights differs", x.marks(1, 0), 1);
        x.row(0, 0, -9);
        x.row(0, 1, 4);
        x.land(0);
        Check.ticked(x, 2);
        due(21, "it differs, though not all together", x.marks(1, 0), 2);
        due(21, "sent", x.sent(1, 0, 0), -9);
        due(21, "all together", x.sent(1, 0, NONE), -5);
        due(21, "nothing differs for one without rights", x.marks(1, 1), 1);

        DawnHouse y = houseOf("report a takes 1 due 9 weight 1=sum(0)*2147*1000*1000*1000;");
        y.reader(255);
        y.reads(0, 0);
        y.row(0, 0, 4000000);
        y.row(0, 1, 4000000);
        y.land(0);
        y.tick();
        due(21, "all together wraps", y.sent(0, 0, NONE), 2 * (4000000L * 2147L * 1000L * 1000L * 1000L));
    }

    private static void marksOfReaders() {
        DawnHouse x = houseOf("part p takes 1=1; report a takes 1 due 9 weight 1=sum(0); report b takes 1 due 9 weight 1=count(0);");
        x.reader(255);
        x.reader(255);
        due(22, "does not read it", x.marks(1, 0), NONE);
        x.reads(1, 0);
        x.reads(2, 0);
        x.reads(2, 1);
        due(22, "reads it", x.marks(1, 0), 0);
        due(22, "does not read it", x.marks(1, 1), NONE);
        due(22, "a part", x.marks(0, 0), NONE);
        due(22, "no step", x.marks(3, 0), NONE);
        due(22, "no step", x.marks(-1, 0), NONE);
        due(22, "no reader", x.marks(1, 2), NONE);
        due(22, "no reader", x.marks(1, -1), NONE);
        for (int n = 0; n < 4; n++) {
            x.row(0, 0, n / 2);
            x.land(0);
            Check.ticked(x, 3);
        }
        due(22, "a differed once", x.marks(1, 0), 2);
        due(22, "b did not", x.marks(2, 0), 1);
        due(22, "b did not", x.marks(2, 1), 1);
        due(24, "marks of all", x.count(6), 4);
        due(19, "times done", x.step(1, 7), 4);
    }

    private static void tablesAnswers() {
        DawnHouse x = new DawnHouse();
        x.span(2, 11, 22);
        x.row(2, 0, 1);
        x.row(2, 0, 1);
        x.row(2, 0, 1);
        x.land(2);
        x.land(2);
        x.row(2, 5, 1);
        x.row(2, 5, 1);
        x.land(2);
        x.row(2, 5, 1);
        int[] want = {3, 2, 1, 11, 22};
        for (int what = 0; what < 5; what++) {
            due(23, "table 2 " + what, x.table(2, what), want[what]);
            due(23, "no table", x.table(6, what), NONE);
            due(23, "no table", x.table(-1, what), NONE);
        }
        due(23, "what 5", x.table(2, 5), NONE);
        due(23, "what -1", x.table(2, -1), NONE);
    }

    private static void counts() {
        DawnHouse x = houseOf("part a takes 1=1; part b takes 3=1; part c takes 3=1; report d takes 1 due 1 weight 1=a;");
        x.hosts(3);
        x.reader(255);
        x.reader(255);
        x.reads(3, 0);
        x.reads(3, 1);
        Check.give(x, "part");
        Check.ticked(x, 2);
        int[] want = {4, 2, 2, 3, 2, 2, 2, 4};
        for (int what = 0; what < 8; what++) {
            due(24, "count " + what, x.count(what), want[what]);
        }
        due(24, "count 8", x.count(8), NONE);
        due(24, "count -1", x.count(-1), NONE);
    }
}
