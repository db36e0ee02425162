/** The tape and the text: each sentence of the document that names a boundary case (Terms II, promises 2 to 5). */
public final class DawnHouseBoundsText {
    private static final int NONE = DawnHouse.NONE;
    private static final String LETTERS = "abcdefghijklmnopqrstuvwxyz";
    private static final String DIGITS = "0123456789";
    private static final String BLANKS = "\t\n\r ";
    private static final String SIGNS = ";,=+-*()";
    private static final String[] WORDS = {"part", "report", "takes", "due", "weight", "sum", "count", "most", "max"};

    public static void main(String[] args) {
        feedTwentyBytes();
        feedBeyondFull();
        backBytes();
        backRefused();
        readEmptiesTape();
        placeOfLatest();
        fullText();
        blanksBetween();
        longestTokens();
        namesBegin();
        namesGoOn();
        namesAtMostEight();
        namesAreNoWords();
        intsOfDigits();
        signs();
        noTokens();
        textOfSteps();
        stepsOfPartsAndReports();
        sumsAndProducts();
        units();
        stepsNumbered();
        longsThatWrap();
        figuresOfGroups();
        intInEach();
        nameOfPart();
        needs();
        firstByPlace();
        leastOfOnePlace();
        syntax();
        roomOfTokens();
        roomOfSteps();
        roomOfBrackets();
        onlyIfThereIsNone();
        twice();
        name();
        wrong();
        faultChangesNothing();
        textBeginsAnew();
        fullHouseBeginsAnew();
        hostsBeginAnew();
        nothingIsLeftOfOldSteps();
        Check.end();
    }

    private static void sentence(String words) {
        Check.sentence(words);
    }

    private static void due(String call, long got, long want) {
        Check.due(call, got, want);
    }

    private static boolean isIn(String bytes, char c) {
        return bytes.indexOf(c) >= 0;
    }

    private static void feedTwentyBytes() {
        sentence("Twenty bytes, the highest of a first, come behind the tape: how many it has.");
        for (int i = 0; i < 40; i++) {
            char[] text = " ".repeat(40).toCharArray();
            text[i] = i % 2 == 0 ? (char) 255 : (char) 128;
            DawnHouse x = new DawnHouse();
            due("first feed", Check.feed(x, new String(text, 0, 20)), 20);
            due("second feed", Check.feed(x, new String(text, 20, 20)), 40);
            due("read of a byte at " + i, x.read(), 1);
            due("place of a byte at " + i, x.place(), i);
        }
        DawnHouse y = new DawnHouse();
        due("feed", y.feed(0x70617274, 0x20612074, 0x616b6573, 0x20373d31, 0x3b0a0d09), 20);
        due("read", y.read(), 0);
        due("takes", y.step(0, 1), 7);
    }

    private static DawnHouse tapeOfBlanks(int bytes) {
        DawnHouse x = new DawnHouse();
        for (int n = 0; n < 100; n++) {
            Check.feed(x, " ".repeat(20));
        }
        x.back(2000 - bytes);
        return x;
    }

    private static void feedBeyondFull() {
        sentence("NONE, and nothing comes, if it would have more than 2,000.");
        for (int has = 1960; has <= 2000; has++) {
            boolean fits = has <= 1980;
            DawnHouse x = tapeOfBlanks(has);
            due("feed onto " + has, Check.feed(x, "?".repeat(20)), fits ? has + 20 : NONE);
            due("bytes, fed onto " + has, x.count(7), fits ? has + 20 : has);
            due("read, fed onto " + has, x.read(), fits ? 1 : 0);
            due("place, fed onto " + has, x.place(), fits ? has : NONE);
        }
    }

    private static void backBytes() {
        sentence("The last n bytes of the tape go: how many it has.");
        DawnHouse x = new DawnHouse();
        due("back 0 of none", x.back(0), 0);
        Check.feed(x, "part a takes 1=1;???");
        due("back 0", x.back(0), 20);
        due("back 3", x.back(3), 17);
        due("read without what went", x.read(), 0);
        due("back 2,000 of 2,000", tapeOfBlanks(2000).back(2000), 0);
        DawnHouse y = new DawnHouse();
        Check.feed(y, "?".repeat(20));
        due("back all", y.back(20), 0);
        due("feed behind nothing", Check.feed(y, "part a takes 1=1;   "), 20);
        due("read", y.read(), 0);
        due("steps", y.count(0), 1);
    }

    private static void backRefused() {
        sentence("NONE, and nothing goes, if it has not so many, or n is below 0.");
        due("back 1 of none", new DawnHouse().back(1), NONE);
        due("back -1 of none", new DawnHouse().back(-1), NONE);
        for (int n : Check.edges()) {
            DawnHouse x = new DawnHouse();
            Check.feed(x, "part a takes 1=1;   ");
            boolean goes = n >= 0 && n <= 20;
            due("back " + n + " of 20", x.back(n), goes ? 20 - n : NONE);
            due("bytes after back " + n, x.count(7), goes ? 20 - n : 20);
        }
        DawnHouse y = new DawnHouse();
        Check.feed(y, "part a takes 1=1;   ");
        due("back 21 of 20", y.back(21), NONE);
        due("back -1", y.back(-1), NONE);
        due("read of all that is there", y.read(), 0);
        due("steps", y.count(0), 1);
        due("back 2,001 of 2,000", tapeOfBlanks(2000).back(2001), NONE);
    }

    private static void readEmptiesTape() {
        sentence("The tape, which is empty then, is read: 0, or the number of its FAULT.");
        String[] texts = {"part a takes 1=1;", "part", "part a takes 1=(((((((1)))))));",
            "part a takes 1=1;part a takes 1=1;", "part a takes 1=b;", "part a takes 0=1;"};
        for (int fault = 0; fault <= 5; fault++) {
            DawnHouse x = new DawnHouse();
            due("read of " + texts[fault], Check.read(x, texts[fault]), fault);
            due("bytes then", x.count(7), 0);
            due("back then", x.back(1), NONE);
            due("feed then", Check.feed(x, "part a takes 2=1;   "), 20);
            due("read of that alone", x.read(), 0);
            due("takes", x.step(0, 1), 2);
            due("read of nothing", x.read(), 0);
            due("steps of nothing", x.count(0), 0);
        }
    }

    private static void placeOfLatest() {
        sentence("The byte of the latest read()'s FAULT; NONE without.");
        DawnHouse x = new DawnHouse();
        due("place ahead of any read", x.place(), NONE);
        Check.read(x, ";");
        due("place at the first byte", x.place(), 0);
        Check.feed(x, "part a takes 1=b;   ");
        due("place while a text is fed", x.place(), 0);
        x.read();
        due("place of the latest", x.place(), 15);
        due("place asked again", x.place(), 15);
        Check.read(x, "part a takes 1=1;");
        due("place without a fault", x.place(), NONE);
        Check.read(x, "part");
        due("place at the end", x.place(), 4);
        x.read();
        due("place in an empty text", x.place(), NONE);
    }

    private static void fullText() {
        sentence("THE TEXT has 2,000 bytes at most.");
        String head = "part a takes 1=1";
        Check.fine(head + " ".repeat(1983) + ";");
        Check.fault(head + " ".repeat(1984), 1, 2000);
        Check.fault(head + " ".repeat(1983) + "?", 1, 1999);
        Check.fault(" ".repeat(1999) + "a", 1, 1999);
        Check.fine(" ".repeat(2000));
        Check.fault("a".repeat(2000), 1, 0);
        Check.fault("part a takes 1=" + "1".repeat(1985), 1, 15);
    }

    private static void blanksBetween() {
        sentence("TOKENS, the longest that can be, with blanks (9, 10, 13, 32) between or not");
        for (char c = 0; c < 256; c++) {
            boolean joins = isIn(LETTERS, c) || isIn(DIGITS, c);
            if (isIn(BLANKS, c)) {
                Check.fine("part" + c + "a takes 1=1;");
                Check.fine("" + c + c + "part a takes 1 =" + c + c + c + "1;" + c);
                Check.fine("" + c);
            } else {
                Check.fault("part" + c + "a takes 1=1;", 1, joins ? 0 : 4);
            }
        }
        Check.fine("part a takes 1=1;part b takes 1=max(a,a)*(a);");
        Check.fine(" part a takes 1 = 1 ; part b takes 1 = max ( a , a ) * ( a ) ; ");
        Check.fault("part a takes 1 = 1 \t\r\n", 1, 22);
    }

    private static void longestTokens() {
        sentence("TOKENS, the longest that can be");
        Check.fine("report a takes 1due 2weight 3=4;");
        Check.fault("part a takes1 = 1;", 1, 7);
        Check.fault("parta takes 1 = 1;", 1, 0);
        Check.fault("part a takes 1 = sum1(1);", 1, 21);
        Check.fault("part a takes 1 = maxi(1,1);", 1, 21);
        Check.fault("part a takes 1 = 12 34;", 1, 20);
        Check.fault("part a b takes 1 = 1;", 1, 7);
        Check.fine("part sumx takes 1=1; part ab takes 1=sumx;");
        Check.fault("part a takes 1=1; part b takes 1=1; part c takes 1=ab;", 4, 51);
    }

    private static void namesBegin() {
        sentence("NAMES (a letter a .. z, then letters and digits, at most 8;");
        for (char c = 0; c < 256; c++) {
            if (isIn(LETTERS, c)) {
                Check.fine("part " + c + " takes 1=1; part " + c + c + " takes 1=" + c + ";");
            } else {
                Check.fault("part " + c + " takes 1=1;", 1, isIn(BLANKS, c) ? 7 : 5);
            }
        }
    }

    private static void namesGoOn() {
        sentence("then letters and digits");
        for (char c = 0; c < 256; c++) {
            if (isIn(LETTERS, c) || isIn(DIGITS, c)) {
                Check.fine("part x" + c + " takes 1=1; part x" + c + "9 takes 1=x" + c + ";");
            } else if (isIn(BLANKS, c)) {
                Check.fine("part x" + c + " takes 1=1;");
            } else {
                Check.fault("part x" + c + " takes 1=1;", 1, 6);
            }
        }
    }

    private static void namesAtMostEight() {
        sentence("at most 8;");
        for (int length = 1; length <= 8; length++) {
            String name = "z".repeat(length);
            Check.fine("part " + name + " takes 1=1; part a takes 1=" + name + ";");
            name = "a" + "9".repeat(length - 1);
            Check.fine("part " + name + " takes 1=1; part b takes 1=" + name + ";");
        }
        for (int length = 9; length <= 40; length++) {
            Check.fault("part " + "z".repeat(length) + " takes 1=1;", 1, 5);
            Check.fault("part a takes 1=a" + "9".repeat(length - 1) + ";", 1, 15);
        }
        Check.fine("part abcdefgh takes 1=1; part abcdefgi takes 1=1; part bbcdefgh takes 1=1;");
        Check.fault("part abcdefgh takes 1=1; part a takes 1=abcdefg;", 4, 40);
        Check.fault("part bcdefgh takes 1=1; part c takes 1=abcdefgh;", 4, 39);
        // Nine letters of which the last eight, or more of which the last four, are a word.
        Check.fault("aaaaapart a takes 1=1;", 1, 0);
        Check.fault("part b takes 1=1; part c takes 1=xxxxxxxxb;", 1, 33);
    }

    private static void namesAreNoWords() {
        sentence("none of the words in quotes)");
        for (String word : WORDS) {
            Check.fault("part " + word + " takes 1=1;", 1, 5);
            Check.fault("report " + word + " takes 1 due 1 weight 1=1;", 1, 7);
            Check.fine("part " + word + "1 takes 1=1; part a takes 1=" + word + "1;");
            String less = word.substring(0, word.length() - 1);
            Check.fine("part " + less + " takes 1=1; part a takes 1=" + less + ";");
            String later = "x" + word.substring(1);
            Check.fine("part " + later + " takes 1=1; part a takes 1=" + later + ";");
        }
        for (int i = 0; i < 5; i++) {
            Check.fault("part a takes 1=" + WORDS[i] + ";", 1, 15);
        }
    }

    private static void intsOfDigits() {
        sentence("INTS (1 to 4 digits)");
        String[] fine = {"0", "9", "00", "99", "000", "999", "0000", "0001", "9999"};
        long[] values = {0, 9, 0, 99, 0, 999, 0, 1, 9999};
        for (int i = 0; i < fine.length; i++) {
            Check.fine("part a takes 1=" + fine[i] + ";");
            due("value of " + fine[i], Check.ticked(Check.houseOf("part a takes 1=" + fine[i] + ";"), 1).value(0, 0), values[i]);
        }
        // The last two are 1, if they wrap as an int or a long.
        String[] longer = {"00000", "00001", "10000", "99999", "123456", "4294967297", "18446744073709551617"};
        for (String digits : longer) {
            Check.fault("part a takes 1=" + digits + ";", 1, 15);
            Check.fault("part a takes " + digits + "=1;", 1, 13);
            Check.fault("report a takes 1 due " + digits + " weight 1=1;", 1, 21);
            Check.fault("report a takes 1 due 1 weight " + digits + "=1;", 1, 30);
            Check.fault("part a takes 1=sum(" + digits + ");", 1, 19);
        }
        Check.fine("part a takes 0020=sum(0005);");
        due("takes 0020", Check.houseOf("part a takes 0020=1;").step(0, 1), 20);
    }

    private static void signs() {
        sentence("SIGNS ; , = + - * ( ) .");
        Check.fine("part a takes 1=max(1,2)+3-4*(5);");
        for (char c : SIGNS.toCharArray()) {
            Check.fault("part a takes 1=" + (c == '(' ? ")" : c), 1, 15);
        }
        Check.fault("part a takes 1=1.", 1, 16);
        Check.fault("part a takes 1=1;.", 1, 17);
    }

    private static void noTokens() {
        sentence("A longer one, all else, is no TOKEN.");
        for (char c = 0; c < 256; c++) {
            boolean blank = isIn(BLANKS, c);
            Check.fault("" + c, blank ? 0 : 1, blank ? NONE : 0);
            String text = "part a takes 1=1" + c + "1;";
            if (isIn("+-*", c) || isIn(DIGITS, c)) {
                Check.fine(text);
            } else {
                Check.fault(text, 1, blank || c == ';' ? 17 : 16);
            }
        }
    }

    private static void textOfSteps() {
        sentence("text: {STEP}.");
        due("read of nothing at all", new DawnHouse().read(), 0);
        String text = "";
        for (int n = 0; n <= 7; n++) {
            DawnHouse x = Check.houseOf("part x takes 1=1;");
            due("read of " + n + " steps", Check.read(x, text), 0);
            due("steps", x.count(0), n);
            due("the last", x.step(n - 1, 1), n == 0 ? NONE : n);
            due("one behind the last", x.step(n, 1), NONE);
            text += "part a" + n + " takes " + (n + 1) + "=1;";
        }
        Check.fault("part a takes 1=1;;", 1, 17);
        Check.fault(";part a takes 1=1;", 1, 0);
    }

    private static final String UNIT = "INT NAME sum count most max (";
    // A text with all of the grammar in it, and what may stand in each place of it.
    private static final String[][] WALK = {
        {"part", "part report"}, {"p", "NAME"}, {"takes", "takes"}, {"1", "INT"}, {"=", "="}, {"1", UNIT}, {";", "+ - * ;"},
        {"report", "part report"}, {"r", "NAME"}, {"takes", "takes"}, {"2", "INT"}, {"due", "due"}, {"3", "INT"},
        {"weight", "weight"}, {"4", "INT"}, {"=", "="},
        {"sum", UNIT}, {"(", "("}, {"0", "INT"}, {")", ")"}, {"+", "+ - * ;"},
        {"count", UNIT}, {"(", "("}, {"1", "INT"}, {")", ")"}, {"-", "+ - * ;"},
        {"most", UNIT}, {"(", "("}, {"2", "INT"}, {")", ")"}, {"*", "+ - * ;"},
        {"max", UNIT}, {"(", "("}, {"p", UNIT}, {"+", "+ - * ,"}, {"5", UNIT}, {",", "+ - * ,"},
        {"(", UNIT}, {"6", UNIT}, {"-", "+ - * )"}, {"p", UNIT}, {")", "+ - * )"}, {"*", "+ - * )"}, {"7", UNIT},
        {")", "+ - * )"}, {"-", "+ - * ;"}, {"(", UNIT}, {"max", UNIT}, {"(", "("}, {"8", UNIT}, {",", "+ - * ,"},
        {"p", UNIT}, {")", "+ - * )"}, {")", "+ - * )"}, {";", "+ - * ;"}};
    private static final String[] SAMPLES = {"part", "report", "takes", "due", "weight", "sum", "count", "most", "max",
        "zz", "77", ";", ",", "=", "+", "-", "*", "(", ")", "?", "123456789", "abcdefghi"};

    private static void stepsOfPartsAndReports() {
        sentence("STEP: 'part' NAME 'takes' INT '=' E ';' | 'report' NAME 'takes' INT 'due' INT 'weight' INT '=' E ';'.");
        walk(0, 17);
    }

    private static void sumsAndProducts() {
        sentence("E: TERM {('+' | '-') TERM}. TERM: UNIT {'*' UNIT}.");
        walk(17, 46);
        DawnHouse x = Check.houseOf("part a takes 1=2+3*4;part b takes 1=2*3+4;part c takes 1=9-3-2;part d takes 1=9-3+2;"
            + "part e takes 1=(9-3)*2;part f takes 1=2*3*4-5*6;part g takes 1=9-(3-2);");
        long[] want = {14, 10, 4, 8, 12, -6, 8};
        Check.ticked(x, 7);
        for (int k = 0; k < 7; k++) {
            due("value of step " + k, x.value(k, 0), want[k]);
        }
    }

    private static void units() {
        sentence("UNIT: INT | NAME | ('sum' | 'count' | 'most') '(' INT ')' | 'max' '(' E ',' E ')' | '(' E ')'.");
        walk(46, WALK.length);
        Check.fault("part a takes 1=sum(1+1);", 1, 20);
        Check.fault("part a takes 1=sum(p);", 1, 19);
        Check.fault("part a takes 1=sum((1));", 1, 19);
        Check.fault("part a takes 1=max(1);", 1, 20);
        Check.fault("part a takes 1=max(1,2,3);", 1, 22);
        Check.fault("part a takes 1=max((1,2),3);", 1, 21);
        Check.fault("part a takes 1=(1,2);", 1, 17);
        Check.fault("part a takes 1=();", 1, 16);
        Check.fault("part a takes 1=-1;", 1, 15);
    }

    private static void walk(int from, int to) {
        String[] tokens = new String[WALK.length];
        for (int i = 0; i < WALK.length; i++) {
            tokens[i] = WALK[i][0];
        }
        for (int i = from; i <= to; i++) {
            String head = Check.join(" ", tokens, i);
            boolean whole = i == 0 || tokens[i - 1].equals(";");
            Check.fault(head, whole ? 0 : 1, whole ? NONE : head.length());
            Check.fault(head + " ", whole ? 0 : 1, whole ? NONE : head.length() + 1);
            String fits = i < WALK.length ? WALK[i][1] : "part report";
            for (String sample : SAMPLES) {
                String kind = sample.equals("zz") ? "NAME" : sample.equals("77") ? "INT" : sample;
                String text = head + " " + sample;
                if (!(" " + fits + " ").contains(" " + kind + " ")) {
                    Check.fault(text, 1, head.length() + 1);
                } else if (sample.equals(";")) {
                    Check.fine(text);
                } else {
                    Check.fault(text, 1, text.length());
                }
            }
        }
    }

    private static void stepsNumbered() {
        sentence("STEPS, parts and reports, are numbered together from 0 on.");
        DawnHouse x = Check.houseOf("report a takes 1 due 1 weight 1=1;part b takes 2=1;report c takes 3 due 1 weight 1=1;"
            + "part d takes 4=1;part e takes 5=1;report f takes 6 due 1 weight 1=1;report g takes 7 due 1 weight 1=1;");
        int[] report = {1, 0, 1, 0, 0, 1, 1};
        for (int k = 0; k < 7; k++) {
            due("kind of " + k, x.step(k, 0), report[k]);
            due("takes of " + k, x.step(k, 1), k + 1);
        }
        due("step -1", x.step(-1, 0), NONE);
        due("step 7", x.step(7, 0), NONE);
    }

    private static void longsThatWrap() {
        sentence("An E is eight longs, one for each GROUP, that wrap");
        DawnHouse x = Check.houseOf("part a takes 1=8192*8192*8192*8192*2048;part b takes 1=a-1;part c takes 1=b+1;"
            + "part d takes 1=a*2;part e takes 1=max(a,b);part f takes 1=max(b,a);part g takes 1=0-a;");
        Check.ticked(x, 7);
        long least = Long.MIN_VALUE;
        long most = Long.MAX_VALUE;
        long[] want = {least, most, least, 0, most, most, least};
        for (int k = 0; k < 7; k++) {
            for (int group = 0; group < 8; group++) {
                due("value of " + k + " in " + group, x.value(k, group), want[k]);
            }
        }
        DawnHouse y = Check.houseOf("part a takes 1=sum(0);part b takes 1=sum(0)*sum(0)*2;");
        for (int n = 0; n < 40; n++) {
            y.row(0, 7, Integer.MIN_VALUE);
        }
        y.land(0);
        Check.ticked(y, 2);
        long sum = 40L * Integer.MIN_VALUE;
        due("a sum beyond an int", y.value(0, 7), sum);
        due("a product beyond a long", y.value(1, 7), sum * sum * 2);
        due("another group", y.value(0, 6), 0);
    }

    private static void figuresOfGroups() {
        sentence("sum, count, most of a TABLE: of its ROWS of that GROUP (most: 0 without one)");
        DawnHouse x = Check.houseOf("part a takes 1=sum(5);part b takes 1=count(5);part c takes 1=most(5);"
            + "part d takes 1=most(0);part e takes 1=sum(0)+count(0);");
        x.row(5, 0, -5);
        x.row(5, 0, -7);
        x.row(5, 3, Integer.MIN_VALUE);
        x.row(5, 7, 0);
        x.row(5, 7, Integer.MAX_VALUE);
        x.row(5, 7, 1);
        x.land(5);
        x.land(0);
        x.row(5, 1, 100);
        Check.ticked(x, 5);
        long[] sums = {-12, 0, 0, Integer.MIN_VALUE, 0, 0, 0, 1L << 31};
        long[] counts = {2, 0, 0, 1, 0, 0, 0, 3};
        long[] mosts = {-5, 0, 0, Integer.MIN_VALUE, 0, 0, 0, Integer.MAX_VALUE};
        for (int group = 0; group < 8; group++) {
            due("sum in " + group, x.value(0, group), sums[group]);
            due("count in " + group, x.value(1, group), counts[group]);
            due("most in " + group, x.value(2, group), mosts[group]);
            due("most of a table without rows in " + group, x.value(3, group), 0);
            due("sum and count of a table without rows in " + group, x.value(4, group), 0);
        }
        x.row(5, 3, -9);
        x.row(5, 3, -8);
        x.land(5);
        Check.ticked(x, 3);
        long[][] later = {{0, 0, 0}, {100, 1, 100}, {0, 0, 0}, {-17, 2, -8}, {0, 0, 0}};
        for (int group = 0; group < later.length; group++) {
            due("sum of what was loaded since in " + group, x.value(0, group), later[group][0]);
            due("count of what was loaded since in " + group, x.value(1, group), later[group][1]);
            due("most of what was loaded since in " + group, x.value(2, group), later[group][2]);
        }
    }

    private static void intInEach() {
        sentence("an INT in each;");
        DawnHouse x = Check.ticked(Check.houseOf("part a takes 1=9999;part b takes 1=0;"), 2);
        for (int group = 0; group < 8; group++) {
            due("9999 in " + group, x.value(0, group), 9999);
            due("0 in " + group, x.value(1, group), 0);
        }
    }

    private static void nameOfPart() {
        sentence("a NAME: that part, told ahead.");
        DawnHouse x = Check.houseOf("part a takes 1=sum(0);part b takes 1=a*a;report r takes 1 due 9 weight 1=b-a+b;");
        for (int group = 0; group < 8; group++) {
            x.row(0, group, group);
        }
        x.land(0);
        Check.ticked(x, 3);
        for (int group = 0; group < 8; group++) {
            due("value in " + group, x.value(2, group), 2L * group * group - group);
        }
    }

    private static void needs() {
        sentence("A STEP NEEDS the TABLES and parts of its E.");
        DawnHouse x = Check.houseOf("part a takes 1=sum(0);part b takes 1=0*count(5);part c takes 1=max(1,(most(3)));"
            + "part d takes 1=7;part e takes 1=a+b*0;part f takes 1=max(e,sum(1)+sum(1));report g takes 1 due 9 weight 1=f+c+d;");
        int[] tables = {1, 32, 8, 0, 33, 35, 43};
        for (int k = 0; k < 7; k++) {
            due("tables of " + k, x.step(k, 4), tables[k]);
        }
        x.hosts(3);
        x.land(0);
        Check.ticked(x, 3);
        due("a and d alone need nothing more", x.count(5), 2);
        due("d", x.step(3, 5), 2);
        x.land(5);
        Check.ticked(x, 3);
        due("b and e, which need a table and a part that are worth nothing", x.step(1, 5) + x.step(4, 5), 4);
        due("f needs another table", x.step(5, 5), 0);
    }

    private static void firstByPlace() {
        sentence("FAULTS, the first by its place (a byte; the text's end: its length)");
        Check.fault("part a takes 1=1 1 (((((((", 1, 17);
        Check.fault("part a takes 1=((((((( ?", 2, 21);
        Check.fault("part a takes 1=((((( ? ((", 1, 21);
        Check.fault("part a takes 1=1", 1, 16);
        Check.fault("part a takes 1=1  ", 1, 18);
        Check.fault("part a takes 0=b;part a takes 1=1;", 5, 13);
        Check.fault("part a takes 1=b;part a takes 0=1;", 4, 15);
        Check.fault("part a takes 1=1;part a takes 0=b;", 3, 22);
        Check.fault("part a takes 1=sum(6)+b;", 5, 19);
        Check.fault("part a takes 1=b+sum(6);", 4, 15);
        Check.fault("report a takes 1 due 400 weight 101=sum(6);", 5, 21);
        Check.fault("report a takes 1 due 399 weight 101=b;", 5, 32);
        Check.fault("part a takes 1=b+c;", 4, 15);
    }

    private static void leastOfOnePlace() {
        sentence("of one place the least");
        String full = tokensOf(400);
        Check.fault(full + " 1", 1, full.length() + 1);
        Check.fault(full + " ?", 1, full.length() + 1);
        Check.fault(full + " abcdefghi", 1, full.length() + 1);
        Check.fault(full + " part", 2, full.length() + 1);
        String seven = stepsOf(7);
        Check.fault(seven + "takes", 1, seven.length());
        Check.fault(seven + "?", 1, seven.length());
        Check.fault(seven + "(", 1, seven.length());
        Check.fault("part a takes 1=((((((1(", 1, 22);
        Check.fault("part a takes 1=((((((a(", 1, 22);
        Check.fault("part a takes 1=((((((sum((", 2, 24);
    }

    private static void syntax() {
        sentence("1 SYNTAX: a TOKEN, or what is none, with which no text goes on.");
        Check.fault("takes", 1, 0);
        Check.fault("part 1", 1, 5);
        Check.fault("part a takes a", 1, 13);
        Check.fault("report a takes 1=1;", 1, 16);
        Check.fault("part a takes 1 due 1 weight 1=1;", 1, 15);
        Check.fault("part a takes 1=1;x", 1, 17);
        Check.fault("part a takes 1==1;", 1, 15);
        Check.fault("part a takes 1=1**1;", 1, 17);
        Check.fault("part a takes 1=1);", 1, 16);
        Check.fault("part a takes 1=(1;", 1, 17);
        Check.fault("part a takes 1=1;\0", 1, 17);
        Check.fault("part a takes 1=1;\u00ff", 1, 17);
        Check.fault("part", 1, 4);
    }

    // As many TOKENS as are asked for, the last of them a ; : an even number with sum(3) in it, an odd one with 1.
    private static String tokensOf(int n) {
        return n % 2 == 0
            ? "part a takes 1=sum(3)" + "+1".repeat((n - 10) / 2) + ";"
            : "part a takes 1=1" + "+1".repeat((n - 7) / 2) + ";";
    }

    private static String stepsOf(int n) {
        StringBuilder text = new StringBuilder();
        for (int k = 0; k < n; k++) {
            text.append(k % 2 == 0 ? "part a" + k + " takes 1=1; " : "report a" + k + " takes 1 due 1 weight 1=1; ");
        }
        return text.toString();
    }

    private static void roomOfTokens() {
        sentence("2 ROOM: a 401st TOKEN;");
        Check.fine(tokensOf(398));
        Check.fine(tokensOf(399));
        Check.fine(tokensOf(400));
        Check.fine(tokensOf(400) + " \n");
        Check.fine(tokensOf(393) + "part b takes 1=1;");
        String text = tokensOf(401);
        Check.fault(text, 2, text.length() - 1);
        Check.fault(text + text, 2, text.length() - 1);
        Check.fault(text.substring(0, text.length() - 1), 1, text.length() - 1);
        Check.fault(text.substring(0, text.length() - 1) + " )", 1, text.length());
        Check.fault(tokensOf(402), 2, tokensOf(402).length() - 2);
        Check.fault(tokensOf(900), 2, tokensOf(400).length());
        String almost = tokensOf(399);
        Check.fault(almost + "part b takes 1=1;", 2, almost.length() + 5);
        Check.fault(tokensOf(394) + "part b takes 1=1;", 2, tokensOf(394).length() + 16);
        Check.fault(tokensOf(394) + "part a takes 1=1", 1, tokensOf(394).length() + 16);
        DawnHouse x = new DawnHouse();
        for (int n = 0; n < 4; n++) {
            due("a full text behind another", Check.read(x, tokensOf(n % 2 == 0 ? 399 : 401)), n % 2 == 0 ? 0 : 2);
            x.tick();
            due("its value", x.value(0, 7), 197);
        }
    }

    private static void roomOfSteps() {
        sentence("an 8th STEP (at its first TOKEN);");
        Check.fine(stepsOf(7));
        Check.fault(stepsOf(8), 2, stepsOf(7).length());
        Check.fault(stepsOf(9), 2, stepsOf(7).length());
        Check.fault(stepsOf(7) + "part", 2, stepsOf(7).length());
        Check.fault(stepsOf(7) + "\n\nreport 9", 2, stepsOf(7).length() + 2);
        Check.fault(stepsOf(7) + "part a0", 2, stepsOf(7).length());
    }

    private static void roomOfBrackets() {
        sentence("a 7th ( within one another (at it).");
        String head = "part a takes 1=";
        Check.fine(head + "((((((1))))));");
        Check.fine(head + "((((((1))))))+((((((1))))));");
        Check.fine(head + "(1)+(1)+(1)+(1)+(1)+(1)+(1)+(1)*(1)*(1);");
        Check.fault(head + "(((((((1)))))));", 2, head.length() + 6);
        Check.fault(head + "((((((1))))))+(((((((1)))))));", 2, head.length() + 20);
        Check.fault(head + "((((( ( (", 2, head.length() + 8);
        for (String word : new String[] {"sum", "count", "most"}) {
            Check.fine(head + "(((((" + word + "(1))))));");
            Check.fault(head + "((((((" + word + "(1)))))));", 2, head.length() + 6 + word.length());
        }
        Check.fine(head + "(((((max(1,2))))));");
        Check.fault(head + "((((((max(1,2)))))));", 2, head.length() + 9);
        Check.fine(head + "max(max(max(max(max(max(1,2),3),4),5),6),7);");
        Check.fault(head + "max(max(max(max(max(max((1),2),3),4),5),6),7);", 2, head.length() + 24);
        Check.fine(head + "max(1,max(1,max(1,max(1,max(1,max(1,2))))));");
        Check.fault(head + "max(1,max(1,max(1,max(1,max(1,max(1,(2)))))));", 2, head.length() + 36);
        DawnHouse x = Check.houseOf(head + "1+2*max(3,4+5*max(6,7+8*max(9,1+2*max(3,4+5*max(6,7+8*max(9,1+2*3))))));");
        x.tick();
        due("value of six within one another", x.value(0, 0), 1 + 2 * (4 + 5 * (7 + 8 * (1 + 2 * (4 + 5 * (7 + 8 * 9))))));
    }

    private static void onlyIfThereIsNone() {
        sentence("If there is none, likewise");
        String[] early = {"part a takes 1=1;part a takes 1=1;", "part a takes 1=b;", "part a takes 0=1;"};
        int[] places = {22, 15, 13};
        for (int i = 0; i < 3; i++) {
            Check.fault(early[i], 3 + i, places[i]);
            Check.fault(early[i] + "part c takes 1=1", 1, early[i].length() + 16);
            Check.fault(early[i] + "?", 1, early[i].length());
            Check.fault(early[i] + "part c takes 1=(((((((1)))))));", 2, early[i].length() + 21);
            int told = i == 0 ? 2 : 1;
            Check.fault(early[i] + stepsOf(8), 2, early[i].length() + stepsOf(7 - told).length());
        }
        String many = "part c takes 1=d" + tokensOf(401).substring(16);
        Check.fault(many, 2, many.length() - 1);
    }

    private static void twice() {
        sentence("3 TWICE: a NAME told already.");
        String part = "part a takes 1=1;";
        String report = "report a takes 1 due 1 weight 1=1;";
        Check.fault(part + part, 3, part.length() + 5);
        Check.fault(part + report, 3, part.length() + 7);
        Check.fault(report + part, 3, report.length() + 5);
        Check.fault(report + report, 3, report.length() + 7);
        Check.fault(part + "part b takes 1=1;" + "part c takes 1=1;" + "part b takes 1=1;", 3, 56);
        String seven = stepsOf(6);
        Check.fault(seven + "part a0 takes 1=1;", 3, seven.length() + 5);
        Check.fault(seven + "part a5 takes 1=1;", 3, seven.length() + 5);
        Check.fine("part a takes 1=1;part aa takes 1=1;part a1 takes 1=1;part a01 takes 1=1;");
        DawnHouse x = Check.houseOf(part);
        due("the same name in another text", Check.read(x, part), 0);
    }

    private static void name() {
        sentence("4 NAME: no part told so ahead.");
        Check.fault("part a takes 1=b;", 4, 15);
        Check.fault("part a takes 1=a;", 4, 15);
        Check.fault("part a takes 1=b;part b takes 1=1;", 4, 15);
        Check.fault("report a takes 1 due 1 weight 1=1;part b takes 1=a;", 4, 49);
        Check.fault("report a takes 1 due 1 weight 1=a;", 4, 32);
        Check.fault("part a takes 1=1;part b takes 1=max(a,(c));", 4, 39);
        Check.fault("part a takes 1=1;part b takes 1=aa;", 4, 32);
        Check.fine("part a takes 1=1;part b takes 1=a;report c takes 1 due 1 weight 1=a+b;");
        DawnHouse x = Check.houseOf("part a takes 1=1;");
        due("a part of the text before", Check.read(x, "part b takes 1=a;"), 4);
    }

    private static void wrong() {
        sentence("5 WRONG: takes 0 or above 20; due above 399; weight above 100; a TABLE's INT above 5.");
        for (int n = 0; n <= 9999; n += n < 500 ? 1 : 499) {
            bounded("part a takes ", n, "=1;", n >= 1 && n <= 20);
            bounded("report a takes ", n, " due 1 weight 1=1;", n >= 1 && n <= 20);
            bounded("report a takes 1 due ", n, " weight 1=1;", n <= 399);
            bounded("report a takes 1 due 1 weight ", n, "=1;", n <= 100);
            bounded("part a takes 1=sum(", n, ");", n <= 5);
            bounded("part a takes 1=1+count(", n, ");", n <= 5);
            bounded("part a takes 1=max(1,most(", n, "));", n <= 5);
            bounded("part a takes 1=", n, ";", true);
        }
        Check.fault("part a takes 0000=1;", 5, 13);
        Check.fault("part a takes 1=sum(0006);", 5, 19);
    }

    private static void bounded(String head, int n, String tail, boolean fits) {
        Check.fault(head + n + tail, fits ? 0 : 5, fits ? NONE : head.length());
    }

    private static void faultChangesNothing() {
        sentence("A text with a FAULT changes nothing.");
        String good = "report z takes 9 due 8 weight 7=sum(3);";
        String[] texts = {good + "?", good + "part y takes 1=(((((((1)))))));", good + good, good + "part y takes 1=z;",
            good + "part y takes 0=1;", good.substring(0, 38), stepsOf(8), tokensOf(401)};
        for (String text : texts) {
            Check.alike("read of " + text, () -> {
                DawnHouse x = Check.busyHouse();
                x.back(x.count(7));
                Check.read(x, text);
                return x;
            }, () -> {
                DawnHouse x = Check.busyHouse();
                x.back(x.count(7));
                return x;
            });
        }
    }

    private static void textBeginsAnew() {
        sentence("Else its STEPS are the house's: nothing is done, sent or planned, nobody reads (TABLES and READERS stay).");
        DawnHouse x = Check.busyHouse();
        x.back(x.count(7));
        int[] before = {x.count(1), x.count(2), x.table(0, 0), x.table(0, 1), x.table(2, 2), x.table(2, 3), x.table(5, 4)};
        due("done before", x.count(5) > 0 ? 1 : 0, 1);
        due("under way before", x.count(4), 1);
        due("marks before", x.count(6) > 0 ? 1 : 0, 1);
        due("hosts refused while under way", x.hosts(2) ? 1 : 0, 0);
        due("read", Check.read(x, "part p takes 9=1;report a takes 1 due 9 weight 0=1;report b takes 1 due 0 weight 9=sum(0);"), 0);
        due("steps", x.count(0), 3);
        due("nothing is done", x.count(5), 0);
        due("nothing is under way", x.count(4), 0);
        due("nothing is sent", x.count(6), 0);
        Check.dueOrder("nothing is planned", x, "012");
        for (int k = 0; k < 7; k++) {
            due("step " + k + " is not done", x.step(k, 5), k < 3 ? 0 : NONE);
            due("step " + k + " never was", x.step(k, 7), k < 3 ? 0 : NONE);
            due("step " + k + " has no tick", x.step(k, 6), NONE);
            due("step " + k + " is not worked at", x.step(k, 8), k < 3 ? 0 : NONE);
            for (int r = 0; r < 3; r++) {
                due("nobody reads " + k, x.marks(k, r), NONE);
                due("nothing went of " + k, x.sent(k, r, NONE), 0);
            }
        }
        int[] after = {x.count(1), x.count(2), x.table(0, 0), x.table(0, 1), x.table(2, 2), x.table(2, 3), x.table(5, 4)};
        for (int i = 0; i < before.length; i++) {
            due("what stays, " + i, after[i], before[i]);
        }
        due("the host is free", x.hosts(2) ? 1 : 0, 1);
        due("one is held still", x.hold(1, true) ? 1 : 0, 0);
        due("the others are not", x.hold(0, false) || x.hold(2, false) ? 1 : 0, 0);
        due("it reads again", x.reads(2, 0) ? 1 : 0, 1);
        due("it has no mark", x.marks(2, 0), 0);
        x.reads(1, 2);
        Check.ticked(x, 2);
        due("rows stay", x.sent(2, 0, 2), 9);
        due("the first since the text goes", x.marks(2, 0), 1);
        due("rights stay", x.sent(1, 2, NONE), 0);
        due("the first goes, be it all 0", x.marks(1, 2), 1);
    }

    private static String reportsOf(int n, String e) {
        StringBuilder text = new StringBuilder();
        for (int k = 0; k < n; k++) {
            text.append("report r").append(k).append(" takes 1 due 9 weight 9=").append(e).append(";");
        }
        return text.toString();
    }

    private static void fullHouseBeginsAnew() {
        sentence("nothing is done, sent or planned, nobody reads");
        DawnHouse x = Check.houseOf(reportsOf(7, "7"));
        readByAll(x);
        Check.ticked(x, 7);
        due("marks of all", x.count(6), 42);
        due("read", Check.read(x, reportsOf(7, "7")), 0);
        for (int i = 0; i < 42; i++) {
            due("nobody reads", x.marks(i / 6, i % 6), NONE);
            due("nothing went", x.sent(i / 6, i % 6, i % 8), 0);
            due("nothing went, all together", x.sent(i / 6, i % 6, NONE), 0);
        }
        readByAll(x);
        for (int i = 0; i < 42; i++) {
            due("no marks", x.marks(i / 6, i % 6), 0);
        }
        Check.ticked(x, 7);
        for (int i = 0; i < 42; i++) {
            due("one mark for each", x.marks(i / 6, i % 6), 1);
        }
    }

    private static void readByAll(DawnHouse x) {
        for (int i = 0; i < 42; i++) {
            x.reader(255);
            due("reads", x.reads(i / 6, i % 6) ? 1 : 0, 1);
        }
    }

    private static void hostsBeginAnew() {
        sentence("Else its STEPS are the house's: nothing is done");
        DawnHouse x = Check.houseOf("part a takes 9=1;part b takes 9=1;part c takes 9=1;");
        x.hosts(3);
        x.tick();
        due("under way", x.count(4), 3);
        due("read", Check.read(x, "part a takes 1=sum(0);part b takes 1=sum(0);part c takes 1=sum(0);"), 0);
        due("under way", x.count(4), 0);
        x.tick();
        due("no host goes on with what was under way", x.count(4) + x.count(5), 0);
        x.land(0);
        x.tick();
        due("each host is free", x.count(5), 3);
    }

    private static void nothingIsLeftOfOldSteps() {
        sentence("Else its STEPS are the house's");
        String old = "report a takes 9 due 399 weight 100=sum(0)+sum(5);part p takes 9=sum(1);report b takes 9 due 9 weight 9=p+sum(2);";
        for (String between : new String[] {"", old + "?", old + "part p takes 1=1;"}) {
            DawnHouse x = Check.houseOf(old);
            if (!between.isEmpty()) {
                due("a text with a fault", Check.read(x, between) > 0 ? 1 : 0, 1);
            }
            due("read", Check.read(x, "part a takes 1=1;report p takes 1 due 0 weight 0=a;part b takes 1=2;"), 0);
            int[][] want = {{0, 1, 0, 0, 0}, {1, 1, 0, 0, 0}, {0, 1, 0, 0, 0}};
            for (int i = 0; i < 15; i++) {
                due("step " + i / 5 + " " + i % 5, x.step(i / 5, i % 5), want[i / 5][i % 5]);
            }
            Check.ticked(x, 3);
            due("none waits for what the old one needed", x.count(5), 3);
            due("values", x.value(0, 0) * 100 + x.value(1, 1) * 10 + x.value(2, 7), 112);
        }
    }
}
