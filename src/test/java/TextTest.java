/** Promises 18 to 21: put, wipe, fault, carryOut. */
public final class TextTest {
    private static final Check check = new Check();

    public static void main(String[] args) {
        put();
        putErrors();
        fullPad();
        faults();
        longestText();
        carryOut();
        upToTheFirstError();
        badText();
        check.end();
    }

    private static void put() {
        Told x = new Told();
        check.due("put one", x.put('c'), 1);
        check.due("put eight", x.put(Look.pack("4;r1:2;b")), 9);
        check.due("put three", x.put(Look.pack("1:2")), 12);
        check.due("count(11)", x.count(11), 12);
        check.due("the order of the characters", x.fault(), ShoutGroups.NONE);
        check.due("not a change", x.count(12), 0);
        check.due("wipe()", x.wipe(), 12);
        check.due("wipe() again", x.wipe(), 0);
        check.due("wipe() is not a change", x.count(12), 0);
        check.due("count(11) after", x.count(11), 0);
        check.due("33 and 126", x.put(33 << 8 | 126), 2);
    }

    private static void putErrors() {
        Told x = new Told();
        long[] bad = {0, 32, 127, 'c' << 8, 'c' << 16 | 'c', 32 << 8 | 'c', 'c' << 8 | 128, -1, Long.MIN_VALUE,
            Long.MIN_VALUE | 'c', Long.MAX_VALUE, 1L << 56 | 'c', Look.pack("ccccccc") << 8,
            Look.pack("cccccccc") | 1L << 63, Look.pack("cccccccc") & ~(255L << 32), 255L << 24 | 'c'};
        for (long characters : bad) {
            check.due("put(" + characters + ")", x.put(characters), ShoutGroups.BAD_VALUE);
        }
        check.due("the pad", x.count(11), 0);
    }

    private static void fullPad() {
        Told x = new Told();
        for (int i = 1; i <= 9; i++) {
            check.due("put " + i, x.put(Look.pack("c1;c1;c1")), 8 * i);
        }
        check.due("up to 79", x.put(Look.pack("ccccccc")), 79);
        check.due("two too many", x.put(Look.pack("cc")), ShoutGroups.TOO_MANY);
        check.due("BAD_VALUE comes first", x.put(Look.pack("c c")), ShoutGroups.BAD_VALUE);
        check.due("none at all comes first", x.put(0), ShoutGroups.BAD_VALUE);
        check.due("nothing was put", x.count(11), 79);
        check.due("up to 80", x.put('c'), 80);
        check.due("81", x.put('c'), ShoutGroups.TOO_MANY);
        check.due("fault()", x.fault(), 8);
        check.due("wipe()", x.wipe(), 80);
    }

    private static void faults() {
        String[] good = {"r0:0", "c0", "b9999:9999", "w1:2=3", "w15:23=9999", "c23;r1:1;w0:0=0;b0:0", "c10;c100"};
        for (String text : good) {
            check.due("fault of " + text, Look.faultOf(text), ShoutGroups.NONE);
        }
        // Too short: the fault is the length.
        String[] tooShort = {"", "r", "r1", "r1:", "w", "w1", "w1:", "w1:1", "w1:1=", "b", "b2", "b2:", "c", "c1;",
            "c1;r", "r1:1;w1:1"};
        for (String text : tooShort) {
            check.due("fault of " + text, Look.faultOf(text), text.length());
        }
        // The character before the stroke is the one that cannot stand.
        String[] bad = {"x|", "R|", ";|", "1|", "rr|", "r:|", "r1;|", "r1=|", "r1:;|", "r1::|", "r1:1:|", "r1:1=|",
            "r1:1,|", "r1:1r|", "r01|:1", "r00|", "c00|", "c01|;", "w1:01|=3", "w1:1;|", "w1:1:|", "w1:1=00|",
            "w1:1=1=|", "w1:1==|", "c12345|", "r10000|:1", "r99999|", "w1:1=10000|", "c1234:|", "c1;;|", "c1;1|",
            "c1;c1;x|c1", "c-|1", "c+|", "c1;r1:1;w1:1=1;b1:1;c1;q|", "b1:1=|1", "c1:|1", "w1=|"};
        for (String text : bad) {
            check.due("fault of " + text, Look.faultOf(text.replace("|", "")), text.indexOf('|') - 1);
        }
    }

    private static void longestText() {
        StringBuilder text = new StringBuilder("c12");
        while (text.length() < 78) {
            text.append(";c1");
        }
        check.due("78 characters", Look.faultOf(text.toString()), ShoutGroups.NONE);
        check.due("80 characters", Look.faultOf(text + "00"), ShoutGroups.NONE);
        check.due("80 characters, too short", Look.faultOf(text + ";c"), 80);
        Told x = new Told();
        StringBuilder reads = new StringBuilder("r0:0");
        while (reads.length() < 79) {
            reads.append(";r0:0");
        }
        Look.put(x, reads.toString());
        check.due("as many readings as there is room for", x.carryOut(), 16);
        check.due("uses", x.ofReader(0, 2), 16);
        x.recall(0);
        for (int i = 0; i < 26; i++) {
            x.put(Look.pack("c0;"));
        }
        check.due("ends with a sign", x.fault(), 78);
        check.due("78 and two", Look.put(x, "c0"), 80);
        check.due("27 orders, the first of which fails", x.carryOut(), 0);
    }

    private static void carryOut() {
        Told x = new Told();
        Look.put(x, "w2:3=1234;r5:3;r5:4;b5:4;c3;w7:0=0");
        check.due("carryOut()", x.carryOut(), 6);
        check.due("the pad is empty", x.count(11), 0);
        check.due("one change", x.count(12), 1);
        check.due("w", x.ofNote(3, 0), 1234);
        check.due("r", x.ofReader(5, 2), 2);
        check.due("b", x.ofReader(5, 0), 0);
        check.due("c", x.ofNote(3, 1), ShoutGroups.BLANK);
        check.due("the last one", x.ofNote(0, 1), ShoutGroups.OWNED);
        check.due("messages", x.count(0), 2 + 4 + 2 + 2 + 2);
        check.due("undo()", x.undo(), 0);
        check.due("all of them are undone", Look.everything(x), Look.everything(new Told()));
        Look.put(x, "w15:23=9999");
        check.due("numbers of several digits", x.carryOut(), 1);
        check.due("the value", x.ofNote(23, 6), 9999);
    }

    private static void upToTheFirstError() {
        String[] failing = {"r16:0", "r0:24", "w16:0=1", "w0:24=1", "b16:0", "b0:24", "b0:0", "c24", "c0", "r9999:9999"};
        for (String order : failing) {
            Told x = new Told();
            Look.put(x, "r1:5;" + order + ";r2:5");
            check.due("one before " + order, x.carryOut(), 1);
            check.due("not the next one", x.ofReader(2, 2), 0);
            check.due("the pad", x.count(11), 0);
            Look.put(x, order);
            check.due("none carried out", x.carryOut(), 0);
            check.due("also a change", x.count(12), 2);
            check.due("the pad again", x.count(11), 0);
        }
    }

    private static void badText() {
        Told x = new Told();
        check.due("an empty pad", x.carryOut(), ShoutGroups.BAD_TEXT);
        Look.put(x, "r0:0;r");
        String before = Look.everything(x);
        check.due("a text that ends too early", x.carryOut(), ShoutGroups.BAD_TEXT);
        check.due("it stays", Look.everything(x), before);
        Look.put(x, "1:1");
        check.due("then it goes on", x.carryOut(), 2);
    }
}
