import java.util.function.ToIntFunction;
import java.util.regex.Matcher;
import java.util.regex.Pattern;

/** The terms on texts, and promises 18 to 21: put, wipe, fault, carryOut. */
final class TextEdges {
    private static final int BAD_VALUE = ShoutGroups.BAD_VALUE, BAD_TEXT = ShoutGroups.BAD_TEXT;
    private static final int TOO_MANY = ShoutGroups.TOO_MANY, NOT_POSSIBLE = ShoutGroups.NOT_POSSIBLE;
    private static final int NONE = ShoutGroups.NONE;
    private static final int LONGEST = 80;
    // What the document's grammar says, in the Java library's way.
    private static final String NUMBER = "(0|[1-9][0-9]{0,3})";
    private static final String ORDER = "(r" + NUMBER + ":" + NUMBER + "|w" + NUMBER + ":" + NUMBER + "=" + NUMBER
            + "|b" + NUMBER + ":" + NUMBER + "|c" + NUMBER + ")";
    private static final Pattern TEXT = Pattern.compile(ORDER + "(;" + ORDER + ")*");
    private static final Check check = EdgesTest.CHECK;

    static void all() {
        atMostEighty();
        grammar();
        whatOrdersDo();
        numbers();
        faultInTheWay();
        aboveTheHighest();
        endsTooEarly();
        appends();
        lowestBitsLast();
        noMoreCharacters();
        oneToEight();
        putAnswers();
        noCharacter();
        codesOutOfRange();
        bitsAboveTheEnd();
        longerThanThePad();
        wipe();
        fault();
        oneAfterTheOther();
        upToTheFirstError();
        emptiesThePad();
        isOneChange();
        howManyWereCarriedOut();
        badText();
    }

    private static String repeat(String text, int length) {
        return text.repeat(length / text.length() + 1).substring(0, length);
    }

    private static Told with(String text) {
        Told x = new Told();
        Look.put(x, text);
        return x;
    }

    private static void faults(String text, int fault) {
        check.due("fault of " + text, Look.faultOf(text), fault);
    }

    private static void atMostEighty() {
        EdgesTest.sentence(0, "The pad is a text of at most 80 characters, a row of orders:");
        String full = "r0:0;".repeat(15) + "w0:0=";
        Told x = with(full);
        check.due("80 characters", x.count(11), 80);
        check.due("they end too early", x.fault(), 80);
        check.refused("one more", x, y -> y.put('1'), TOO_MANY);
        x = with(full.substring(0, 75) + "b0:10");
        check.due("80 characters without a fault", x.fault(), NONE);
        check.due("all of them are a row of orders", x.carryOut(), 15);
        check.due("an empty pad", x.count(11), 0);
    }

    /** The fault by the grammar: the first character with which no text begins that begins with those before it. */
    private static int faultByTheGrammar(String text) {
        for (int length = 1; length <= text.length(); length++) {
            Matcher matcher = TEXT.matcher(text.substring(0, length));
            if (!matcher.matches() && !matcher.hitEnd()) {
                return length - 1;
            }
        }
        return TEXT.matcher(text).matches() ? NONE : text.length();
    }

    private static void grammar() {
        EdgesTest.sentence(0, "```text text = order { \";\" order } order = \"r\" number \":\" number | \"w\" number \":\" number \"=\" "
                + "number | \"b\" number \":\" number | \"c\" number ```");
        for (String text : new String[] {"r0:0", "w0:0=0", "b0:0", "c0", "r15:23;w15:23=9999;b15:23;c23", "c1;c2;c3"}) {
            faults(text, NONE);
        }
        String text = "r15:2;w1:23=9999;b0:10;c7;r9999:9999";
        for (int place = 0; place <= text.length(); place++) {
            for (char code = 33; code <= 126; code++) {
                String other = text.substring(0, place) + code;
                faults(other, faultByTheGrammar(other));
                if (place < text.length()) {
                    other += text.substring(place + 1);
                    faults(other, faultByTheGrammar(other));
                }
            }
        }
        everyShortText("", 5);
    }

    /** All texts of some characters that begin so. */
    private static void everyShortText(String start, int length) {
        faults(start, faultByTheGrammar(start));
        if (length == 0) {
            return;
        }
        for (char code : "rwc09:=;".toCharArray()) {
            everyShortText(start + code, length - 1);
        }
    }

    private static void whatOrdersDo() {
        EdgesTest.sentence(0, "\"r\": read() of a reader and a note; \"w\": change() of a reader, a note and a value; \"b\": "
                + "putBack() of a reader and a note; \"c\": recall() of a note.");
        Told x = new Told();
        x.read(3, 7);
        x.change(12, 20, 77);
        doesTheSame("r15:23", x, y -> y.read(15, 23));
        doesTheSame("r3:20", x, y -> y.read(3, 20));
        doesTheSame("w15:23=9999", x, y -> y.change(15, 23, 9999));
        doesTheSame("w0:7=0", x, y -> y.change(0, 7, 0));
        doesTheSame("b12:20", x, y -> y.putBack(12, 20));
        doesTheSame("b3:7", x, y -> y.putBack(3, 7));
        doesTheSame("c20", x, y -> y.recall(20));
        doesTheSame("c7", x, y -> y.recall(7));
    }

    private static void doesTheSame(String order, Told x, ToIntFunction<Told> call) {
        Told y = x.again();
        check.due(order + " is put", Look.put(y, order), order.length());
        check.due(order + " is carried out", y.carryOut(), 1);
        Told z = x.again();
        call.applyAsInt(z);
        check.due(order, Look.everything(y), Look.everything(z));
    }

    private static void numbers() {
        EdgesTest.sentence(0, "A number is 0 to 9999, without leading zeros.");
        String[] before = {"r", "r0:", "w", "w0:", "w0:0=", "b", "b0:", "c"};
        String[] after = {":0", "", ":0=0", "=0", "", ":0", "", ""};
        for (int i = 0; i < before.length; i++) {
            int start = before[i].length();
            for (String number : new String[] {"0", "1", "9", "10", "99", "100", "999", "1000", "9998", "9999"}) {
                faults(before[i] + number + after[i], NONE);
            }
            faults(before[i] + "10000" + after[i], start + 4);
            faults(before[i] + "99990" + after[i], start + 4);
            faults(before[i] + "00" + after[i], start + 1);
            faults(before[i] + "01" + after[i], start + 1);
            faults(before[i] + "0000" + after[i], start + 1);
            faults(before[i] + "-1" + after[i], start);
            faults(before[i] + "+1" + after[i], start);
            if (!after[i].isEmpty()) {
                faults(before[i] + after[i], start);
            }
        }
    }

    private static void faultInTheWay() {
        EdgesTest.sentence(0, "The fault is the index of the first character that cannot stand at its place when the text is "
                + "read from left to right");
        faults("x", 0);
        faults("xx", 0);
        faults("1", 0);
        faults(";c1", 0);
        faults("R0:0", 0);
        faults("cx", 1);
        faults("c:", 1);
        faults("c1:2", 2);
        faults("c1=2", 2);
        faults("c1c2", 2);
        faults("r1;c1", 2);
        faults("r1=1", 2);
        faults("r1::1", 3);
        faults("r1:1=1", 4);
        faults("b1:1=1", 4);
        faults("b1;", 2);
        faults("w1:1:1", 4);
        faults("w1:1;c1", 4);
        faults("w1=1", 2);
        faults("w1:1=;", 5);
        faults("c1;;c1", 3);
        faults("c1;x1;y1", 3);
        faults("c1,c1", 2);
        faults("c1;1", 3);
        faults("r16:24;c24;b99:99;w9999:9999=0", NONE);
        faults("r0:0;".repeat(15) + "c0;cx", 79);
        faults("r0:0;".repeat(15) + "c0;c0", NONE);
        faults("r0:0;".repeat(15) + "c0;;c", 78);
    }

    private static void aboveTheHighest() {
        EdgesTest.sentence(0, "(also of a digit by which a number would be above 9999);");
        faults("c9999", NONE);
        for (int digit = 0; digit <= 9; digit++) {
            faults("c9999" + digit, 5);
            faults("c1000" + digit, 5);
            faults("c1000" + digit + digit, 5);
            faults("r9999:9999" + digit, 10);
            faults("w1:1=1234" + digit, 9);
        }
        faults("c99999999", 5);
        faults("c99999999999999999999", 5);
    }

    private static void endsTooEarly() {
        EdgesTest.sentence(0, "if there is none and the text ends too early (also if it is empty), it is the length of the "
                + "text.");
        check.due("fault of an empty pad", new Told().fault(), 0);
        String text = "w15:23=9999;b12:20;r1:0;c21";
        // The length of each prefix that is itself a text.
        String whole = " 8 9 10 11 17 18 23 26 27 ";
        for (int length = 0; length <= text.length(); length++) {
            faults(text.substring(0, length), whole.contains(" " + length + " ") ? NONE : length);
        }
        faults("c0;", 3);
        faults("c0;r", 4);
        faults("c", 1);
        String full = "r0:0;".repeat(15);
        faults(full + "w1:1=", 80);
        faults(full + "c123;", 80);
        faults(full + "c1234", NONE);
        faults(full + "c123", NONE);
        faults(full + "w1:1", 79);
    }

    private static void appends() {
        EdgesTest.sentence(18, "Appends characters to the pad.");
        Told x = new Told();
        check.due("the first", x.put('c'), 1);
        check.due("the second", x.put('1'), 2);
        check.due("two more", x.put(Look.pack(";c")), 4);
        check.due("they lie behind those", x.fault(), 4);
        check.due("and one", x.put('x'), 5);
        check.due("it is in the way", x.fault(), 4);
        x = with("w1:2=3;w2:2=4");
        check.due("carried out in this order", x.carryOut(), 2);
        check.due("the last one's value", x.ofNote(2, 6), 4);
        check.due("the first one's value", x.ofNote(2, 0), 3);
        check.due("on an empty pad again", x.put('c'), 1);
        check.due("nothing is left before it", x.fault(), 1);
        x.save(0);
        x.account();
        x.undo();
        x.restore(0);
        check.due("undo() and restore() leave the pad", x.put('1'), 2);
        check.due("as it was", x.fault(), NONE);
    }

    private static void lowestBitsLast() {
        EdgesTest.sentence(18, "They are given as a number: its lowest 8 bits are the last character, the next 8 bits the one "
                + "before, and so on;");
        Told x = new Told();
        check.due("one", x.put(0x63), 1);
        check.due("'c'", x.fault(), 1);
        x = new Told();
        check.due("two", x.put(0x6331), 2);
        check.due("'c1'", x.fault(), NONE);
        x = new Told();
        x.put(0x3163);
        check.due("'1c'", x.fault(), 0);
        x = new Told();
        check.due("eight", x.put(0x7731303a323d3738L), 8);
        check.due("'w10:2=78'", x.carryOut(), 1);
        check.due("its value", x.onShelf(10, 0, 1), 78);
        check.due("its note", x.onShelf(10, 0, 0), 2);
    }

    private static void noMoreCharacters() {
        EdgesTest.sentence(18, "8 bits that are 0 mean that there are no more characters, and everything above them has to be 0, "
                + "too.");
        for (int many = 1; many <= 8; many++) {
            Told x = new Told();
            check.due(many + " characters", x.put(Look.pack(repeat("!", many))), many);
            check.due("the pad has " + many, x.count(11), many);
            if (many <= 6) {
                long gap = Look.pack(repeat("!", many)) | (long) '!' << 8 * (many + 1);
                check.refused(many + " characters, and one behind 8 bits of 0", x, y -> y.put(gap), BAD_VALUE);
            }
        }
    }

    private static void oneToEight() {
        EdgesTest.sentence(18, "- `characters`: 1 to 8 characters");
        Told x = new Told();
        check.refused("none", x, y -> y.put(0), BAD_VALUE);
        check.due("one", x.put('!'), 1);
        check.due("eight", x.put(0x2121212121212121L), 9);
        check.due("eight of the highest", x.put(0x7e7e7e7e7e7e7e7eL), 17);
    }

    private static void putAnswers() {
        EdgesTest.sentence(18, "Returns the length of the pad then;");
        Told x = new Told();
        int length = 0;
        for (int many = 1; many <= 8; many++) {
            length += many;
            check.due("and " + many, x.put(Look.pack(repeat("c1;", many))), length);
            check.due("count(11)", x.count(11), length);
        }
        x.wipe();
        check.due("wiped before", x.put('c'), 1);
        check.due("no change", x.count(12), 0);
    }

    private static void noCharacter() {
        EdgesTest.sentence(18, "BAD_VALUE if there is no character,");
        check.refused("on an empty pad", new Told(), y -> y.put(0), BAD_VALUE);
        check.refused("on one with a text", with("r0:0"), y -> y.put(0), BAD_VALUE);
        check.refused("on a full one", with("c0;".repeat(26) + "c0"), y -> y.put(0), BAD_VALUE);
    }

    /** Eight good characters but for one. */
    private static long eightBut(int place, int code) {
        return 0x6161616161616161L & ~(255L << 8 * place) | (long) code << 8 * place;
    }

    private static void codesOutOfRange() {
        EdgesTest.sentence(18, "a code is not 33 to 126,");
        Told x = with("c1;");
        for (int place = 0; place < 8; place++) {
            for (int code : new int[] {1, 2, 31, 32, 127, 128, 129, 254, 255}) {
                long eight = eightBut(place, code);
                check.refused("code " + code + " at " + place, x, y -> y.put(eight), BAD_VALUE);
            }
            for (int code : new int[] {33, 34, 125, 126}) {
                check.due("code " + code + " at " + place, x.again().put(eightBut(place, code)), 11);
            }
        }
        for (int code = 1; code <= 255; code++) {
            check.due("code " + code, x.again().put(code), code >= 33 && code <= 126 ? 4 : BAD_VALUE);
        }
        for (long bad : new long[] {-1, Long.MIN_VALUE, Long.MAX_VALUE, 256, 0x2100, 1L << 32, Integer.MIN_VALUE}) {
            check.refused("put(" + bad + ")", x, y -> y.put(bad), BAD_VALUE);
        }
    }

    private static void bitsAboveTheEnd() {
        EdgesTest.sentence(18, "or a bit above 8 bits that are 0 is not 0;");
        Told x = with("c1;");
        for (int many = 1; many <= 7; many++) {
            long good = Look.pack(repeat("a", many));
            check.due(many + " characters", x.again().put(good), 3 + many);
            for (int bit = 8 * many + 8; bit < 64; bit++) {
                long bad = good | 1L << bit;
                check.due(many + " characters, and bit " + bit, x.again().put(bad), BAD_VALUE);
            }
            long highest = good | (many < 7 ? Long.MIN_VALUE : 1L << 56);
            check.refused(many + " characters, and a bit above", x, y -> y.put(highest), BAD_VALUE);
        }
        for (int place = 1; place < 7; place++) {
            long gap = eightBut(place, 0);
            check.refused("eight, but for 0 at " + place, x, y -> y.put(gap), BAD_VALUE);
        }
        check.due("0 at the top is no gap", x.again().put(eightBut(7, 0)), 10);
        long none = eightBut(0, 0);
        check.refused("0 as the last character", x, y -> y.put(none), BAD_VALUE);
    }

    private static void longerThanThePad() {
        EdgesTest.sentence(18, "TOO_MANY if the pad would be longer than 80.");
        for (int length = 72; length <= LONGEST; length++) {
            Told x = with(repeat("c1;", length));
            for (int many = 1; many <= 8; many++) {
                long more = Look.pack(repeat("2", many));
                String name = length + " and " + many;
                if (length + many <= LONGEST) {
                    check.due(name, x.again().put(more), length + many);
                } else {
                    check.refused(name, x, y -> y.put(more), TOO_MANY);
                }
            }
            check.refused("BAD_VALUE comes first: none at " + length, x, y -> y.put(0), BAD_VALUE);
            check.refused("BAD_VALUE comes first: code 127 at " + length, x, y -> y.put(eightBut(7, 127)), BAD_VALUE);
            check.refused("BAD_VALUE comes first: a gap at " + length, x, y -> y.put(eightBut(6, 0)), BAD_VALUE);
        }
    }

    private static void wipe() {
        EdgesTest.sentence(19, "Empties the pad, and returns the length that it had.");
        Told x = new Told();
        check.due("an empty one", x.wipe(), 0);
        for (int length = 1; length <= LONGEST; length++) {
            Told y = with(repeat("x", length));
            check.due("wipe()", y.wipe(), length);
            check.due("empty then", y.count(11), 0);
            check.due("the fault of an empty one", y.fault(), 0);
            check.due("and once more", y.wipe(), 0);
        }
        Look.put(x, repeat("c1;", 80));
        x.wipe();
        check.due("no change", x.count(12), 0);
        check.due("a full one has room again", Look.put(x, repeat("c1;", 80)), 80);
    }

    private static void fault() {
        EdgesTest.sentence(20, "Returns the fault of the pad, NONE if there is none.");
        Told x = new Told();
        check.due("an empty one", x.fault(), 0);
        Look.put(x, "c1");
        check.due("none", x.fault(), NONE);
        check.due("asking changes nothing", x.fault(), NONE);
        x.put(';');
        check.due("too early", x.fault(), 3);
        x.put('c');
        x.put('c');
        check.due("in the way", x.fault(), 4);
        Told y = x.again();
        y.fault();
        check.due("nor here", Look.whole(y), Look.whole(x));
        check.due("no change", x.count(12), 0);
    }

    private static void oneAfterTheOther() {
        EdgesTest.sentence(21, "Carries the orders of the pad out, one after the other,");
        Told x = with("w0:0=5;r1:0;w1:0=6;b1:0;r2:0;c0");
        check.due("carryOut()", x.carryOut(), 6);
        Told y = new Told();
        check.due("by hand", y.change(0, 0, 5), 2);
        check.due("by hand", y.read(1, 0), 5);
        check.due("by hand", y.change(1, 0, 6), 2);
        check.due("by hand", y.putBack(1, 0), 1);
        check.due("by hand", y.read(2, 0), 6);
        check.due("by hand", y.recall(0), 1);
        check.due("the same", Look.state(x), Look.state(y));
        x = with("r0:0;".repeat(15) + "r0:1");
        check.due("sixteen orders", x.carryOut(), 16);
        check.due("all of them", x.ofReader(0, 2), 16);
        x = with("c0;c1;c2;c3;c4;c5;c6;c7;c8;c9;c10;c11;c12;c13;c14;c15;c16;c17;c18;c19;c20;c21");
        for (int note = 0; note < 24; note++) {
            x.change(note / 3, note, 9);
        }
        check.due("twenty-two orders", x.carryOut(), 22);
        check.due("all of them", x.count(5), 2);
    }

    private static void upToTheFirstError() {
        EdgesTest.sentence(21, "up to the first one that returns an error,");
        for (String bad : new String[] {"r16:0", "r0:24", "r9999:9999", "w16:0=1", "w0:24=1", "w9999:0=9999", "b16:0",
            "b0:24", "b0:1", "b1:0", "c24", "c9999", "c1"}) {
            for (int before = 0; before <= 3; before++) {
                Told x = with("r0:0;".repeat(before) + bad + ";w15:15=1;r14:14");
                x.change(0, 0, 4);
                check.due(before + " before " + bad, x.carryOut(), before);
                check.due("those before it", x.ofReader(0, 2), 1 + before);
                check.due("none behind it: 15", x.ofReader(15, 2), 0);
                check.due("none behind it: 14", x.ofReader(14, 2), 0);
            }
            Told x = with("r5:5;r5:6;" + bad);
            check.due(bad + " as the last one", x.carryOut(), 2);
        }
        // Orders that answer 0 are no errors: a value, no messages, not changed, no copies.
        Told x = with("r0:0;w1:1=7;w1:1=8;b0:0;c0;r3:3");
        check.due("answers of 0", x.carryOut(), 6);
        check.due("the last one", x.ofReader(3, 2), 1);
    }

    private static void emptiesThePad() {
        EdgesTest.sentence(21, "and empties the pad.");
        for (String text : new String[] {"r0:0", "r0:0;c1;r0:0", "c1", repeat("c1;", 80)}) {
            Told x = with(text);
            x.carryOut();
            check.due(text + " is gone", x.count(11), 0);
            check.due("nothing is left", x.fault(), 0);
            check.due("a new one", Look.put(x, "c2"), 2);
            check.due("without a fault", x.fault(), NONE);
        }
    }

    private static void isOneChange() {
        EdgesTest.sentence(21, "This is a change (one, with all of them; also if none is carried out).");
        for (String text : new String[] {"r0:0", "w0:0=5;r1:0;w1:0=6;b1:0;r2:0;c0", "r0:0;r16:0;r1:0", "c1", "r9999:0"}) {
            Told x = new Told();
            x.change(9, 9, 9);
            Look.put(x, text);
            String before = Look.state(x);
            x.carryOut();
            check.due(text + " is one change", x.count(12), 2);
            check.due("undo()", x.undo(), 1);
            check.due("all of " + text + " are undone", Look.state(x), before);
            check.due("but not that the pad is empty", x.count(11), 0);
        }
    }

    private static void howManyWereCarriedOut() {
        EdgesTest.sentence(21, "Returns how many orders were carried out;");
        for (int many = 1; many <= 16; many++) {
            Told x = with("r0:0;".repeat(many - 1) + "r0:0");
            check.due(many + " readings", x.carryOut(), many);
        }
        check.due("none", with("c0").carryOut(), 0);
        check.due("one of two", with("r0:0;c1").carryOut(), 1);
        check.due("one of three", with("r0:0;c1;c0").carryOut(), 1);
    }

    private static void badText() {
        EdgesTest.sentence(21, "BAD_TEXT if the pad has a fault (then it stays).");
        for (String text : new String[] {"", "x", "r0:0;", "r0:0;x", "r0:0;r1:1;c", "c10000", "c00", repeat("x", 80),
            "r0:0;".repeat(16)}) {
            Told x = with(text);
            x.change(3, 3, 3);
            check.refused("\"" + text + "\"", x, Told::carryOut, BAD_TEXT);
            check.due("it stays", x.wipe(), text.length());
        }
        Told x = with("r0:0;");
        check.due("too early", x.carryOut(), BAD_TEXT);
        Look.put(x, "r1:1");
        check.due("mended", x.carryOut(), 2);
        check.due("emptied", x.carryOut(), BAD_TEXT);
        check.due("one change", x.count(12), 1);
        check.due("undo()", x.undo(), 0);
        check.due("undo() again", x.undo(), NOT_POSSIBLE);
    }
}
