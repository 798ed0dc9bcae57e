/** The edges of promises 2, 3, 10 and 11: a tape of 400 bytes, texts that are empty or full, and first wrong bytes. */
final class TextEdgeTest {
    private static final int LEAST = Integer.MIN_VALUE;
    private static final int MOST = Integer.MAX_VALUE;

    private TextEdgeTest() {
    }

    public static void main(String[] args) {
        tapeLengths();
        tapeBytes();
        tapeUsedUp();
        emptyTexts();
        fullTexts();
        fullTextsWrong();
        longSums();
        numbers();
        words();
        everyWordRefused();
        everyByteRefused();
        whatMustCome();
        deepest();
        deepOnceMore();
        deepestOfOrs();
        linesAtMost();
        tenLinesCount();
        manyRefused();
        toldAgainBehindAnImage();
        faultStays();
        Check.finish("TextEdgeTest");
    }

    private static BridgePaint withBay() {
        BridgePaint paint = new BridgePaint();
        paint.bay(1, 9, 1, 0);
        return paint;
    }

    private static void right(String text) {
        BridgePaint paint = withBay();
        Check.due("terms() of \"" + text + "\"", Whole.answer(() -> Check.terms(paint, text)).equals("0"), true);
        Check.due("fault() of \"" + text + "\"", paint.fault(), -1);
        Check.due("count of \"" + text + "\"", paint.count(1), 1);
    }

    private static void wrong(String text, int due) {
        BridgePaint paint = withBay();
        Check.argument("terms() of \"" + text + "\"", () -> Check.terms(paint, text));
        Check.due("fault() of \"" + text + "\"", paint.fault(), due);
        Check.due("count of \"" + text + "\"", paint.count(1), 0);
        Check.due("the tape behind \"" + text + "\"", paint.end(1), false);
    }

    /** "NONE, and none come, if it would have more than 400"; "false, if it has fewer, or n is below 0". */
    private static void tapeLengths() {
        BridgePaint paint = new BridgePaint();
        for (int length = 20; length <= 400; length += 20) {
            Check.due("feed to " + length, paint.feed(0, 0, 0, 0, 0), length);
            Check.due("end(" + (length + 1) + ")", paint.end(length + 1), false);
        }
        Check.due("feed behind 400", paint.feed(0, 0, 0, 0, 0), -1);
        Check.due("end(401)", paint.end(401), false);
        Check.due("end(400)", paint.end(400), true);
        Check.due("feed behind end(400)", paint.feed(0, 0, 0, 0, 0), -1);
        Check.due("end(399)", paint.end(399), true);
        Check.due("end(400) behind end(399)", paint.end(400), false);
        Check.due("feed to 419", paint.feed(0, 0, 0, 0, 0), -1);
        Check.due("end(381)", paint.end(381), true);
        Check.due("feed to 401", paint.feed(0, 0, 0, 0, 0), -1);
        Check.due("none of 401 came", paint.end(382), false);
        Check.due("end(380)", paint.end(380), true);
        Check.due("feed to 400", paint.feed(0, 0, 0, 0, 0), 400);
        Check.due("end(1)", paint.end(1), true);
        Check.due("end(0)", paint.end(0), true);
        Check.due("end(1) of an empty tape", paint.end(1), false);
        Check.due("end(0) of an empty tape", paint.end(0), true);
        Check.due("end(-1) of an empty tape", paint.end(-1), false);
        Check.due("feed behind end(0)", paint.feed(MOST, LEAST, -1, 0, 1), 20);
    }

    /** "of each number the highest first": each of the twenty places, and bytes of 0 to 255. */
    private static void tapeBytes() {
        for (int place = 0; place < 20; place++) {
            int[] numbers = {0x20202020, 0x20202020, 0x20202020, 0x20202020, 0x20202020};
            int shift = 24 - place % 4 * 8;
            numbers[place / 4] = numbers[place / 4] & ~(255 << shift) | 0xff << shift;
            BridgePaint paint = new BridgePaint();
            paint.feed(numbers[0], numbers[1], numbers[2], numbers[3], numbers[4]);
            Check.argument("byte 255 at " + place, () -> paint.terms());
            Check.due("byte 255 is the first wrong one", paint.fault(), place);
        }
        BridgePaint ends = new BridgePaint();
        ends.feed(0x20202020, LEAST, MOST, -1, 0);
        Check.argument("ends of int", () -> ends.terms());
        Check.due("their first byte, 128", ends.fault(), 4);
        BridgePaint second = new BridgePaint();
        second.feed(0x20202020, 0x20202020, 0x20202020, 0x20202020, 0x20202020);
        second.feed(0x20202020, 0x20202020, 0x20202020, 0x20202020, 0x20202001);
        Check.argument("byte 39", () -> second.terms());
        Check.due("the last byte of forty", second.fault(), 39);
    }

    /** "Uses the TAPE up", whether the text is right, wrong, or has no room; the next text is another one. */
    private static void tapeUsedUp() {
        BridgePaint paint = withBay();
        Check.due("right", Check.terms(paint, "pay 1"), 0);
        Check.due("used up", paint.end(1), false);
        Check.argument("wrong", () -> Check.terms(paint, "pay 1 pay"));
        Check.due("used up by a wrong one", paint.end(1), false);
        Check.due("what comes next is a text of its own", paint.feed(0x70617920, 0x32202020, 0x20202020, 0x20202020,
                0x20202020), 20);
        Check.due("terms 1", paint.terms(), 1);
        Check.due("pay 2", paint.at(1, 0, 0, 0, 2), 2);
        Check.due("an empty tape again", paint.terms(), 2);
        Check.full("no room", () -> Check.terms(paint, "pay 3"));
        Check.due("used up without room", paint.end(1), false);
        Check.argument("wrong and no room", () -> Check.terms(paint, "pay"));
        Check.due("used up, wrong and without room", paint.end(1), false);
        Check.full("empty and no room", () -> paint.terms());
    }

    /** "A text that is empty, or blanks alone, has no LINE." */
    private static void emptyTexts() {
        for (int blanks : new int[] {0, 1, 19, 20, 21, 399, 400}) {
            BridgePaint paint = withBay();
            paint.weather(0, 199, 0, 11, -10, 0);
            paint.nest(0, 0, 199);
            paint.trains(4095);
            String text = " ".repeat(blanks);
            right(text);
            Check.due(blanks + " blanks", Check.terms(paint, text), 0);
            Check.due("its fault", paint.fault(), -1);
            Check.due("it never stops", paint.why(0, 0, 0, 0), 0);
            Check.due("no dry", paint.at(0, 0, 0, 0, 0), 0);
            Check.due("no holds", paint.at(0, 0, 0, 0, 1), 30);
            Check.due("no pay", paint.at(0, 0, 0, 0, 2), 0);
            Check.due("all moments are open", paint.hours(0, 0, 0, 199, 0), 2400);
            Check.due("none is lost", paint.hours(0, 0, 0, 199, 2), 0);
        }
    }

    private static String filled(String text, int length) {
        return " ".repeat(length - text.length()) + text;
    }

    /** Right texts of 400 bytes: the last byte is one of them. */
    private static void fullTexts() {
        BridgePaint paint = withBay();
        Check.due("pay 7 at the end", Check.terms(paint, filled("pay 7", 400)), 0);
        Check.due("pay 7", paint.at(0, 0, 0, 0, 2), 7);
        Check.due("pay 78 at the end", Check.terms(paint, filled("pay 78", 400)), 1);
        Check.due("pay 78", paint.at(1, 0, 0, 0, 2), 78);
        Check.due("a ) at the end", Check.terms(paint, filled("pay 5 if (((((( 1<2 ))))))", 400)), 2);
        Check.due("pay 5", paint.at(2, 0, 0, 0, 2), 5);
        right(filled("stop if wet", 400));
        right("stop if wet" + " ".repeat(389));
        right("stop" + " ".repeat(391) + "if1<2");
    }

    private static void fullTextsWrong() {
        wrong(filled("stop", 400), 400);
        wrong(filled("stop if", 400), 400);
        wrong(filled("stop if not", 400), 400);
        wrong(filled("stop if wet and", 400), 400);
        wrong(filled("stop if (wet", 400), 400);
        wrong(filled("stop if 1 +", 400), 400);
        wrong(filled("stop if 1 <", 400), 400);
        wrong(filled("stop if 1", 400), 400);
        wrong(filled("pay 1;", 400), 400);
        wrong("stop" + " ".repeat(396), 400);
        wrong("stop" + " ".repeat(395), 399);
        wrong(filled("x", 400), 399);
        wrong(filled("\u00ff", 400), 399);
        wrong(filled("pay 100", 400), 397);
        wrong(filled("pay 5x", 400), 399);
        wrong("x".repeat(400), 0);
        wrong("(".repeat(400), 0);
        wrong("1".repeat(400), 0);
        wrong(";".repeat(400), 0);
        wrong("stop if " + "(".repeat(392), 14);
        wrong("stop if " + "1".repeat(392), 8);
        wrong("pay " + "1".repeat(396), 4);
        wrong("stop if wet" + "t".repeat(389), 8);
    }

    /** "SUM: PART { + PART }", as many as a text of 400 bytes has. */
    private static void longSums() {
        BridgePaint paint = withBay();
        // 8 bytes, 127 times "99+", 99, and what it is compared with: 128 times 99 is 12672.
        String sum = "stop if " + "99+".repeat(127) + "99>";
        Check.due("128 times 99 > 99", Check.terms(paint, sum + "99"), 0);
        Check.due("it is more", paint.why(0, 0, 0, 0), 2);
        String two = "stop if " + "9+".repeat(97) + "9>" + "9+".repeat(96);
        Check.due("98 times 9 > 97 times 9", Check.terms(paint, two + "9"), 1);
        Check.due("it is more by 9", paint.why(1, 0, 0, 0), 2);
        Check.due("98 times 9 > 97 times 9 and 9", Check.terms(paint, two + "9+9"), 2);
        Check.due("it is the same", paint.why(2, 0, 0, 0), 0);
        wrong(two + "9+", 8 + 97 * 2 + 2 + 96 * 2 + 2);
        wrong(two, 8 + 97 * 2 + 2 + 96 * 2);
        String many = "stop if " + "1<0or ".repeat(64) + "0<1";
        BridgePaint ors = withBay();
        Check.due("65 of or", Check.terms(ors, many), 0);
        Check.due("the last one holds", ors.why(0, 0, 0, 0), 2);
        String ands = "stop if " + "1>0and ".repeat(55) + "0>0";
        Check.due("56 of and", Check.terms(ors, ands), 1);
        Check.due("the last one does not hold", ors.why(1, 0, 0, 0), 0);
    }

    /** "NUMBER: 1 or 2 digits (of dry 0 to 48)" */
    private static void numbers() {
        for (String number : new String[] {"0", "00", "1", "01", "9", "09", "10", "47", "48"}) {
            lineOf("dry", 0, number);
            lineOf("holds", 1, number);
            lineOf("pay", 2, number);
        }
        for (String number : new String[] {"49", "50", "98", "99"}) {
            wrong("dry " + number, 4);
            wrong("dry " + number + " if wet", 4);
            wrong("pay 1;dry " + number, 10);
            lineOf("holds", 1, number);
            lineOf("pay", 2, number);
        }
        for (String number : new String[] {"000", "001", "048", "100", "999", "0000", "12345678901234567890"}) {
            wrong("dry " + number, 4);
            wrong("holds " + number, 6);
            wrong("pay " + number, 4);
            wrong("stop if " + number + " < day", 8);
            wrong("stop if day < " + number, 14);
            wrong("stop if day + " + number + " < 1", 14);
        }
        right("stop if 00 < 99");
        right("stop if 0 + 00 < 9 + 99");
        wrong("stop if 0 0 < 9", 10);
        wrong("dry 4 8", 6);
        wrong("dry -1", 4);
        wrong("dry +1", 4);
        wrong("stop if -1 < 0", 8);
    }

    private static void lineOf(String kind, int what, String number) {
        BridgePaint paint = withBay();
        Check.due(kind + " " + number, Check.terms(paint, kind + " " + number), 0);
        Check.due("what " + kind + " " + number + " says", paint.at(0, 0, 0, 0, what), Integer.parseInt(number));
    }

    /** "Words are as long as a to z go on; between all there may be blanks (32), also ahead and behind." */
    private static void words() {
        right("dry1if1<2and3>2or0>1;holds2;pay3if(wet)or not(train)");
        right("  dry   1   if   1   <   2   ;   holds   2  ");
        right("stop if(wet)and(train)");
        right("stop if not(wet)");
        right("stop if 1<2and wet");
        right("stop if day<1or wet");
        right("pay 1if wet;pay 2");
        wrong("stop if notwet", 8);
        wrong("stop if wet andtrain", 12);
        wrong("stop if wetand train", 8);
        wrong("stopif wet", 0);
        wrong("dry1 ifwet", 5);
        wrong("stop if day<1 orwet", 14);
        wrong("s top if wet", 0);
        wrong("stop i f wet", 5);
        wrong("stop if w et", 8);
        wrong("stop if wet\nand train", 11);
        wrong("stop if wet\tand train", 11);
        wrong("stop if wet\u00a0", 11);
        wrong("stop if wet\u0000", 11);
        wrong("stop If wet", 5);
        wrong("stop if Wet", 8);
        wrong("stop if weT", 8);
        wrong("stop if day<=1", 12);
        wrong("stop if day=1", 11);
        wrong("stop if day==1", 11);
        wrong("stop if day!=1", 11);
        wrong("stop if wet & train", 12);
        wrong("dry 1, holds 2", 5);
        wrong("dry 1.", 5);
        wrong("dry 1 5", 6);
    }

    /** A word that is none: one letter less or more than each that there is. */
    private static void everyWordRefused() {
        for (String kind : new String[] {"dry", "holds", "pay"}) {
            right(kind + " 1");
            wrong(kind.substring(1) + " 1", 0);
            wrong(kind.substring(0, kind.length() - 1) + " 1", 0);
            wrong(kind + "s 1", 0);
            wrong("s" + kind + " 1", 0);
        }
        for (String tag : new String[] {"wet", "train", "nest"}) {
            right("stop if " + tag);
            wrong("stop if " + tag.substring(1), 8);
            wrong("stop if " + tag.substring(0, tag.length() - 1), 8);
            wrong("stop if " + tag + "s", 8);
            wrong("stop if " + tag + " < 1", 9 + tag.length());
            wrong("stop if " + tag + " + 1 < 1", 9 + tag.length());
            wrong("stop if 1 < " + tag, 12);
            wrong("stop if 1 + " + tag + " < 1", 12);
            wrong(tag, 0);
            wrong("dry " + tag, 4);
        }
        for (String fact : new String[] {"day", "hour", "wind", "heat", "height", "side"}) {
            right("stop if " + fact + " < 1");
            right("stop if 1 > " + fact);
            wrong("stop if " + fact.substring(1) + " < 1", 8);
            wrong("stop if " + fact.substring(0, fact.length() - 1) + " < 1", 8);
            wrong("stop if " + fact + "s < 1", 8);
            wrong("stop if " + fact, 8 + fact.length());
            wrong("stop if " + fact + " and wet", 9 + fact.length());
            wrong("stop if not " + fact, 12 + fact.length());
            wrong("stop if (" + fact + ") < 1", 9 + fact.length());
            wrong(fact, 0);
            wrong("pay " + fact, 4);
        }
    }

    /** Each byte that is no part of a text is wrong where it stands; the others are not, or are by the word's begin. */
    private static void everyByteRefused() {
        for (int sign = 0; sign < 256; sign++) {
            BridgePaint paint = withBay();
            Check.tape(paint, "pay 1 " + (char) sign);
            boolean isBlank = sign == ' ';
            if (isBlank) {
                Check.due("a blank is right", paint.terms(), 0);
            } else {
                Check.argument("byte " + sign, () -> paint.terms());
            }
            // Behind a ; a LINE must come; all else cannot stand there.
            Check.due("fault of byte " + sign, paint.fault(), isBlank ? -1 : sign == ';' ? 7 : 6);
        }
    }

    /** "or the text's length, if more must come": behind each thing that something must follow. */
    private static void whatMustCome() {
        String[] halves = {"stop", "stop if", "stop if not", "stop if (", "stop if (wet", "stop if wet and",
            "stop if wet or", "stop if 1", "stop if 1 +", "stop if 1 <", "stop if 1 < 2 +", "stop if day >",
            "stop if (1 < 2", "dry", "holds", "pay", "dry 1 if", "holds 1 if", "pay 1 if", "pay 1;", "stop if not not",
            "stop if ((((((", "stop if not not not not not not", "stop if not (", "stop if (not wet"};
        for (String half : halves) {
            wrong(half, half.length());
            wrong(half + "   ", half.length() + 3);
        }
        String[] wholes = {"stop if wet", "stop if (wet)", "stop if 1 < 2", "dry 1", "dry 1 if wet", "pay 1;pay 2"};
        for (String whole : wholes) {
            right(whole);
            right(whole + "   ");
            wrong(whole + ";", whole.length() + 1);
        }
    }

    /** "( and not within one another at most 6 deep": every way to be six and seven deep. */
    private static void deepest() {
        for (int ways = 0; ways < 64; ways++) {
            StringBuilder ahead = new StringBuilder();
            StringBuilder behind = new StringBuilder();
            int nots = Integer.bitCount(ways);
            for (int i = 0; i < 6; i++) {
                boolean isNot = (ways >> i & 1) == 1;
                ahead.append(isNot ? "not " : "(");
                behind.append(isNot ? "" : ")");
            }
            String six = "stop if " + ahead;
            BridgePaint paint = withBay();
            Check.due(six, Check.terms(paint, six + "1<2" + behind), 0);
            Check.due(six + " holds", paint.why(0, 0, 0, 0), nots % 2 == 0 ? 2 : 0);
            wrong(six + "(wet)" + behind, six.length());
            wrong(six + "not wet" + behind, six.length());
            // A not is over behind its ATOM; what stands beside that is as deep as the ( round both.
            if (ahead.charAt(ahead.length() - 1) == '(') {
                wrong(six + "wet and not wet" + behind, six.length() + 8);
            } else {
                right(six + "wet and not wet" + behind);
            }
        }
    }

    /** Depth begins again in each LINE and each text, also behind one that was refused six deep. */
    private static void deepOnceMore() {
        String six = "((((((wet))))))";
        right("stop if " + six + ";stop if " + six + ";dry 1 if not not not not not not wet");
        right("stop if " + six + " and " + six + " or " + six);
        wrong("stop if " + six + ";stop if (" + six + ")", 24 + 8 + 6);
        BridgePaint paint = withBay();
        for (String half : new String[] {"stop if ((((((", "stop if not not not not not not", "stop if (not (wet and (",
            "stop if (((((( wet and", "stop if (((((( 1 < 2 or 1 < 2 and"}) {
            for (int times = 0; times < 4; times++) {
                Check.argument(half, () -> Check.terms(paint, half));
                Check.due("fault of " + half, paint.fault(), half.length());
            }
        }
        Check.due("six deep behind it", Check.terms(paint, "stop if " + six + " or ((((((1<2))))))"), 0);
        Check.due("it holds", paint.why(0, 0, 0, 0), 2);
        Check.argument("a ( that is not closed", () -> Check.terms(paint, "stop if (wet"));
        Check.argument("a ) that is too many", () -> Check.terms(paint, "stop if wet)"));
        Check.due("its fault", paint.fault(), 11);
    }

    /** Six ( with an or and an and ahead of each, and both once more: whichever of the atoms hold. */
    private static void deepestOfOrs() {
        int holds = 0;
        for (int pattern = 0; pattern < 300; pattern++) {
            int bits = pattern * 0x9e3779b1 >>> 8;
            boolean due = (bits >> 20 & 1) == 1;
            StringBuilder text = new StringBuilder("stop if ");
            for (int deep = 0; deep < 7; deep++) {
                text.append(isTrue(bits, 2 * deep)).append(" or ").append(isTrue(bits, 2 * deep + 1)).append(" and (");
            }
            text.setLength(text.length() - 1);
            text.append(isTrue(bits, 20)).append("))))))");
            for (int deep = 6; deep >= 0; deep--) {
                due = (bits >> 2 * deep & 1) == 1 || (bits >> 2 * deep + 1 & 1) == 1 && due;
            }
            BridgePaint paint = withBay();
            Check.due(text.toString(), Check.terms(paint, text.toString()), 0);
            Check.due(text + " holds", paint.why(0, 0, 0, 0), due ? 2 : 0);
            holds += due ? 1 : 0;
        }
        Check.due("some of them hold, some do not: " + holds, holds > 60 && holds < 240, true);
    }

    private static String isTrue(int bits, int place) {
        return (bits >> place & 1) == 1 ? "0<1" : "1<0";
    }

    /** "at most 10" LINES; "of an 11th LINE its first word" */
    private static void linesAtMost() {
        String[] kinds = {"stop if wet", "dry 1", "holds 1 if wet", "pay 1"};
        for (int lines = 1; lines <= 12; lines++) {
            StringBuilder text = new StringBuilder();
            int eleventh = -1;
            for (int line = 0; line < lines; line++) {
                text.append(line == 0 ? " " : " ; ");
                eleventh = line == 10 ? text.length() : eleventh;
                text.append(kinds[line % kinds.length]);
            }
            if (lines <= 10) {
                right(text.toString());
                wrong(text + ";", text.length() + 1);
                wrong(text + " pay", text.length() + 1);
            } else {
                wrong(text.toString(), eleventh);
            }
        }
        String ten = "dry 1;".repeat(9) + "dry 1";
        wrong(ten + ";x", 60);
        wrong(ten + ";;", 60);
        wrong(ten + ";1", 60);
        wrong(ten + ";dry", 60);
        wrong(ten + ";dry 1", 60);
        wrong(ten + ";" + "dry 1;".repeat(9), 60);
        wrong("dry 1;".repeat(9) + "dry", 57);
        wrong("dry 1;".repeat(9) + "dry;dry 1", 57);
    }

    /** WHY: "2 and the first stop LINE (its place among all LINES, from 0 on) that holds" */
    private static void tenLinesCount() {
        for (int place = 0; place < 10; place++) {
            BridgePaint paint = withBay();
            Check.terms(paint, "dry 1;".repeat(place) + "stop if wet" + ";stop if 1<2".repeat(9 - place));
            Check.due("the next one", paint.why(0, 0, 0, 0), place == 9 ? 0 : 2 + place + 1);
            paint.weather(0, 0, 0, 0, -1, 0);
            Check.due("the line at place " + place, paint.why(0, 0, 0, 0), 2 + place);
            BridgePaint kinds = withBay();
            String text = "dry 7;holds 7;pay 7;".repeat(3) + "dry 8";
            Check.terms(kinds, place < 3 ? text : text.replace("dry 8", "pay 8"));
            Check.due("the last dry counts", kinds.at(0, 0, 0, 0, 0), place < 3 ? 8 : 7);
            Check.due("the last pay counts", kinds.at(0, 0, 0, 0, 2), place < 3 ? 7 : 8);
        }
    }

    /** Texts that are refused take no room from those that are not. */
    private static void manyRefused() {
        BridgePaint paint = withBay();
        String lines = "pay 1;".repeat(9) + "pay 1";
        String code = "stop if 1<0" + "or1<0".repeat(76);
        for (int times = 0; times < 6; times++) {
            Check.argument("ten lines and one", () -> Check.terms(paint, lines + ";pay 1"));
            Check.argument("much of one line", () -> Check.terms(paint, code + "x"));
        }
        Check.due("ten lines", Check.terms(paint, "pay 9;".repeat(9) + "stop if wet"), 0);
        Check.due("a line of much that does not hold", Check.terms(paint, code), 1);
        Check.due("a line of much that holds", Check.terms(paint, code + "or0<1"), 2);
        for (int times = 0; times < 6; times++) {
            Check.full("no room for ten lines", () -> Check.terms(paint, lines));
            Check.full("no room for much", () -> Check.terms(paint, code));
        }
        Check.due("the pay of ten lines", paint.at(0, 0, 0, 0, 2), 9);
        Check.due("the stop of ten lines, dry", paint.why(0, 0, 0, 0), 0);
        paint.weather(0, 0, 0, 0, -1, 0);
        Check.due("the stop of ten lines, wet", paint.why(0, 0, 0, 0), 11);
        Check.due("much that does not hold", paint.why(1, 0, 0, 0), 0);
        Check.due("much that holds", paint.why(2, 0, 0, 0), 2);
    }

    /** Texts that are gone with all behind an image take no room from the ones told then. */
    private static void toldAgainBehindAnImage() {
        BridgePaint paint = withBay();
        String code = "or1<0".repeat(76);
        Check.terms(paint, "pay 9;".repeat(9) + "stop if wet");
        paint.image();
        for (int times = 0; times < 9; times++) {
            Check.due("much", Check.terms(paint, "stop if 1<0" + code), 1);
            Check.due("ten lines", Check.terms(paint, "dry 5;".repeat(9) + "stop if 0<1"), 2);
            Check.due("much does not hold", paint.why(1, 0, 0, 0), 0);
            Check.due("the tenth line holds", paint.why(2, 0, 0, 0), 11);
            Check.due("the first text", paint.at(0, 0, 0, 0, 2), 9);
            Check.due("back", paint.back(), true);
            Check.due("one text", paint.count(1), 1);
            Check.index("terms 1 are gone", () -> paint.why(1, 0, 0, 0));
        }
        Check.due("another text", Check.terms(paint, "stop if 0<1" + code), 1);
        Check.due("it holds", paint.why(1, 0, 0, 0), 2);
        Check.due("the first text is as it was", paint.why(0, 0, 0, 0), 0);
    }

    /** "The first wrong byte of the latest text that was read; NONE without one, and ahead of any." */
    private static void faultStays() {
        BridgePaint paint = withBay();
        Check.due("ahead of any", paint.fault(), -1);
        Check.tape(paint, "x");
        Check.due("a text that was not read", paint.fault(), -1);
        Check.argument("x", () -> paint.terms());
        Check.due("x", paint.fault(), 0);
        Check.due("asked again", paint.fault(), 0);
        Check.argument("a bay that is refused", () -> paint.bay(0, 0, 0, 0));
        Check.due("no text was read", paint.fault(), 0);
        Check.due("an empty text", paint.terms(), 0);
        Check.due("it has none", paint.fault(), -1);
        Check.argument("dry 49", () -> Check.terms(paint, "dry 49"));
        Check.due("dry 49", paint.fault(), 4);
        paint.image();
        Check.due("right", Check.terms(paint, "dry 48"), 1);
        Check.due("right has none", paint.fault(), -1);
        paint.back();
        Check.due("an image does not bring it back", paint.fault(), -1);
        Check.argument("wrong behind it", () -> Check.terms(paint, "dry 48 if"));
        paint.back();
        Check.due("an image does not take it away", paint.fault(), 9);
    }
}
