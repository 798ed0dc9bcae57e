/** Promises 1 to 11: a new object, the tape, what is told, texts of terms and their first wrong byte. */
final class TellingTest {
    private static final int LEAST = Integer.MIN_VALUE;
    private static final int MOST = Integer.MAX_VALUE;

    private TellingTest() {
    }

    public static void main(String[] args) {
        promise1();
        promise2();
        promise3();
        promise4();
        promise5();
        promise6();
        promise6Last();
        promise7();
        promise8();
        promise9();
        promise10();
        promise10Room();
        promise11();
        promise11Deep();
        promise11Lines();
        promise11Stays();
        Check.finish("TellingTest");
    }

    private static void promise1() {
        BridgePaint paint = new BridgePaint();
        Check.due("NONE", BridgePaint.NONE, -1);
        for (int what = 0; what <= 9; what++) {
            Check.due("count(" + what + ") of a new object", paint.count(what), 0);
        }
        Check.due("fault() of a new object", paint.fault(), -1);
        Check.due("back() of a new object", paint.back(), false);
        Check.due("thick() of a new object", paint.thick(), -1);
        Check.due("even(1) of a new object", paint.even(1), 0);
        Check.due("spent(500, NONE) of a new object", paint.spent(500, -1), 0);
        Check.due("worst(0) of a new object", paint.worst(0), -1);
        Check.due("match(0, 0) of a new object", paint.match(0, 0), -1);
        Check.due("caught(0, 199, 0) of a new object", paint.caught(0, 199, 0), 0);
        Check.due("end(0) of a new object", paint.end(0), true);
        Check.due("end(1) of a new object", paint.end(1), false);
        Check.due("feed ends at 20", paint.feed(0, 0, 0, 0, 0), 20);
        paint.bay(0, 0, 1, 10);
        Check.due("rust of a new object, least loss", paint.steel(0, 2, 0, true), 8);
        Check.due("rust of a new object, greatest loss", paint.steel(0, 2, 0, false), 6);
        Check.due("two objects do not share", new BridgePaint().count(0), 0);
    }

    private static void promise2() {
        BridgePaint paint = new BridgePaint();
        for (int i = 1; i <= 19; i++) {
            Check.due("feed " + i, paint.feed(i, -1, LEAST, MOST, 0), 20 * i);
        }
        Check.due("end(381) ahead of it", paint.end(381), false);
        Check.due("feed 20", paint.feed(0, 0, 0, 0, 0), 400);
        Check.due("feed 21", paint.feed(0, 0, 0, 0, 0), -1);
        Check.due("none came", paint.end(400), true);
        paint.end(381);
        Check.due("401 would be more", paint.feed(0, 0, 0, 0, 0), -1);
        Check.due("none came of 401", paint.end(382), false);
        paint.end(380);
        Check.due("400 again", paint.feed(0, 0, 0, 0, 0), 400);
        BridgePaint ordered = new BridgePaint();
        // "hold", "s 12", " if ", "wet;", "pay3": of each number the highest byte first.
        ordered.feed(0x686f6c64, 0x73203132, 0x20696620, 0x7765743b, 0x70617933);
        Check.due("terms of five numbers", ordered.terms(), 0);
        ordered.bay(0, 0, 1, 0);
        Check.due("pay of five numbers", ordered.at(0, 0, 0, 0, 2), 3);
        Check.due("holds of five numbers, dry", ordered.at(0, 0, 0, 0, 1), 30);
        ordered.weather(0, 0, 0, 0, -1, 0);
        Check.due("holds of five numbers, wet", ordered.at(0, 0, 0, 0, 1), 12);
    }

    private static void promise3() {
        BridgePaint paint = new BridgePaint();
        paint.feed(0x70617939, 0x39393939, 0, 0, 0);
        Check.due("end(21)", paint.end(21), false);
        Check.due("end(-1)", paint.end(-1), false);
        Check.due("end(least)", paint.end(LEAST), false);
        Check.due("end(most)", paint.end(MOST), false);
        Check.due("end(20)", paint.end(20), true);
        Check.due("end(5)", paint.end(5), true);
        Check.due("end(6) behind end(5)", paint.end(6), false);
        Check.due("feed behind end(5)", paint.feed(0, 0, 0, 0, 0), 25);
        paint.end(5);
        Check.due("its first bytes are read: pay99", paint.terms(), 0);
        paint.bay(0, 0, 1, 0);
        Check.due("pay99", paint.at(0, 0, 0, 0, 2), 99);
        paint.feed(0, 0, 0, 0, 0);
        Check.due("end(0)", paint.end(0), true);
        Check.due("an empty text", paint.terms(), 1);
    }

    private static void promise4() {
        BridgePaint paint = new BridgePaint();
        Check.due("days(0)", paint.days(0), 0);
        Check.due("days(3)", paint.days(3), 3);
        Check.due("days(4)", paint.days(4), 7);
        Check.due("count(7)", paint.count(7), 7);
        Check.argument("days(-1)", () -> paint.days(-1));
        Check.argument("days(193)", () -> paint.days(193));
        Check.argument("days(most)", () -> paint.days(MOST));
        Check.argument("days(least)", () -> paint.days(LEAST));
        Check.due("nothing changed", paint.count(7), 7);
        Check.due("days(192)", paint.days(192), 199);
        Check.argument("days(1) on day 199", () -> paint.days(1));
        Check.due("days(0) on day 199", paint.days(0), 199);
        Check.argument("days(200)", () -> new BridgePaint().days(200));
        Check.due("days(199)", new BridgePaint().days(199), 199);
    }

    private static void promise5() {
        BridgePaint paint = new BridgePaint();
        Check.argument("side 2", () -> paint.bay(2, 0, 1, 0));
        Check.argument("side -1", () -> paint.bay(-1, 0, 1, 0));
        Check.argument("height 10", () -> paint.bay(0, 10, 1, 0));
        Check.argument("height -1", () -> paint.bay(0, -1, 1, 0));
        Check.argument("need 0", () -> paint.bay(0, 0, 0, 0));
        Check.argument("need 21", () -> paint.bay(0, 0, 21, 0));
        Check.argument("steel -1", () -> paint.bay(0, 0, 1, -1));
        Check.argument("steel 501", () -> paint.bay(0, 0, 1, 501));
        Check.due("no bay came", paint.count(0), 0);
        Check.due("the least of all", paint.bay(0, 0, 1, 0), 0);
        Check.due("the most of all", paint.bay(1, 9, 20, 500), 1);
        Check.due("steel at first", paint.steel(1, 0, 0, false), 500);
        for (int bay = 2; bay < 8; bay++) {
            Check.due("bay " + bay, paint.bay(1, 2, 3, 4), bay);
        }
        Check.full("a ninth bay", () -> paint.bay(0, 0, 1, 0));
        Check.argument("a wrong ninth bay", () -> paint.bay(0, 0, 0, 0));
        Check.due("eight bays", paint.count(0), 8);
    }

    private static void promise6() {
        BridgePaint paint = new BridgePaint();
        Check.index("day 200", () -> paint.weather(0, 200, 0, 0, 0, 0));
        Check.index("day -1", () -> paint.weather(-1, 0, 0, 0, 0, 0));
        Check.index("hour 12", () -> paint.weather(0, 0, 0, 12, 0, 0));
        Check.index("hour -1", () -> paint.weather(0, 0, -1, 0, 0, 0));
        Check.index("an hour that is none ahead of a wind that is none", () -> paint.weather(1, 0, 12, 0, 10, 0));
        Check.argument("days back", () -> paint.weather(1, 0, 0, 0, 0, 0));
        Check.argument("hours back", () -> paint.weather(0, 1, 1, 0, 0, 0));
        Check.argument("wind 10", () -> paint.weather(0, 0, 0, 0, 10, 0));
        Check.argument("wind -11", () -> paint.weather(0, 0, 0, 0, -11, 0));
        Check.argument("wind least", () -> paint.weather(0, 0, 0, 0, LEAST, 0));
        Check.argument("heat -1", () -> paint.weather(0, 0, 0, 0, 0, -1));
        Check.argument("heat 31", () -> paint.weather(0, 0, 0, 0, 0, 31));
        Check.due("none came", paint.count(9), 0);
        for (int telling = 0; telling < 30; telling++) {
            Check.due("telling " + telling, paint.weather(0, 199, 0, 11, telling % 20 - 10, telling), telling);
        }
        Check.full("a 31st telling", () -> paint.weather(0, 0, 0, 0, 0, 0));
        Check.argument("a wrong 31st telling", () -> paint.weather(0, 0, 0, 0, 0, 31));
        Check.due("30 tellings", paint.count(9), 30);
    }

    private static void promise6Last() {
        BridgePaint paint = new BridgePaint();
        paint.bay(0, 0, 1, 0);
        paint.terms();
        Check.due("wind without any", paint.at(0, 0, 3, 4, 3), 0);
        Check.due("heat without any", paint.at(0, 0, 3, 4, 4), 10);
        Check.due("wet without any", paint.at(0, 0, 3, 4, 5), 0);
        paint.weather(2, 3, 4, 5, -10, 0);
        paint.weather(3, 4, 5, 6, 9, 30);
        Check.due("wet by -10", paint.at(0, 0, 3, 4, 5), 1);
        Check.due("wind by -10", paint.at(0, 0, 3, 4, 3), 9);
        Check.due("heat of the first", paint.at(0, 0, 3, 4, 4), 0);
        Check.due("the last one counts: wet", paint.at(0, 0, 3, 5, 5), 0);
        Check.due("the last one counts: heat", paint.at(0, 0, 3, 5, 4), 30);
        Check.due("hour 3 is ahead of both", paint.at(0, 0, 2, 3, 4), 10);
        Check.due("hour 6 of day 2 is in none", paint.at(0, 0, 2, 6, 4), 10);
        Check.due("hour 6 of day 3", paint.at(0, 0, 3, 6, 4), 30);
        Check.due("hour 4 of day 4 is in none", paint.at(0, 0, 4, 4, 4), 10);
        Check.due("day 5 is in none", paint.at(0, 0, 5, 5, 4), 10);
        paint.weather(0, 199, 0, 11, -1, 7);
        Check.due("wet without wind", paint.at(0, 0, 3, 5, 5), 1);
        Check.due("told again: wind", paint.at(0, 0, 3, 5, 3), 0);
        Check.due("told again: heat", paint.at(0, 0, 199, 11, 4), 7);
        paint.weather(0, 199, 11, 11, 0, 8);
        Check.due("wind 0 is not wet", paint.at(0, 0, 9, 11, 5), 0);
        Check.due("wind 0", paint.at(0, 0, 9, 11, 3), 0);
        Check.due("from hour 11 to 11", paint.at(0, 0, 9, 11, 4), 8);
        paint.weather(199, 199, 11, 11, 1, 9);
        Check.due("wind 1 is not wet", paint.at(0, 0, 199, 11, 5), 0);
        Check.due("wind 1", paint.at(0, 0, 199, 11, 3), 1);
    }

    private static void promise7() {
        BridgePaint paint = new BridgePaint();
        paint.bay(0, 0, 1, 0);
        paint.terms();
        Check.argument("bit 12", () -> paint.trains(4096));
        Check.argument("below 0", () -> paint.trains(-1));
        Check.argument("least", () -> paint.trains(LEAST));
        Check.due("none at first", paint.at(0, 0, 0, 0, 6), 0);
        paint.trains(0x801);
        Check.due("hour 0", paint.at(0, 0, 0, 0, 6), 1);
        Check.due("hour 1", paint.at(0, 0, 0, 1, 6), 0);
        Check.due("hour 11", paint.at(0, 0, 199, 11, 6), 1);
        Check.argument("bit 13", () -> paint.trains(8192));
        Check.due("it is as it was", paint.at(0, 0, 199, 11, 6), 1);
        paint.trains(4095);
        Check.due("all hours", paint.at(0, 0, 7, 5, 6), 1);
        paint.trains(0);
        Check.due("told again", paint.at(0, 0, 0, 0, 6), 0);
    }

    private static void promise8() {
        BridgePaint paint = new BridgePaint();
        paint.bay(0, 0, 1, 0);
        paint.terms();
        paint.trains(1);
        Check.index("to day 200", () -> paint.span(false, 0, 200));
        Check.index("from day -1", () -> paint.span(true, -1, 0));
        Check.index("both, the index first", () -> paint.span(true, 200, 0));
        Check.argument("back", () -> paint.span(true, 1, 0));
        Check.due("had", paint.span(false, 3, 4), 1);
        Check.due("a strike", paint.span(true, 6, 6), 1);
        Check.due("a train on day 2", paint.at(0, 0, 2, 0, 6), 1);
        Check.due("no train on day 3", paint.at(0, 0, 3, 0, 6), 0);
        Check.due("no train on day 4", paint.at(0, 0, 4, 0, 6), 0);
        Check.due("a train on day 5", paint.at(0, 0, 5, 0, 6), 1);
        Check.due("a train in a strike", paint.at(0, 0, 6, 0, 6), 1);
        Check.due("day 5 is open", paint.why(0, 0, 5, 0), 0);
        Check.due("day 6 is a strike", paint.why(0, 0, 6, 11), 1);
        Check.due("day 7 is open", paint.why(0, 0, 7, 0), 0);
        for (int i = 2; i <= 6; i++) {
            Check.due("had " + i, paint.span(false, 100, 100), i);
        }
        for (int i = 2; i <= 5; i++) {
            Check.due("strike " + i, paint.span(true, 0, 199), i);
        }
        Check.full("had 7", () -> paint.span(false, 0, 0));
        Check.full("strike 6", () -> paint.span(true, 0, 0));
        Check.argument("a wrong strike 6", () -> paint.span(true, 1, 0));
        Check.due("day 0 is a strike", paint.why(0, 0, 0, 0), 1);
    }

    private static void promise9() {
        BridgePaint paint = new BridgePaint();
        Check.index("no bay", () -> paint.nest(0, 0, 0));
        paint.bay(0, 0, 1, 0);
        paint.bay(0, 0, 1, 0);
        paint.terms();
        Check.index("bay 2", () -> paint.nest(2, 0, 0));
        Check.index("bay -1", () -> paint.nest(-1, 0, 0));
        Check.index("day 200", () -> paint.nest(0, 0, 200));
        Check.argument("back", () -> paint.nest(0, 1, 0));
        Check.due("nest 0", paint.nest(1, 5, 6), 0);
        Check.due("day 4", paint.at(0, 1, 4, 11, 7), 0);
        Check.due("day 5", paint.at(0, 1, 5, 0, 7), 1);
        Check.due("day 6", paint.at(0, 1, 6, 11, 7), 1);
        Check.due("day 7", paint.at(0, 1, 7, 0, 7), 0);
        Check.due("another bay", paint.at(0, 0, 5, 0, 7), 0);
        for (int nest = 1; nest < 8; nest++) {
            Check.due("nest " + nest, paint.nest(0, nest, nest), nest);
        }
        Check.full("a ninth nest", () -> paint.nest(0, 0, 0));
        Check.argument("a wrong ninth nest", () -> paint.nest(0, 2, 1));
        Check.due("eight nests", paint.count(8), 8);
    }

    private static void promise10() {
        BridgePaint paint = new BridgePaint();
        paint.bay(1, 3, 1, 0);
        Check.argument("a word that is none", () -> Check.terms(paint, "stop if rain"));
        Check.due("it is not", paint.count(1), 0);
        Check.due("the tape is used up", paint.end(1), false);
        Check.due("blanks alone", Check.terms(paint, "     "), 0);
        Check.due("no line holds", paint.why(0, 0, 0, 0), 0);
        Check.due("all of it", Check.terms(paint, " stop if not ( wet or train)and wind+height>heat;dry 7 if side>0;"
                + " holds 9 ; pay 99 if day < 5 or nest "), 1);
        Check.due("the tape is used up again", paint.end(1), false);
        Check.due("wind + height is not above heat", paint.why(1, 0, 0, 0), 0);
        paint.weather(0, 0, 0, 0, 8, 10);
        Check.due("wind + height is above heat", paint.why(1, 0, 0, 0), 2);
        Check.due("dry", paint.at(1, 0, 0, 0, 0), 7);
        Check.due("holds", paint.at(1, 0, 0, 0, 1), 9);
        Check.due("pay on day 4", paint.at(1, 0, 4, 0, 2), 99);
        Check.due("pay on day 5", paint.at(1, 0, 5, 0, 2), 0);
        Check.due("words and numbers without blanks", Check.terms(paint, "dry07if1<2and3>2or 0>1;pay1"), 2);
        Check.due("dry07", paint.at(2, 0, 0, 0, 0), 7);
        Check.full("a fourth text", () -> Check.terms(paint, "pay 1"));
        Check.argument("a fourth text that is wrong", () -> Check.terms(paint, "pay 100"));
        Check.due("three", paint.count(1), 3);
        Check.due("the third is as it was", paint.at(2, 0, 0, 0, 0), 7);
    }

    /** Three texts of many things, and refused ones between them, do not come into each other's way. */
    private static void promise10Room() {
        BridgePaint paint = new BridgePaint();
        paint.bay(0, 0, 1, 0);
        StringBuilder text = new StringBuilder("stop if 1<0");
        while (text.length() <= 400 - 5) {
            text.append("or1<0");
        }
        for (int terms = 0; terms < 3; terms++) {
            String last = text.substring(0, text.length() - 3) + (terms == 1 ? "2<1" : "0<1");
            Check.argument("a long wrong text", () -> Check.terms(paint, text + "x"));
            Check.due("a long text", Check.terms(paint, last), terms);
        }
        Check.full("a long fourth text", () -> Check.terms(paint, text.toString()));
        for (int terms = 0; terms < 3; terms++) {
            Check.due("terms " + terms, paint.why(terms, 0, 0, 0), terms == 1 ? 0 : 2);
        }
        BridgePaint lines = new BridgePaint();
        lines.bay(0, 0, 1, 0);
        for (int terms = 0; terms < 3; terms++) {
            Check.due("ten lines", Check.terms(lines, "pay 1;pay 1;pay 1;pay 1;pay 1;pay 1;pay 1;pay 1;stop if 1<0;"
                    + (terms == 1 ? "dry 1" : "stop if 0<1")), terms);
        }
        Check.full("ten lines more", () -> Check.terms(lines, "dry 9;".repeat(9) + "dry 9"));
        for (int terms = 0; terms < 3; terms++) {
            Check.due("the tenth line of terms " + terms, lines.why(terms, 0, 0, 0), terms == 1 ? 0 : 11);
            Check.due("dry of terms " + terms, lines.at(terms, 0, 0, 0, 0), terms == 1 ? 1 : 0);
        }
    }

    private static void fault(String text, int due) {
        BridgePaint paint = new BridgePaint();
        if (due == -1) {
            Check.due("terms() of \"" + text + "\"", Check.terms(paint, text), 0);
        } else {
            Check.argument("terms() of \"" + text + "\"", () -> Check.terms(paint, text));
        }
        Check.due("fault() of \"" + text + "\"", paint.fault(), due);
    }

    private static void promise11() {
        fault("", -1);
        fault("   ", -1);
        fault("x", 0);
        fault(" stops if wet", 1);
        fault("stop", 4);
        fault("stop  ", 6);
        fault("stop wet", 5);
        fault("stop if", 7);
        fault("stop if ; pay 1", 8);
        fault("stop if wet wet", 12);
        fault("stop if wet)", 11);
        fault("stop if (wet", 12);
        fault("stop if (wet;pay 1", 12);
        fault("stop if wet < 3", 12);
        fault("stop if 3 < wet", 12);
        fault("stop if 3", 9);
        fault("stop if 3 and wet", 10);
        fault("stop if 1 < 2 < 3", 14);
        fault("stop if 1 + < 3", 12);
        fault("stop if (1 + 2) < 3", 14);
        fault("stop if 1 + (2) < 3", 12);
        fault("stop if not", 11);
        fault("stop if wet and or wet", 16);
        fault("stop if wet or", 14);
        fault("dry", 3);
        fault("dry 48", -1);
        fault("dry 49", 4);
        fault("dry 048", 4);
        fault("dry 00", -1);
        fault("dry wet", 4);
        fault("dry -1", 4);
        fault("holds 99", -1);
        fault("holds 100", 6);
        fault("holds 1 2", 8);
        fault("pay 5 if", 8);
        fault("pay 5 wet", 6);
        fault("pay 5;", 6);
        fault("pay 5; ", 7);
        fault("pay 5;;pay 6", 6);
        fault(";pay 5", 0);
        fault("pay 5 , pay 6", 6);
        fault("Pay 5", 0);
        fault("pay\t5", 3);
        fault("pay 5\u0000", 5);
        fault("pay 5\u00ff", 5);
        fault("pay 5 if height+side+heat+wind+hour+day+99>00", -1);
        fault("pay 5 if heights > 1", 9);
        fault("pay 5 ifwet", 6);
        fault("stop if day", 11);
        fault("stop if 12 34 < 5", 11);
        fault("stop if 123 < 5", 8);
        fault("if wet", 0);
        fault("stopz if wet", 0);
        fault("astop if wet", 0);
        fault("holds stop", 6);
        fault("stop if stop < 3", 8);
        fault("stop if 1 = 1", 10);
        fault("stop if wet - 1", 12);
        fault("dry 9/", 5);
        fault("dry 9:", 5);
        fault("dry 9`", 5);
        fault("dry 9{", 5);
    }

    private static void promise11Deep() {
        fault("stop if ((((((wet))))))", -1);
        fault("stop if (((((((wet)))))))", 14);
        fault("stop if not not not not not not wet", -1);
        fault("stop if not not not not not not not wet", 32);
        fault("stop if (not(not(not wet)))", -1);
        fault("stop if (not(not(not(wet))))", 20);
        fault("stop if (not(not(not not wet)))", 21);
        fault("stop if (((((not wet and not wet or not wet)))))", -1);
        fault("stop if ((((((wet and not wet))))))", 22);
        fault("stop if not wet and not wet and not wet and not wet and not wet and not wet and not wet", -1);
        fault("stop if (wet) and (wet) and (wet) and (wet) and (wet) and (wet) and (wet)", -1);
        fault("stop if ((((((wet)))))) and ((((((wet))))))", -1);
        fault("stop if ((((((wet)))))) or (((((((wet)))))))", 33);
        fault("stop if ((((((wet)))))", 22);
        fault("stop if ((((((wet)))))))", 23);
    }

    private static void promise11Lines() {
        String ten = "pay 1;pay 1;pay 1;pay 1;pay 1;pay 1;pay 1;pay 1;pay 1;pay 1";
        fault(ten, -1);
        fault(ten + ";pay 1", 60);
        fault(ten + " ; stop", 62);
        fault(ten + ";", 60);
        fault(ten + ";  ", 62);
        fault(ten + ";nothing", 60);
        fault(ten + " pay 1", 60);
    }

    private static void promise11Stays() {
        BridgePaint paint = new BridgePaint();
        paint.image();
        Check.argument("wrong", () -> Check.terms(paint, "pay"));
        Check.due("fault", paint.fault(), 3);
        paint.back();
        Check.due("an image does not keep it", paint.fault(), 3);
        Check.terms(paint, "pay 1");
        Check.due("a right text has none", paint.fault(), -1);
        Check.terms(paint, "");
        Check.terms(paint, "");
        Check.argument("wrong and no room", () -> Check.terms(paint, "1"));
        Check.due("fault of one refused", paint.fault(), 0);
        Check.full("right and no room", () -> Check.terms(paint, "pay 1"));
        Check.due("a right text that is refused has none", paint.fault(), -1);
        Check.argument("wrong again", () -> Check.terms(paint, "pay pay"));
        Check.due("fault again", paint.fault(), 4);
        Check.tape(paint, "pay 1");
        Check.due("a tape that was not read does not count", paint.fault(), 4);
    }
}
