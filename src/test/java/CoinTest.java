/** Promises 34 to 39: coats for coin, a contractor's promise and its price, even years. */
final class CoinTest {
    private static final int MOST = Integer.MAX_VALUE;

    private CoinTest() {
    }

    public static void main(String[] args) {
        promise34();
        promise35();
        promise36();
        promise36Ties();
        promise36Eight();
        promise37();
        promise37All();
        promise38();
        promise39();
        Check.finish("CoinTest");
    }

    private static BridgePaint ready(int... needs) {
        BridgePaint paint = new BridgePaint();
        for (int need : needs) {
            paint.bay(0, 0, need, 0);
        }
        return paint;
    }

    private static void spends(BridgePaint paint, int coin, int wear, int... coats) {
        Check.due("wear for " + coin, paint.spent(coin, -1), wear);
        for (int bay = 0; bay < coats.length; bay++) {
            Check.due("coats of bay " + bay + " for " + coin, paint.spent(coin, bay), coats[bay]);
        }
    }

    private static void promise34() {
        BridgePaint paint = ready(1, 1);
        paint.wear(0, 10, 5, 0);
        spends(paint, 0, 0, 2, 0);
        paint.cost(0, 3, 7);
        spends(paint, 2, 10, 0, 0);
        spends(paint, 3, 5, 1, 0);
        spends(paint, 6, 5, 1, 0);
        spends(paint, 7, 0, 2, 0);
        paint.cost(0, 99, 0);
        spends(paint, 0, 0, 2, 0);
        Check.argument("100", () -> paint.cost(0, 100, 0));
        Check.argument("two 100", () -> paint.cost(0, 0, 100));
        Check.argument("-1", () -> paint.cost(0, -1, 0));
        Check.argument("two -1", () -> paint.cost(0, 0, -1));
        Check.index("bay 2", () -> paint.cost(2, 0, 0));
        Check.index("bay -1", () -> paint.cost(-1, 0, 0));
        Check.index("the index first", () -> paint.cost(2, 100, 0));
        spends(paint, 0, 0, 2, 0);
        paint.cost(1, 99, 99);
        paint.cost(0, 99, 99);
        spends(paint, 98, 10, 0, 0);
        spends(paint, 99, 0, 2, 0);
    }

    private static void promise35() {
        BridgePaint paint = ready(1, 1);
        spends(paint, 0, 0, 0, 0);
        paint.wear(1, 0, 0, 0);
        spends(paint, 500, 0, 0, 0);
        paint.wear(1, 999, 998, 997);
        spends(paint, 0, 997, 0, 2);
        paint.wear(1, 997, 998, 999);
        spends(paint, 0, 997, 0, 0);
        paint.wear(1, 997, 996, 996);
        spends(paint, 0, 996, 0, 1);
        Check.argument("1000", () -> paint.wear(0, 1000, 0, 0));
        Check.argument("one 1000", () -> paint.wear(0, 0, 1000, 0));
        Check.argument("two 1000", () -> paint.wear(0, 0, 0, 1000));
        Check.argument("-1", () -> paint.wear(0, -1, 0, 0));
        Check.argument("one -1", () -> paint.wear(0, 0, -1, 0));
        Check.argument("two -1", () -> paint.wear(0, 0, 0, -1));
        Check.index("bay 2", () -> paint.wear(2, 0, 0, 0));
        Check.index("the index first", () -> paint.wear(-1, 1000, 0, 0));
        spends(paint, 0, 996, 0, 1);
    }

    private static void promise36() {
        BridgePaint paint = ready(1, 1, 1);
        paint.cost(0, 4, 7);
        paint.cost(1, 5, 9);
        paint.cost(2, 2, 50);
        paint.wear(0, 20, 12, 6);
        paint.wear(1, 30, 20, 4);
        paint.wear(2, 9, 8, 0);
        spends(paint, 0, 59, 0, 0, 0);
        spends(paint, 2, 58, 0, 0, 1);
        spends(paint, 4, 51, 1, 0, 0);
        spends(paint, 5, 49, 0, 1, 0);
        spends(paint, 9, 33, 0, 2, 0);
        spends(paint, 16, 19, 2, 2, 0);
        spends(paint, 18, 18, 2, 2, 1);
        spends(paint, 58, 18, 2, 2, 1);
        spends(paint, 62, 18, 2, 2, 1);
        spends(paint, 63, 16, 1, 2, 2);
        spends(paint, 65, 16, 1, 2, 2);
        spends(paint, 66, 10, 2, 2, 2);
        spends(paint, 500, 10, 2, 2, 2);
        Check.argument("coin 501", () -> paint.spent(501, -1));
        Check.argument("coin -1", () -> paint.spent(-1, 0));
        Check.index("bay 3", () -> paint.spent(0, 3));
        Check.index("bay -2", () -> paint.spent(0, -2));
        Check.index("the index first", () -> paint.spent(501, 3));
        Check.due("no bays", ready().spent(7, -1), 0);
    }

    private static void promise36Ties() {
        BridgePaint paint = ready(1, 1, 1);
        for (int bay = 0; bay < 3; bay++) {
            paint.cost(bay, 5, 10);
            paint.wear(bay, 10, 5, 0);
        }
        spends(paint, 10, 20, 0, 0, 2);
        spends(paint, 15, 15, 0, 1, 2);
        spends(paint, 20, 10, 0, 2, 2);
        spends(paint, 25, 5, 1, 2, 2);
        spends(paint, 29, 5, 1, 2, 2);
        spends(paint, 30, 0, 2, 2, 2);
        paint.wear(2, 10, 10, 10);
        spends(paint, 500, 10, 2, 2, 0);
    }

    private static void promise36Eight() {
        BridgePaint paint = ready(1, 1, 1, 1, 1, 1, 1, 1);
        for (int bay = 0; bay < 8; bay++) {
            paint.cost(bay, 62, 99);
            paint.wear(bay, 999, 999 - bay, 0);
        }
        spends(paint, 500, 2997, 0, 0, 0, 2, 2, 2, 2, 2);
        spends(paint, 98, 999 * 8 - 7, 0, 0, 0, 0, 0, 0, 0, 1);
        spends(paint, 61, 999 * 8, 0, 0, 0, 0, 0, 0, 0, 0);
        spends(paint, 457, 999 * 4, 0, 0, 0, 0, 2, 2, 2, 2);
        spends(paint, 458, 999 * 4 - 7, 0, 0, 0, 2, 2, 2, 2, 1);
        for (int bay = 0; bay < 8; bay++) {
            paint.cost(bay, 0, 0);
        }
        spends(paint, 0, 0, 2, 2, 2, 2, 2, 2, 2, 2);
    }

    private static void promise37() {
        BridgePaint paint = new BridgePaint();
        Check.due("one year, 1 of 4", paint.promise(1, 1, 1), 1);
        Check.due("two years, 1 of 4, one hard", paint.promise(2, 1, 1), 7);
        Check.due("two years, 1 of 4, two hard", paint.promise(2, 1, 2), 1);
        Check.due("three years, 2 of 4, two hard", paint.promise(3, 2, 2), 32);
        Check.due("never hard", paint.promise(20, 0, 1), 0);
        Check.due("always hard", paint.promise(20, 4, 20), 1099511627776L);
        Check.due("20 years, 3 of 4, 20 hard", paint.promise(20, 3, 20), 3486784401L);
        Check.due("20 years, 1 of 4, one hard", paint.promise(20, 1, 1), 1099511627776L - 3486784401L);
        Check.due("more hard ones than years", paint.promise(3, 4, 4), 0);
        Check.argument("years 0", () -> paint.promise(0, 1, 1));
        Check.argument("years 21", () -> paint.promise(21, 1, 1));
        Check.argument("H -1", () -> paint.promise(1, -1, 1));
        Check.argument("H 5", () -> paint.promise(1, 5, 1));
        Check.argument("hard 0", () -> paint.promise(1, 1, 0));
        Check.argument("hard 21", () -> paint.promise(1, 1, 21));
        Check.argument("most", () -> paint.promise(MOST, 1, 1));
    }

    /** Against all rows, told one by one. */
    private static void promise37All() {
        BridgePaint paint = new BridgePaint();
        for (int years = 1; years <= 6; years++) {
            for (int h = 0; h <= 4; h++) {
                long[] rows = new long[8];
                for (int row = 0; row < 1 << 2 * years; row++) {
                    int hard = 0;
                    for (int year = 0; year < years; year++) {
                        hard += (row >> 2 * year & 3) < h ? 1 : 0;
                    }
                    for (int told = 0; told <= hard; told++) {
                        rows[told]++;
                    }
                }
                for (int told = 1; told <= 7; told++) {
                    Check.due("promise(" + years + ", " + h + ", " + told + ")",
                            paint.promise(years, h, told), rows[told]);
                }
            }
        }
    }

    private static void promise38() {
        BridgePaint paint = new BridgePaint();
        Check.due("it never fails", paint.edge(5, 0, 1, 10), 50);
        Check.due("it always fails", paint.edge(5, 4, 1, 10), 25);
        Check.due("it always fails, half a coin", paint.edge(5, 4, 1, 11), 27);
        Check.due("one year in four: 10 by 1.25", paint.edge(1, 1, 1, 10), 8);
        Check.due("one year in four: 9 by 1.25", paint.edge(1, 1, 1, 9), 7);
        Check.due("seven of sixteen rows: 20 by 23/16", paint.edge(2, 1, 1, 10), 13);
        Check.due("nothing", paint.edge(20, 1, 1, 0), 0);
        Check.due("9999", paint.edge(11, 0, 1, 909), 9999);
        Check.due("above 9999", paint.edge(10, 0, 1, 1000 - 1), 9990);
        Check.due("10000", paint.edge(20, 0, 1, 500), 99999);
        Check.due("the most of all", paint.edge(20, 0, 20, 999), 99999);
        Check.due("9990", paint.edge(20, 4, 20, 999), 9990);
        Check.argument("years 0", () -> paint.edge(0, 1, 1, 1));
        Check.argument("years 21", () -> paint.edge(21, 1, 1, 1));
        Check.argument("H 5", () -> paint.edge(1, 5, 1, 1));
        Check.argument("H -1", () -> paint.edge(1, -1, 1, 1));
        Check.argument("hard 0", () -> paint.edge(1, 1, 0, 1));
        Check.argument("hard 21", () -> paint.edge(1, 1, 21, 1));
        Check.argument("always -1", () -> paint.edge(1, 1, 1, -1));
        Check.argument("always 1000", () -> paint.edge(1, 1, 1, 1000));
    }

    private static void promise39() {
        BridgePaint paint = ready(5, 3, 8, 2, 7);
        Check.due("one year", paint.even(1), 25);
        Check.due("two years: 16 and 9", paint.even(2), 16);
        Check.due("three years: 8, 8 and 9", paint.even(3), 9);
        Check.due("four years: 8, 8, 2 and 7", paint.even(4), 8);
        Check.due("no bays", ready().even(4), 0);
        Check.due("one bay", ready(20).even(4), 20);
        Check.due("four of the same", ready(6, 6, 6, 6).even(4), 6);
        Check.due("five of the same", ready(6, 6, 6, 6, 6).even(4), 12);
        Check.due("the greatest alone", ready(1, 1, 20, 1, 1).even(3), 20);
        Check.due("they lie beside one another", ready(9, 1, 9, 1).even(2), 10);
        Check.due("not by number alone", ready(1, 9, 9, 1).even(2), 10);
        Check.due("eight bays", ready(20, 20, 20, 20, 20, 20, 20, 20).even(3), 60);
        Check.argument("years 0", () -> paint.even(0));
        Check.argument("years 5", () -> paint.even(5));
        Check.argument("years -1", () -> paint.even(-1));
    }
}
