/** Promises 29 to 32: map, alike, least, product. */
public final class MapsTest {
    private static final int EMPTY = AlgebraCabinet.EMPTY, OUTSIDE = AlgebraCabinet.OUTSIDE;
    private static final int UNFIT = AlgebraCabinet.UNFIT, NONE = AlgebraCabinet.NONE;

    public static void main(String[] args) {
        map();
        mapsOfAllKinds();
        mapRefusals();
        alike();
        least();
        product();
        Due.finish();
    }

    private static void map() {
        AlgebraCabinet cabinet = new AlgebraCabinet();
        cabinet.make(0, 2, 0);
        cabinet.make(1, 3, 0);
        int[][] counts = {{0, 0, 4, 2, 2, 2}, {0, 1, 9, 6, 0, 0}, {1, 0, 8, 0, 6, 0}, {1, 1, 27, 6, 6, 6}};
        for (int[] c : counts) {
            for (int what = 0; what < 4; what++) {
                Due.due("maps " + c[0] + " " + c[1] + " of what " + what, cabinet.map(c[0], c[1], what, NONE), c[2 + what]);
            }
        }
        String[] injective = {"01", "02", "10", "12", "20", "21"};
        String[] onto = {"001", "010", "011", "100", "101", "110"};
        String[] both = {"012", "021", "102", "120", "201", "210"};
        for (int k = 0; k < 6; k++) {
            Due.due("map of what 1", cabinet.map(0, 1, 1, k), Due.line(injective[k]));
            Due.due("map of what 2", cabinet.map(1, 0, 2, k), Due.line(onto[k]));
            Due.due("map of what 3", cabinet.map(1, 1, 3, k), Due.line(both[k]));
        }
        for (int k = 0; k < 27; k++) {
            Due.due("map of what 0", cabinet.map(1, 1, 0, k), k / 9 * 49 + k / 3 % 3 * 7 + k % 3);
        }
        Due.due("behind the last", cabinet.map(1, 1, 0, 27), OUTSIDE);
        Due.due("behind the last", cabinet.map(0, 1, 3, 0), OUTSIDE);
        cabinet.make(2, 7, 0);
        Due.due("all maps of seven", cabinet.map(2, 2, 0, NONE), 823543);
        Due.due("the last map of seven", cabinet.map(2, 2, 0, 823542), Due.line("6666666"));
        Due.due("the last map of what 3", cabinet.map(2, 2, 3, 5039), Due.line("6543210"));
        Due.due("behind the last", cabinet.map(2, 2, 3, 5040), OUTSIDE);
    }

    private static void mapsOfAllKinds() {
        AlgebraCabinet cabinet = new AlgebraCabinet();
        Due.read(cabinet, 0, "4;b0123123023013012");
        Due.read(cabinet, 1, "2;b0110");
        Due.due("maps of a turn of four to itself", cabinet.map(0, 0, 0, NONE), 4);
        Due.due("map 1", cabinet.map(0, 0, 0, 1), Due.line("0123"));
        Due.due("map 2", cabinet.map(0, 0, 0, 2), Due.line("0202"));
        Due.due("map 3", cabinet.map(0, 0, 0, 3), Due.line("0321"));
        Due.due("maps onto two", cabinet.map(0, 1, 2, NONE), 1);
        Due.due("the map onto two", cabinet.map(0, 1, 2, 0), Due.line("0101"));
        Due.due("maps of two into four", cabinet.map(1, 0, 1, NONE), 1);
        Due.due("the map of two into four", cabinet.map(1, 0, 1, 0), Due.line("02"));
        Due.read(cabinet, 2, "3;u120;c0");
        Due.read(cabinet, 3, "6;u120453;c4");
        Due.due("arity 0 must go to arity 0", cabinet.map(2, 3, 0, NONE), 1);
        Due.due("arity 0 must go to arity 0", cabinet.map(2, 3, 0, 0), Due.line("453"));
        Due.due("back", cabinet.map(3, 2, 0, NONE), 3);
        Due.due("back, the first", cabinet.map(3, 2, 0, 0), Due.line("012201"));
        Due.due("no map of what 1 back", cabinet.map(3, 2, 1, NONE), 0);
        Due.due("maps of what 2 back", cabinet.map(3, 2, 2, NONE), 3);
        Due.read(cabinet, 4, "2;c0;u00");
        Due.due("arities in another order", cabinet.map(2, 4, 0, NONE), UNFIT);
        Due.due("maps are no changes", cabinet.count(2), 5);
    }

    private static void mapRefusals() {
        AlgebraCabinet cabinet = new AlgebraCabinet();
        Due.due("map OUTSIDE", cabinet.map(8, 0, 0, 0), OUTSIDE);
        Due.due("map OUTSIDE", cabinet.map(0, -1, 0, 0), OUTSIDE);
        Due.due("map EMPTY", cabinet.map(0, 1, 9, 0), EMPTY);
        cabinet.make(0, 3, 3);
        Due.due("map EMPTY", cabinet.map(0, 1, 9, 0), EMPTY);
        Due.due("map EMPTY", cabinet.map(1, 0, 9, 0), EMPTY);
        cabinet.make(1, 3, 2);
        Due.due("map UNFIT ahead of OUTSIDE", cabinet.map(0, 1, 9, 0), UNFIT);
        cabinet.make(1, 3, 33);
        Due.due("map UNFIT", cabinet.map(0, 1, 0, 0), UNFIT);
        Due.due("map UNFIT", cabinet.map(1, 0, 0, 0), UNFIT);
        Due.due("map OUTSIDE of what", cabinet.map(0, 0, 4, NONE), OUTSIDE);
        Due.due("map OUTSIDE of what", cabinet.map(0, 0, -1, NONE), OUTSIDE);
        Due.due("map OUTSIDE of k", cabinet.map(0, 0, 0, -2), OUTSIDE);
        Due.due("map OUTSIDE of k", cabinet.map(0, 0, 0, Integer.MIN_VALUE), OUTSIDE);
        Due.due("map OUTSIDE of k", cabinet.map(0, 0, 0, Integer.MAX_VALUE), OUTSIDE);
    }

    private static void alike() {
        AlgebraCabinet cabinet = new AlgebraCabinet();
        Due.due("alike OUTSIDE", cabinet.alike(0, 8), OUTSIDE);
        Due.due("alike OUTSIDE", cabinet.alike(-1, 0), OUTSIDE);
        Due.due("alike EMPTY", cabinet.alike(0, 0), EMPTY);
        Due.read(cabinet, 0, "3;b012120201");
        Due.read(cabinet, 1, "3;b012120201");
        Due.read(cabinet, 2, "3;b201012120");
        Due.read(cabinet, 3, "3;b000111222");
        Due.read(cabinet, 4, "4;b0123123023013012");
        Due.read(cabinet, 5, "4;b0123103223013210");
        Due.read(cabinet, 6, "3;u012");
        Due.due("alike EMPTY", cabinet.alike(0, 7), EMPTY);
        Due.due("alike to itself", cabinet.alike(0, 0), 2);
        Due.due("alike with one line", cabinet.alike(0, 1), 2);
        Due.due("alike with another line", cabinet.alike(0, 2), 1);
        Due.due("not alike", cabinet.alike(0, 3), 0);
        Due.due("not of one size", cabinet.alike(0, 4), 0);
        Due.due("not alike", cabinet.alike(4, 5), 0);
        Due.due("alike UNFIT", cabinet.alike(0, 6), UNFIT);
        cabinet.make(6, 2, 0);
        cabinet.make(7, 3, 0);
        Due.due("of one line, not of one size", cabinet.alike(6, 7), 0);
        cabinet.make(6, 2, 1);
        cabinet.make(7, 3, 1);
        Due.due("of one line, not of one size", cabinet.alike(6, 7), 0);
        Due.due("alike is no change", cabinet.count(2), 11);
    }

    private static void least() {
        AlgebraCabinet cabinet = new AlgebraCabinet();
        Due.due("least OUTSIDE", cabinet.least(8, 0), OUTSIDE);
        Due.due("least OUTSIDE of to", cabinet.least(0, 8), OUTSIDE);
        Due.due("least OUTSIDE of to", cabinet.least(0, -1), OUTSIDE);
        Due.due("least EMPTY", cabinet.least(0, 1), EMPTY);
        Object[][] rows = {{"3;b012120201", "3;b012120201", 2}, {"3;b201012120", "3;b012120201", 2},
            {"2;c1", "2;c0", 1}, {"7;c6;c6;c3", "7;c0;c0;c1", 120}, {"5;u12340", "5;u12340", 5},
            {"5;u43210", "5;u02143", 8}, {"6;u555555", "6;u000000", 120}, {"4;u3333;c0", "4;u0000;c1", 2},
            {"2;b1110", "2;b1000", 1}, {"7", "7", 5040}, {"1;b0;u0", "1;b0;u0", 1}, {"3;b222222222", "3;b000000000", 2}};
        for (Object[] row : rows) {
            Due.read(cabinet, 0, (String) row[0]);
            Due.due("least of " + row[0], cabinet.least(0, 1), (Integer) row[2]);
            Due.dueText("least of " + row[0], Due.told(cabinet, 1), (String) row[1]);
            Due.dueText("the drawer itself", Due.told(cabinet, 0), (String) row[0]);
            Due.due("maps of what 3", cabinet.map(1, 1, 3, NONE), (Integer) row[2]);
        }
        Due.read(cabinet, 2, "5;u43210");
        Due.due("least to itself", cabinet.least(2, 2), 8);
        Due.dueText("least to itself", Due.told(cabinet, 2), "5;u02143");
        Due.due("undo", cabinet.undo(), 2);
        Due.dueText("undo", Due.told(cabinet, 2), "5;u43210");
        Due.due("changes, of which 16 were kept", cabinet.count(2), 15);
    }

    private static void product() {
        AlgebraCabinet cabinet = new AlgebraCabinet();
        Due.due("product OUTSIDE", cabinet.product(8, 0, 0), OUTSIDE);
        Due.due("product OUTSIDE", cabinet.product(0, 8, 0), OUTSIDE);
        Due.due("product OUTSIDE of to", cabinet.product(0, 0, 8), OUTSIDE);
        Due.due("product OUTSIDE of to", cabinet.product(0, 0, -1), OUTSIDE);
        Due.due("product EMPTY", cabinet.product(0, 0, 0), EMPTY);
        Due.read(cabinet, 0, "2;b0001;u10;c1");
        Due.due("product EMPTY", cabinet.product(0, 1, 0), EMPTY);
        Due.due("product EMPTY", cabinet.product(1, 0, 0), EMPTY);
        Due.read(cabinet, 1, "3;b012120201;u021;c2");
        Due.due("product", cabinet.product(0, 1, 2), 6);
        Due.dueText("product", Due.told(cabinet, 2),
            "6;b" + "012012" + "120120" + "201201" + "012345" + "120453" + "201534" + ";u354021;c5");
        Due.due("product the other way", cabinet.product(1, 0, 3), 6);
        Due.dueText("product the other way", Due.told(cabinet, 3),
            "6;b" + "002244" + "012345" + "224400" + "234501" + "440022" + "450123" + ";u105432;c5");
        Due.due("the two are alike", cabinet.alike(2, 3), 1);
        Due.due("product too large", cabinet.product(1, 1, 4), UNFIT);
        Due.due("product too large", cabinet.product(0, 2, 4), UNFIT);
        cabinet.make(5, 3, 23);
        Due.due("product UNFIT", cabinet.product(0, 5, 4), UNFIT);
        Due.due("refused products are no changes", cabinet.count(2), 5);
        Due.due("product to itself", cabinet.product(0, 1, 0), 6);
        Due.due("product to itself", cabinet.alike(0, 2), 2);
        cabinet.make(6, 7, 0);
        cabinet.make(7, 1, 0);
        Due.due("product of seven and one", cabinet.product(6, 7, 6), 7);
        Due.due("product of one and seven", cabinet.product(7, 6, 7), 7);
        cabinet.make(5, 4, 0);
        cabinet.make(4, 2, 0);
        Due.due("product of eight", cabinet.product(5, 4, 5), UNFIT);
    }
}
