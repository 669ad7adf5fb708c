/** Promises 14 to 16: traits, powers, centre. */
public final class OperationsTest {
    private static final int EMPTY = AlgebraCabinet.EMPTY, OUTSIDE = AlgebraCabinet.OUTSIDE, CAST = AlgebraCabinet.CAST;

    public static void main(String[] args) {
        traits();
        powers();
        centre();
        refusals();
        Due.finish();
    }

    private static void traits() {
        Object[][] rows = {{"1;b0", 63}, {"2;b0110", 1 + 2 + 4 + 8}, {"2;b0001", 1 + 2 + 4 + 16 + 32},
            {"2;b0011", 1 + 16 + 32}, {"2;b0101", 1 + 16 + 32}, {"2;b0000", 1 + 2 + 32}, {"2;b1110", 2},
            {"2;b1111", 1 + 2 + 32}, {"2;b1100", 0}, {"2;b1001", 1 + 2 + 4 + 8}, {"3;b012120201", 1 + 2 + 4 + 8},
            {"3;b021210102", 2 + 8 + 16 + 32}, {"3;b021102210", 8}, {"2;b1010", 32}, {"3;b012102210", 4},
            {"3;b000012021", 1 + 2 + 4}, {"3;b012012120", 0}, {"3;b012201120", 8}};
        for (Object[] row : rows) {
            AlgebraCabinet cabinet = new AlgebraCabinet();
            Due.read(cabinet, 0, (String) row[0]);
            Due.due("traits of " + row[0], cabinet.traits(0, 0), (Integer) row[1]);
            Due.due("traits are no change", cabinet.count(2), 1);
        }
        AlgebraCabinet cabinet = new AlgebraCabinet();
        Due.read(cabinet, 0, "2;b0110;c1;b0001");
        Due.due("traits of operation 2", cabinet.traits(0, 2), 1 + 2 + 4 + 16 + 32);
    }

    private static void powers() {
        AlgebraCabinet cabinet = new AlgebraCabinet();
        Due.read(cabinet, 0, "7;b" + ring());
        for (int a = 0; a < 7; a++) {
            Due.due("powers in the ring", cabinet.powers(0, 0, a), a == 0 ? 1 : 7);
        }
        // each power of 0 is by the value and 0: 0, 1, 2, 3, 4, 5, 6, then back to 5
        Due.read(cabinet, 1, "7;b" + "1000000" + "2000000" + "3000000" + "4000000" + "5000000" + "6000000" + "5000000");
        Due.due("powers with five ahead", cabinet.powers(1, 0, 0), 52);
        // 6, then 6 * 6 = 0, then 0 * 6 = 0
        Due.due("powers of 6", cabinet.powers(1, 0, 6), 11);
        Due.read(cabinet, 2, "7;b" + "1000000" + "2000000" + "3000000" + "4000000" + "5000000" + "6000000" + "6000000");
        Due.due("powers with six ahead", cabinet.powers(2, 0, 0), 61);
        // the value of the power and a, not of a and the power
        Due.read(cabinet, 3, "3;b120000000");
        Due.due("powers from the left", cabinet.powers(3, 0, 0), 2);
        Due.read(cabinet, 4, "1;b0");
        Due.due("powers of one element", cabinet.powers(4, 0, 0), 1);
    }

    private static String ring() {
        StringBuilder cells = new StringBuilder();
        for (int a = 0; a < 7; a++) {
            for (int b = 0; b < 7; b++) {
                cells.append((a + b) % 7);
            }
        }
        return cells.toString();
    }

    private static void centre() {
        AlgebraCabinet cabinet = new AlgebraCabinet();
        Due.read(cabinet, 0, "3;b012120201");
        Due.due("centre of a ring", cabinet.centre(0, 0), 7);
        Due.read(cabinet, 1, "3;b000111222");
        Due.due("centre of what has none", cabinet.centre(1, 0), 0);
        Due.read(cabinet, 2, "3;b012111222");
        Due.due("centre with 0 alone", cabinet.centre(2, 0), 1);
        Due.read(cabinet, 3, "3;u012;b000010012");
        Due.due("centre of operation 1", cabinet.centre(3, 1), 1);
        Due.read(cabinet, 4, "3;b002011210");
        Due.due("centre of what is even over the diagonal", cabinet.centre(4, 0), 7);
        Due.read(cabinet, 5, "3;b012210200");
        Due.due("centre of 0 * 1 and 1 * 0 apart", cabinet.centre(5, 0), 4);
    }

    private static void refusals() {
        AlgebraCabinet cabinet = new AlgebraCabinet();
        Due.due("traits EMPTY", cabinet.traits(0, 9), EMPTY);
        Due.due("powers EMPTY", cabinet.powers(0, 9, 9), EMPTY);
        Due.due("centre EMPTY", cabinet.centre(0, 9), EMPTY);
        cabinet.make(0, 3, 321);
        int[][] wrong = {{8, 2}, {-1, 2}, {0, 3}, {0, -1}};
        for (int[] w : wrong) {
            Due.due("traits OUTSIDE", cabinet.traits(w[0], w[1]), OUTSIDE);
            Due.due("powers OUTSIDE", cabinet.powers(w[0], w[1], 0), OUTSIDE);
            Due.due("centre OUTSIDE", cabinet.centre(w[0], w[1]), OUTSIDE);
        }
        for (int operation = 0; operation < 2; operation++) {
            Due.due("traits CAST", cabinet.traits(0, operation), CAST);
            Due.due("powers CAST", cabinet.powers(0, operation, 0), CAST);
            Due.due("powers OUTSIDE ahead of CAST", cabinet.powers(0, operation, 3), OUTSIDE);
            Due.due("centre CAST", cabinet.centre(0, operation), CAST);
        }
        Due.due("powers OUTSIDE", cabinet.powers(0, 2, 3), OUTSIDE);
        Due.due("powers OUTSIDE", cabinet.powers(0, 2, -1), OUTSIDE);
    }
}
