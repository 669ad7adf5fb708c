/** Promises 25 to 28: link, congruence, bound, quotient. */
public final class CongruencesTest {
    private static final int EMPTY = AlgebraCabinet.EMPTY, OUTSIDE = AlgebraCabinet.OUTSIDE, NONE = AlgebraCabinet.NONE;

    public static void main(String[] args) {
        congruence();
        link();
        bound();
        quotient();
        Due.finish();
    }

    private static void congruence() {
        AlgebraCabinet cabinet = new AlgebraCabinet();
        Due.due("congruence OUTSIDE", cabinet.congruence(8, 0), OUTSIDE);
        Due.due("congruence EMPTY", cabinet.congruence(0, -9), EMPTY);
        int[] partitions = {1, 2, 5, 15, 52, 203, 877};
        for (int size = 1; size <= 7; size++) {
            cabinet.make(0, size, 0);
            Due.due("partitions of " + size, cabinet.congruence(0, NONE), partitions[size - 1]);
            int last = 0;
            for (int e = 0; e < size; e++) {
                last = last * 7 + e;
            }
            Due.due("the first of " + size, cabinet.congruence(0, 0), 0);
            Due.due("the last of " + size, cabinet.congruence(0, partitions[size - 1] - 1), last);
            Due.due("behind the last", cabinet.congruence(0, partitions[size - 1]), OUTSIDE);
        }
        cabinet.make(0, 4, 0);
        String[] lines = {"0000", "0003", "0020", "0022", "0023", "0100", "0101", "0103", "0110", "0111", "0113", "0120",
            "0121", "0122", "0123"};
        for (int k = 0; k < lines.length; k++) {
            Due.due("partition " + k, cabinet.congruence(0, k), Due.line(lines[k]));
        }
        Due.due("congruence -2", cabinet.congruence(0, -2), OUTSIDE);
        Due.due("congruence greatest", cabinet.congruence(0, Integer.MAX_VALUE), OUTSIDE);
        // a chain by its lesser elements: classes are runs
        Due.read(cabinet, 1, "4;b0000011101220123");
        String[] runs = {"0000", "0003", "0022", "0023", "0111", "0113", "0122", "0123"};
        Due.due("congruences of a chain", cabinet.congruence(1, NONE), 8);
        for (int k = 0; k < runs.length; k++) {
            Due.due("congruence " + k, cabinet.congruence(1, k), Due.line(runs[k]));
        }
        // by columns alone or by rows alone a partition does not go
        Due.read(cabinet, 2, "3;b000000001");
        Due.due("congruences", cabinet.congruence(2, NONE), 3);
        Due.due("congruences", cabinet.congruence(2, 1), Due.line("002"));
        Due.read(cabinet, 3, "3;b001001001");
        Due.due("congruences by columns", cabinet.congruence(3, NONE), 3);
        Due.read(cabinet, 4, "3;b000000111");
        Due.due("congruences by rows", cabinet.congruence(4, NONE), 3);
        Due.read(cabinet, 5, "3;c1;u120");
        Due.due("congruences of a turn", cabinet.congruence(5, NONE), 2);
        Due.read(cabinet, 6, "3;c1");
        Due.due("arity 0 has no say", cabinet.congruence(6, NONE), 5);
    }

    private static void link() {
        AlgebraCabinet cabinet = new AlgebraCabinet();
        Due.due("link OUTSIDE", cabinet.link(-1, 0, 0), OUTSIDE);
        Due.due("link EMPTY", cabinet.link(0, 9, 9), EMPTY);
        Due.read(cabinet, 0, "4;b0000011101220123");
        Due.due("link 0 0", cabinet.link(0, 0, 0), 7);
        Due.due("link 0 1", cabinet.link(0, 0, 1), 3);
        Due.due("link 1 0", cabinet.link(0, 1, 0), 3);
        Due.due("link 0 3", cabinet.link(0, 0, 3), 0);
        Due.due("link 1 3", cabinet.link(0, 1, 3), 4);
        Due.due("link 2 3", cabinet.link(0, 2, 3), 6);
        int[][] wrong = {{4, 0}, {0, 4}, {-1, 0}, {0, -1}};
        for (int[] w : wrong) {
            Due.due("link OUTSIDE", cabinet.link(0, w[0], w[1]), OUTSIDE);
        }
        Due.read(cabinet, 1, "7;u1234560");
        Due.due("link of a turn", cabinet.link(1, 2, 5), 0);
        Due.read(cabinet, 2, "6;u123450");
        Due.due("congruences of a turn", cabinet.congruence(2, NONE), 4);
        Due.due("link of halves", cabinet.congruence(2, cabinet.link(2, 5, 2)), Due.line("012012"));
        Due.due("link of thirds", cabinet.congruence(2, cabinet.link(2, 3, 5)), Due.line("010101"));
        cabinet.make(3, 7, 0);
        Due.due("link without operations", cabinet.congruence(3, cabinet.link(3, 6, 2)), Due.line("0123452"));
    }

    private static void bound() {
        AlgebraCabinet cabinet = new AlgebraCabinet();
        Due.due("bound OUTSIDE", cabinet.bound(8, 0, 0, true), OUTSIDE);
        Due.due("bound EMPTY", cabinet.bound(0, 9, 9, true), EMPTY);
        cabinet.make(0, 4, 0);
        // 3: 0022, 8: 0110, 13: 0122, 11: 0120, 4: 0023
        Due.due("up", cabinet.bound(0, 3, 8, true), 0);
        Due.due("down", cabinet.bound(0, 3, 8, false), 14);
        Due.due("up", cabinet.bound(0, 11, 13, true), cabinet.bound(0, 13, 11, true));
        Due.due("up, chained", cabinet.congruence(0, cabinet.bound(0, 11, 13, true)), Due.line("0100"));
        Due.due("up of two pairs", cabinet.congruence(0, cabinet.bound(0, 4, 13, true)), Due.line("0022"));
        Due.due("down of two", cabinet.congruence(0, cabinet.bound(0, 1, 3, false)), Due.line("0023"));
        Due.due("down of two", cabinet.congruence(0, cabinet.bound(0, 1, 9, false)), Due.line("0113"));
        for (int k = 0; k < 15; k++) {
            Due.due("up of one", cabinet.bound(0, k, k, true), k);
            Due.due("down of one", cabinet.bound(0, k, k, false), k);
            Due.due("up of all", cabinet.bound(0, 0, k, true), 0);
            Due.due("down of all", cabinet.bound(0, k, 0, false), k);
        }
        int[][] wrong = {{15, 0}, {0, 15}, {NONE, 0}, {0, NONE}, {-2, 3}, {3, Integer.MAX_VALUE}};
        for (int[] w : wrong) {
            Due.due("bound OUTSIDE", cabinet.bound(0, w[0], w[1], true), OUTSIDE);
            Due.due("bound OUTSIDE", cabinet.bound(0, w[0], w[1], false), OUTSIDE);
        }
    }

    private static void quotient() {
        AlgebraCabinet cabinet = new AlgebraCabinet();
        Due.due("quotient OUTSIDE", cabinet.quotient(8, 0, 0), OUTSIDE);
        Due.due("quotient OUTSIDE of to", cabinet.quotient(0, 0, 8), OUTSIDE);
        Due.due("quotient OUTSIDE of to", cabinet.quotient(0, 0, -1), OUTSIDE);
        Due.due("quotient EMPTY", cabinet.quotient(0, 0, 1), EMPTY);
        Due.read(cabinet, 0, "4;b0000011101220123;c2;u0112");
        Due.due("congruences", cabinet.congruence(0, 3), Due.line("0111"));
        Due.due("quotient", cabinet.quotient(0, 3, 1), 2);
        Due.dueText("quotient", Due.told(cabinet, 1), "2;b0001;c1;u01");
        Due.due("quotient by all", cabinet.quotient(0, 0, 2), 1);
        Due.dueText("quotient by all", Due.told(cabinet, 2), "1;b0;c0;u0");
        int last = cabinet.congruence(0, NONE) - 1;
        Due.due("quotient by none", cabinet.quotient(0, last, 3), 4);
        Due.due("quotient by none is the same", cabinet.alike(0, 3), 2);
        Due.due("changes", cabinet.count(2), 4);
        Due.due("quotient OUTSIDE", cabinet.quotient(0, last + 1, 3), OUTSIDE);
        Due.due("quotient NONE", cabinet.quotient(0, NONE, 3), OUTSIDE);
        Due.due("refused quotients are no changes", cabinet.count(2), 4);
        Due.read(cabinet, 4, "6;u123450");
        Due.due("quotient to itself", cabinet.quotient(4, cabinet.link(4, 0, 3), 4), 3);
        Due.dueText("quotient to itself", Due.told(cabinet, 4), "3;u120");
        Due.read(cabinet, 5, "5;u10432");
        Due.due("congruences", cabinet.congruence(5, cabinet.link(5, 2, 4)), Due.line("01232"));
        Due.due("classes are numbered by their least", cabinet.quotient(5, cabinet.link(5, 2, 4), 6), 4);
        Due.dueText("quotient", Due.told(cabinet, 6), "4;u1023");
    }
}
