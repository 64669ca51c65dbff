/** Towns that several tests use. */
final class Towns {
    // Squares 0 to 3 hang together, 4 lies alone; far: 0-1 3, 0-2 7, 0-3 9, 1-2 4, 1-3 6, 2-3 2.
    static final String MARKET = "t5 0;w0 1 3;w1 2 4;w2 3 2;w0 3 9;p0 7;p1 9;p3 2;p4 5;"
        + "d0 2 9 5;d1 3 12 8;d2 4 20 9;d2 5 18 1;r0 4;r1 2;q0 1 9;q1 2 5;q0 2 4;o3;o12;";

    // As many of all as there may be, numbers at their bounds; the squares stand in a row, 30 minutes apart.
    static final String CITY = "t7 6;w0 1 30;w1 2 30;w2 3 30;w3 4 30;w4 5 30;w5 6 30;p0 0;p1 99;p2 5;p3 5;p4 5;p6 1;"
        + "d0 1 1 0;d5 30 999 99;d1 1 999 1;d2 1 999 1;d3 1 999 1;d4 1 999 1;r0 0;r5 99;q0 5 10;q5 0 0;o1;o63;o32;o33;";

    // One square, one person, six deeds that are all worth the most.
    static final String BENCH = "t1 0;p0 0;" + "d0 1 999 99;".repeat(6);

    private Towns() {
    }
}
