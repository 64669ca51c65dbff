/** Towns that several tests use. */
final class Towns {
    // Squares 0 to 3 hang together, 4 lies alone; far: 0-1 3, 0-2 7, 0-3 9, 1-2 4, 1-3 6, 2-3 2.
    static final String MARKET = "t5 0;w0 1 3;w1 2 4;w2 3 2;w0 3 9;p0 7;p1 9;p3 2;p4 5;"
        + "d0 2 9 5;d1 3 12 8;d2 4 20 9;d2 5 18 1;r0 4;r1 2;q0 1 9;q1 2 5;q0 2 4;o3;o12;";

    private Towns() {
    }
}
