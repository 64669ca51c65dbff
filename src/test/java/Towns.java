/** Towns that several tests use. */
final class Towns {
    // Squares 0 to 3 hang together, 4 lies alone; far: 0-1 3, 0-2 7, 0-3 9, 1-2 4, 1-3 6, 2-3 2.
    static final String MARKET = "t5 0;w0 1 3;w1 2 4;w2 3 2;w0 3 9;p0 7;p1 9;p3 2;p4 5;"
        + "d0 2 9 5;d1 3 12 8;d2 4 20 9;d2 5 18 1;r0 4;r1 2;q0 1 9;q1 2 5;q0 2 4;o3;o12;";

    // As many of all as there may be, numbers at their bounds; the squares stand in a row, 30 minutes apart.
    static final String CITY = "t7 6;w0 1 30;w1 2 30;w2 3 30;w3 4 30;w4 5 30;w5 6 30;p0 0;p1 99;p2 5;p3 5;p4 5;p6 1;"
        + "d0 1 1 0;d5 30 999 99;d1 1 999 1;d2 1 999 1;d3 1 999 1;d4 1 999 1;r0 0;r5 99;q0 5 10;q5 0 0;o1;o63;o32;o33;";

    // One square, one person, six deeds that are all worth the most.
    static final String BENCH = "t1 0;p0 0;" + "d0 1 999 99;".repeat(6);

    // Three of 250 letters, 7 squares, 10 ways, 6 deeds, 4 other words; all maxima at once would take 255.
    // Five people, 12 of 'q'; four of the people stay on one square.
    static final String CROWD = "t7 2;w1 0 2;w3 0 1;w4 2 1;w6 2 9;w6 3 2;w5 2 3;w2 1 1;w5 1 3;w5 4 1;w2 0 1;p4 6;p4 7;p4 4;p5 3;p4 6;"
        + "d3 2 5 7;d2 2 5 5;d4 1 9 8;d1 2 5 7;d0 1 5 3;d4 1 7 6;q0 2 1;q0 3 5;q1 0 1;q1 2 1;q1 4 6;q2 0 5;q2 1 9;q3 0 9;q3 2 9;"
        + "q4 1 0;q4 2 7;q4 3 9;o6;o6;o2;o5;";

    // Six people, all deeds can be reworded, 7 of 'q'.
    static final String SPREAD = "t7 4;w4 2 2;w6 3 3;w5 2 4;w4 1 9;w6 0 1;w5 3 2;w5 0 9;w1 0 4;w6 2 2;w3 1 1;p3 7;p4 5;p4 7;p0 5;p5 6;"
        + "p1 5;d0 1 7 7;d1 1 5 3;d4 1 5 9;d2 1 6 5;d1 2 7 4;d2 1 6 9;r3 3;r0 3;r2 5;r1 2;r5 1;r4 3;q2 3 5;q3 2 7;q3 4 9;q4 3 7;"
        + "q4 5 1;q5 0 9;q5 1 9;o6;o1;o5;o3;";

    // Six people, long ways and late dates, all deeds can be reworded, no 'q'; square 2 lies alone.
    static final String LATE = "t7 4;w0 3 15;w1 3 10;w3 6 23;w1 4 25;w4 6 11;w0 6 16;w0 5 25;w3 5 12;w1 6 16;w0 1 13;p3 91;p4 99;p3 93;"
        + "p0 97;p1 96;p5 97;d5 11 150 57;d4 27 176 40;d2 11 115 28;d3 10 186 72;d4 24 150 47;d4 30 169 89;r0 11;r1 5;r2 17;r3 24;"
        + "r4 29;r5 13;o43;o63;o18;o15;";

    private Towns() {
    }
}
