/** Promises 25 to 30: SOME, ASKED, FEW, WITHIN, RUSH, WAIT, OUT. */
public final class PassersTest {
    private static final int BAD = PramAndSteps.BAD, NONE = PramAndSteps.NONE;
    private static final Check CHECK = new Check();
    /** Alone 33 beats (3 minutes); with the HELPER a STRAIN of 100. */
    private static final String WEAK = "s10,20;s10,20;s10,20;p20,10,30;k0,99,99;a2,9;";

    public static void main(String[] args) {
        some();
        few();
        within();
        rush();
        await();
        out();
        outAtTheEdges();
        CHECK.end("PassersTest");
    }

    private static void some() {
        PramAndSteps x = new PramAndSteps();
        // n 2: s 100: 900, 810; n 3: s 66: 934, 872, 814
        CHECK.dues("SOME", "0 200 190 186", x.some(0, false), x.some(1, false), x.some(2, false), x.some(3, false));
        // 400 times 1000, 800, 810 by 1000
        CHECK.dues("ASKED", "0 600 680 676", x.some(0, true), x.some(1, true), x.some(2, true), x.some(3, true));
        CHECK.dues("some BAD", "-1 -1 -1 -1", x.some(-1, false), x.some(10, false), x.some(-1, true), x.some(Integer.MAX_VALUE, true));
        x = Check.laid("s1,10;q99,99;");
        // n 2: s 495: 505, 255; 10 times 10 by 1000 is 0, 10 times 255 is 2
        CHECK.dues("q99,99", "990 745 990 1000 998", x.some(1, false), x.some(2, false), x.some(1, true), x.some(2, true), x.some(3, true));
        x = Check.laid("s1,10;q0,0;");
        CHECK.dues("q0,0", "0 0 0 0", x.some(1, false), x.some(9, false), x.some(1, true), x.some(9, true));
        // s 10, 5, 3, 2: 991 behind the third; 994, 992, 990 behind the fifth
        x = Check.laid("s1,10;q1,0;");
        CHECK.dues("q1,0", "10 10 9 10 10", x.some(1, false), x.some(2, false), x.some(3, false), x.some(5, false), x.some(2, true));
    }

    private static void few() {
        CHECK.due("few()", new PramAndSteps().few(), 1);
        CHECK.due("the lowest of several", Check.laid("s1,10;q1,0;").few(), 1);
        CHECK.due("of none", Check.laid("s1,10;q0,50;").few(), 1);
        CHECK.due("q99", Check.laid("s1,10;q99,50;").few(), 1);
    }

    private static void within() {
        PramAndSteps x = Check.laid("s1,10;n8,2;n0,2;");
        CHECK.dues("WITHIN 0 to 3, ASKED", "0 680 898 968",
            x.within(8, 0, true), x.within(8, 1, true), x.within(8, 2, true), x.within(8, 3, true));
        CHECK.dues("WITHIN 1 to 3, SOME", "190 344 469", x.within(8, 1, false), x.within(8, 2, false), x.within(8, 3, false));
        CHECK.dues("the next HOUR", "0 680", x.within(7, 60, true), x.within(7, 61, true));
        CHECK.dues("behind the HOUR nothing more", "1000 1000", x.within(8, 60, true), x.within(8, 300, true));
        CHECK.dues("23 is followed by 0", "0 680 898", x.within(23, 60, true), x.within(23, 61, true), x.within(23, 62, true));
        CHECK.dues("the first HOUR and the last", "680 0", x.within(0, 1, true), x.within(23, 1, true));
        CHECK.dues("300 minutes are five HOURS", "0 1000", x.within(3, 300, true), x.within(4, 300, true));
        CHECK.dues("within BAD", "-1 -1 -1 -1 -1", x.within(-1, 1, true), x.within(24, 1, true), x.within(8, -1, true),
            x.within(8, 301, false), x.within(Integer.MIN_VALUE, Integer.MAX_VALUE, false));
    }

    private static void rush() {
        // SOME 190, 200, 186; ASKED 680, 600, 676
        PramAndSteps x = Check.laid("s1,10;n3,2;n5,1;n9,3;n20,1;n21,2;");
        CHECK.dues("rush", "5 3", x.rush(false), x.rush(true));
        x = new PramAndSteps();
        CHECK.dues("nobody at all", "0 0", x.rush(false), x.rush(true));
        CHECK.due("the last HOUR", Check.laid("s1,10;n23,1;").rush(false), 23);
        CHECK.due("the second HOUR", Check.laid("s1,10;n1,1;").rush(true), 1);
    }

    private static void await() {
        PramAndSteps x = Check.laid("s1,10;n8,2;");
        CHECK.dues("WAIT by p", "1 1 2 2 3 3", x.await(8, 1, true), x.await(8, 680, true), x.await(8, 681, true),
            x.await(8, 898, true), x.await(8, 899, true), x.await(8, 968, true));
        // 320, 102, 32, 10, 3, 0
        CHECK.dues("p 997, 1000", "5 6", x.await(8, 997, true), x.await(8, 1000, true));
        CHECK.dues("SOME", "1 2 3", x.await(8, 190, false), x.await(8, 191, false), x.await(8, 345, false));
        CHECK.dues("from other HOURS", "61 241 -4 -4", x.await(7, 1, true), x.await(4, 1, true), x.await(3, 1, true), x.await(9, 1, true));
        CHECK.dues("await BAD", "-1 -1 -1 -1 -1", x.await(-1, 1, true), x.await(24, 1, true), x.await(8, 0, true),
            x.await(8, 1001, true), x.await(3, -5, false));
        x = Check.laid("s1,10;n0,2;n23,2;");
        CHECK.dues("the first HOUR and the last", "1 1 61", x.await(0, 500, true), x.await(23, 500, true), x.await(22, 500, true));
        // 10 of a thousand: 1000, 990, 980, 970, .. each a by 100 less, cut
        x = Check.laid("s1,10;q1,0;n8,1;");
        CHECK.dues("few stop", "1 2 3 -4", x.await(8, 10, false), x.await(8, 11, false), x.await(8, 21, false), x.await(8, 1000, false));
        x = Check.laid("s1,10;q99,0;n12,1;");
        CHECK.due("the 300th minute is one of them", x.await(8, 990, false), 241);
    }

    private static void out() {
        PramAndSteps x = new PramAndSteps();
        CHECK.dues("alone: 6 beats", "0 1", x.out(8, false, 0), x.out(8, false, 1));
        CHECK.dues("out BAD", "-1 -1 -1 -1 -1", x.out(-1, false, 0), x.out(24, true, 0), x.out(8, false, -1), x.out(8, true, 2),
            x.out(Integer.MAX_VALUE, true, Integer.MIN_VALUE));
        x = Check.laid(WEAK + "h99,0;n8,2;");
        CHECK.dues("by two: 1 and 1 minutes", "2 2", x.out(8, false, 0), x.out(8, false, 1));
        CHECK.dues("nobody comes: alone, 33 beats", "0 3", x.out(3, false, 0), x.out(3, false, 1));
        CHECK.dues("down he can not, nobody comes: the RAMP", "1 9", x.out(3, true, 0), x.out(3, true, 1));
        CHECK.dues("down by two", "2 2", x.out(8, true, 0), x.out(8, true, 1));
        x = Check.laid(WEAK + "h99,0;n0,2;n23,2;m99;");
        CHECK.dues("the first HOUR and the last", "2 2 2 2", x.out(0, false, 0), x.out(0, true, 1), x.out(23, true, 0), x.out(23, false, 1));
        x.start(true);
        x.tell(3);
        CHECK.dues("whatever stands", "2 2", x.out(0, false, 0), x.out(0, false, 1));
    }

    private static void outAtTheEdges() {
        PramAndSteps x = Check.laid(WEAK + "h99,0;n8,2;m2;");
        CHECK.dues("the RAMP as fast as two", "1 2", x.out(8, false, 0), x.out(8, false, 1));
        x = Check.laid(WEAK + "m3;");
        CHECK.dues("alone as fast as the RAMP", "0 3", x.out(8, false, 0), x.out(8, false, 1));
        x = Check.laid(WEAK + "n8,2;");
        CHECK.dues("no HELPER", "0 3", x.out(8, false, 0), x.out(8, false, 1));
        x = Check.laid(WEAK + "n8,2;a1,9;h99,0;");
        CHECK.dues("no MATE, he can not: the RAMP", "-4 1 9", x.mate(), x.out(8, false, 0), x.out(8, false, 1));
        // 499 is no WAIT of a minute: 501 is nobody, then 251
        x = Check.laid(WEAK + "h99,0;n8,1;q0,49;m99;");
        CHECK.dues("a WAIT of 2", "2 3", x.out(8, true, 0), x.out(8, true, 1));
        x = Check.laid(WEAK + "h99,0;n8,1;q0,50;m99;");
        CHECK.dues("p is 500", "2 2", x.out(8, true, 0), x.out(8, true, 1));
        x = Check.laid("s10,20;s10,20;" + WEAK + "h99,0;n8,2;m99;");
        CHECK.dues("5 STEPS by 4 are 2", "2 3", x.out(8, true, 0), x.out(8, true, 1));
        x = Check.laid("s10,20;" + WEAK + "h99,0;n8,2;m99;");
        CHECK.dues("4 STEPS by 4 are 1", "2 2", x.out(8, true, 0), x.out(8, true, 1));
        // 12 beats, FORWARD; 13 with one BACKWARD
        x = Check.laid("s1,20;".repeat(12) + "m9;");
        CHECK.dues("12 beats", "12 1", x.best(0, false, 0), x.out(8, false, 1));
        x = Check.laid("s1,20;".repeat(11) + "s20,20;m9;");
        CHECK.dues("13 beats", "13 2", x.best(0, false, 0), x.out(8, false, 1));
    }
}
