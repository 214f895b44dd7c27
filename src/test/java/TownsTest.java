/** Promises 1 to 10: a new object, THE TEXT, FAULT, and what is LAID. */
public final class TownsTest {
    private static final int BAD = PramAndSteps.BAD, NO = PramAndSteps.NO, FULL = PramAndSteps.FULL, NONE = PramAndSteps.NONE;
    private static final Check CHECK = new Check();

    public static void main(String[] args) {
        newObject();
        write();
        wipe();
        faultsOfForm();
        faultsOfBounds();
        faultsOfNumber();
        faultsOfStations();
        lay();
        layTakesAllBack();
        stepsAndHelpers();
        pramValues();
        passersAndStations();
        CHECK.end("TownsTest");
    }

    private static void newObject() {
        PramAndSteps x = new PramAndSteps();
        CHECK.dues("steps of a new object", "15 30 15 30 20 25 -1",
            x.step(0, 0), x.step(0, 1), x.step(1, 0), x.step(1, 1), x.step(2, 0), x.step(2, 1), x.step(3, 0));
        CHECK.dues("pram of a new object", "20 20 30 0 10 30 20 40 20 20 60 9 30", x.pram(0), x.pram(1), x.pram(2), x.pram(3),
            x.pram(4), x.pram(5), x.pram(6), x.pram(7), x.pram(8), x.pram(9), x.pram(10), x.pram(11), x.pram(12));
        CHECK.dues("stands", "0 0 40 0 0 0",
            x.stands(0), x.stands(1), x.stands(2), x.stands(3), x.stands(4), x.stands(5));
        CHECK.due("fault() of no text", x.fault(), NONE);
        CHECK.due("lay() of no text", x.lay(), NO);
        CHECK.due("wipe() at first", x.wipe(), 0);
        CHECK.dues("undo, back, noRow at first", "-2 -2 0", x.undo(), x.back(), x.noRow());
        PramAndSteps other = new PramAndSteps();
        other.write('s');
        CHECK.due("objects share nothing", x.count(8), 0);
    }

    private static void write() {
        PramAndSteps x = new PramAndSteps();
        CHECK.dues("write beside 32 to 126", "-1 -1 -1 -1 -1 -1", x.write(31), x.write(127), x.write(-1),
            x.write(Integer.MIN_VALUE), x.write(Integer.MAX_VALUE), x.write(256 + 's'));
        CHECK.dues("write(32), write(126)", "1 2", x.write(32), x.write(126));
        for (int i = 3; i <= 200; i++) {
            CHECK.due("write the " + i + "th letter", x.write('a'), i);
        }
        CHECK.dues("write to a full text", "-3 -1 -3", x.write('a'), x.write(31), x.write(126));
        CHECK.due("count(8)", x.count(8), 200);
        CHECK.due("fault() is the first place", x.fault(), 0);
    }

    private static void wipe() {
        PramAndSteps x = Check.laid("s1,10;s2,11;");
        CHECK.due("THE TEXT stays behind lay()", x.count(8), 12);
        CHECK.dues("wipe twice", "12 0", x.wipe(), x.wipe());
        CHECK.dues("what is LAID stays", "2 2 11", x.count(0), x.step(1, 0), x.step(1, 1));
        CHECK.due("write behind wipe", x.write('s'), 1);
        Check.type(x, "1,10");
        CHECK.dues("letters wiped are gone", "5 0 -2", x.count(8), x.fault(), x.lay());
        x.write(';');
        CHECK.dues("the same with its ;", "-4 1", x.fault(), x.lay());
    }

    private static void fault(String text, int want) {
        PramAndSteps x = new PramAndSteps();
        Check.type(x, text);
        CHECK.due("fault() of " + text, x.fault(), want);
        CHECK.due("fault() again of " + text, x.fault(), want);
        CHECK.due("nothing is laid by fault()", x.count(0), 3);
    }

    private static void faultsOfForm() {
        fault("s1,10;", NONE);
        fault("s01,10;s1,10;", NONE);
        fault("s1,10", 0);
        fault("s1,1", 0);
        fault("s1,", 0);
        fault("s1", 0);
        fault("s", 0);
        fault(";", 0);
        fault("1,10;", 0);
        fault("s1,10;s", 6);
        fault("s1,10;;", 6);
        fault("s1,10; s1,10;", 6);
        fault("s1,10;x1;", 6);
        fault("s1,10;b7;S1,10;", 9);
        fault("s1;", 0);
        fault("s1;10;", 0);
        fault("s1,10,3;", 0);
        fault("s,10;", 0);
        fault("s1,,10;", 0);
        fault("s001,10;", 0);
        fault("s1,010;", 0);
        fault("s1,100;", 0);
        fault("s-1,10;", 0);
        fault("s1.10;", 0);
        fault("s 1,10;", 0);
        fault("b1,2;", 0);
        fault("b;", 0);
        fault("q1;", 0);
        fault("p3,1;", 0);
        fault("p3,1,1,1;", 0);
        fault("k1,2;", 0);
        fault("e0,1;", 0);
        fault("b7;b99;s0,0;", 3);
    }

    private static void faultsOfBounds() {
        String good = "s1,10; s30,60; p3,1,1; p40,60,99; b0; b40; k0,0,0; k40,99,99; a1,1; a99,99; h1,0; h99,10; n0,0; "
            + "n23,9; q0,0; q99,99; m1; m99; t0; t60;";
        for (String item : good.split(" ")) {
            fault(item, NONE);
            fault("b7;" + item, NONE);
        }
        String wrong = "s0,10; s31,10; s1,9; s1,61; p2,1,1; p41,1,1; p3,0,1; p3,61,1; p3,1,0; b41; k41,0,0; a0,1; a1,0; h0,0; "
            + "h1,11; n24,0; n0,10; m0; t61; e0,0,1; i0; c1; z0; d1,1;";
        for (String item : wrong.split(" ")) {
            fault(item, 0);
            fault("b7;" + item, 3);
        }
    }

    private static void faultsOfNumber() {
        fault("s1,10;".repeat(12), NONE);
        fault("s1,10;".repeat(13), 72);
        fault("h1,0;".repeat(4), NONE);
        fault("h1,0;".repeat(5), 20);
        fault("t1;".repeat(7), NONE);
        fault("t1;".repeat(8), 21);
        fault("t1;t2;" + "e0,1,5;".repeat(10), NONE);
        fault("t1;t2;" + "e0,1,5;".repeat(11), 76);
        fault("b1;".repeat(66), NONE);
        fault("b1;".repeat(66) + "b1", 198);
    }

    private static void faultsOfStations() {
        fault("t1;t2;e0,1,1;e1,0,60;", NONE);
        fault("t1;t2;e0,1,0;", 6);
        fault("t1;t2;e0,1,61;", 6);
        fault("t1;t2;e0,0,1;", 6);
        fault("t1;t2;e1,1,1;", 6);
        fault("t1;t2;e0,2,1;", 6);
        fault("t1;t2;e2,0,1;", 6);
        fault("t1;e0,1,1;t2;", 3);
        fault("t1;e1,0,1;t2;", 3);
        fault("t1;i0;", NONE);
        fault("t1;i0;i0;i0;", NONE);
        fault("t1;i1;t1;", 3);
        fault("t1;i99;", 3);
        fault("i0;t1;", 0);
    }

    private static void lay() {
        PramAndSteps x = new PramAndSteps();
        Check.type(x, "b3;t1;");
        CHECK.due("fault() without a STEP", x.fault(), NONE);
        CHECK.dues("lay() without a STEP", "-2 3 0 0", x.lay(), x.count(0), x.count(2), x.pram(3));
        x.wipe();
        Check.type(x, "s1,10;s2,20;s3,30;s4,40;b9;!");
        String seen = Check.seen(x);
        CHECK.due("lay() with a FAULT", x.lay(), NO);
        CHECK.due("nothing changes then", Check.seen(x).equals(seen) ? 1 : 0, 1);
        x.wipe();
        Check.type(x, "s1,10;s2,20;s3,30;s4,40;b9;");
        CHECK.dues("lay()", "4 4 3 30 9", x.lay(), x.count(0), x.step(2, 0), x.step(2, 1), x.pram(3));
        CHECK.due("lay() again", x.lay(), 4);
        Check.type(x, "s5,50;");
        CHECK.due("a text goes on behind lay()", x.lay(), 5);
    }

    private static void layTakesAllBack() {
        PramAndSteps x = Check.laid("s1,10;s2,20;a33,9;b9;t5;t6;i1;h1,1;n4,4;");
        x.start(true);
        x.go(2);
        x.tell(1);
        x.keep();
        x.bags(11);
        x.go(2);
        x.lift(0, true);
        x.lift(1, false);
        CHECK.due("lay()", x.lay(), 2);
        CHECK.dues("at the beginning, up", "0 0 33 0 0 0",
            x.stands(0), x.stands(1), x.stands(2), x.stands(3), x.stands(4), x.stands(5));
        CHECK.dues("no row, nothing UNDONE, KEPT; BAGS and LIFTS as told", "0 0 0 9 0 1 1",
            x.count(5), x.count(6), x.count(7), x.pram(3), x.station(0, 1), x.station(1, 1), x.count(4));
        x.wipe();
        Check.type(x, "s7,10;");
        x.lay();
        CHECK.dues("nothing of the town before is left", "1 0 0 0 0 0 40 0",
            x.count(0), x.count(1), x.count(2), x.count(3), x.count(4), x.passers(4), x.pram(7), x.pram(3));
    }

    private static void stepsAndHelpers() {
        PramAndSteps x = Check.laid("s1,10;h7,0;s30,60;h99,10;");
        CHECK.dues("step", "1 10 30 60", x.step(0, 0), x.step(0, 1), x.step(1, 0), x.step(1, 1));
        CHECK.dues("step BAD", "-1 -1 -1 -1 -1", x.step(-1, 0), x.step(2, 0), x.step(0, -1), x.step(0, 2),
            x.step(Integer.MAX_VALUE, Integer.MIN_VALUE));
        CHECK.dues("helper", "7 0 99 10", x.helper(0, 0), x.helper(0, 1), x.helper(1, 0), x.helper(1, 1));
        CHECK.dues("helper BAD", "-1 -1 -1 -1 -1", x.helper(-1, 0), x.helper(2, 0), x.helper(0, -1), x.helper(0, 2),
            x.helper(Integer.MIN_VALUE, 0));
    }

    private static void pramValues() {
        PramAndSteps x = Check.laid("p9,9,9;b1;k1,1,1;a1,1;q1,1;m1;s1,10;p31,32,33;b34;k35,36,37;a38,39;q41,42;m43;");
        CHECK.dues("pram, the last ones", "31 32 33 34 35 36 37 38 39 41 42 43 101", x.pram(0), x.pram(1), x.pram(2), x.pram(3),
            x.pram(4), x.pram(5), x.pram(6), x.pram(7), x.pram(8), x.pram(9), x.pram(10), x.pram(11), x.pram(12));
        CHECK.dues("pram BAD", "-1 -1 -1 -1", x.pram(-1), x.pram(13), x.pram(Integer.MAX_VALUE), x.pram(Integer.MIN_VALUE));
        x.bags(2);
        CHECK.dues("BAGS changed", "2 69", x.pram(3), x.pram(12));
        x = Check.laid("m43;q41,42;a38,39;k35,36,37;b34;p31,32,33;s1,10;");
        CHECK.dues("pram, told from behind", "31 32 33 34 35 36 37 38 39 41 42 43 101", x.pram(0), x.pram(1), x.pram(2), x.pram(3),
            x.pram(4), x.pram(5), x.pram(6), x.pram(7), x.pram(8), x.pram(9), x.pram(10), x.pram(11), x.pram(12));
        x = Check.laid("s1,10;");
        CHECK.dues("pram without", "20 20 30 0 10 30 20 40 20 20 60 9 30", x.pram(0), x.pram(1), x.pram(2), x.pram(3),
            x.pram(4), x.pram(5), x.pram(6), x.pram(7), x.pram(8), x.pram(9), x.pram(10), x.pram(11), x.pram(12));
    }

    private static void passersAndStations() {
        PramAndSteps x = Check.laid("s1,10;n0,3;n23,9;n7,5;n7,4;n8,2;n8,0;t0;t60;t31;i1;i1;");
        CHECK.dues("passers", "3 9 4 0 0", x.passers(0), x.passers(23), x.passers(7), x.passers(8), x.passers(9));
        CHECK.dues("passers BAD", "-1 -1 -1", x.passers(-1), x.passers(24), x.passers(Integer.MAX_VALUE));
        CHECK.dues("station", "0 60 31 0 1 0", x.station(0, 0), x.station(1, 0), x.station(2, 0),
            x.station(0, 1), x.station(1, 1), x.station(2, 1));
        CHECK.dues("station BAD", "-1 -1 -1 -1 -1", x.station(-1, 0), x.station(3, 0), x.station(0, -1), x.station(0, 2),
            x.station(Integer.MAX_VALUE, 1));
        CHECK.due("a LIFT told twice is one", x.count(4), 1);
        CHECK.dues("STEPS as told in spite of a LIFT", "60 1", x.station(1, 0), x.station(1, 1));
    }
}
