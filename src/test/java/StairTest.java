/** Promises 11 to 19: step by step, undone, a told row judged. */
public final class StairTest {
    private static final int BAD = PramAndSteps.BAD, NO = PramAndSteps.NO, FULL = PramAndSteps.FULL, NONE = PramAndSteps.NONE;
    private static final Check CHECK = new Check();

    public static void main(String[] args) {
        force();
        forceByWheelsAndHandle();
        forceBad();
        go();
        goDown();
        wakes();
        rest();
        start();
        undo();
        undoOnlyEight();
        stands();
        tell();
        judge();
        CHECK.end("StairTest");
    }

    private static String all(PramAndSteps x, int s, boolean down) {
        StringBuilder all = new StringBuilder();
        for (int manner = 0; manner < 3; manner++) {
            for (int what = 0; what < 3; what++) {
                all.append(x.force(s, manner, down, what)).append(' ');
            }
        }
        return all.toString().trim();
    }

    private static void force(String name, PramAndSteps x, int s, boolean down, String want) {
        CHECK.due(name + ": " + all(x, s, down) + " for " + want, all(x, s, down).equals(want) ? 1 : 0, 1);
    }

    private static void force() {
        // LOAD 10, WHEELS 20: 100 by 20, 40, 80; 90 by them
        PramAndSteps x = Check.laid("s10,20;s9,20;p20,10,30;k0,20,4;a10,7;");
        force("H 10 up", x, 0, false, "5 10 1 3 15 2 2 20 5");
        force("H 10 down", x, 0, true, "8 20 1 5 15 2 3 20 5");
        force("H 9 up", x, 1, false, "5 9 1 3 14 2 2 18 5");
        force("H 9 down", x, 1, true, "8 18 1 5 14 2 3 18 5");
        x.bags(10);
        force("LOAD 20, H 10 up", x, 0, false, "10 10 1 5 15 2 3 20 5");
        x.go(0);
        force("whatever STRENGTH", x, 0, false, "10 10 1 5 15 2 3 20 5");
    }

    private static void forceByWheelsAndHandle() {
        PramAndSteps x = Check.laid("s10,20;s11,20;s20,20;s21,20;p20,10,99;k0,20,4;");
        CHECK.dues("FORWARD by WHEELS of 2 times H or more", "5 -2 -2 -2",
            x.force(0, 0, false, 0), x.force(1, 0, false, 0), x.force(2, 0, false, 0), x.force(3, 0, false, 0));
        CHECK.dues("BACKWARD by WHEELS of H or more", "3 3 5 -2",
            x.force(0, 1, false, 0), x.force(1, 1, false, 0), x.force(2, 1, false, 0), x.force(3, 1, false, 0));
        CHECK.dues("by WHEELS always", "2 2 3 3",
            x.force(0, 2, false, 0), x.force(1, 2, false, 0), x.force(2, 2, false, 0), x.force(3, 2, false, 0));
        x = Check.laid("s10,20;p20,10,5;k0,20,4;");
        force("FORCE of F is no fold", x, 0, false, "5 10 1 3 15 2 2 20 5");
        force("down it is above F", x, 0, true, "-2 -2 -2 5 15 2 3 20 5");
        x = Check.laid("s10,20;p20,10,4;k0,20,4;");
        force("F 4 up", x, 0, false, "-2 -2 -2 3 15 2 2 20 5");
        force("F 4 down", x, 0, true, "-2 -2 -2 -2 -2 -2 3 20 5");
        x = Check.laid("s30,20;p3,60,1;b40;k40,20,4;");
        force("by WHEELS never folds", x, 0, false, "-2 -2 -2 -2 -2 -2 350 60 5");
        force("by WHEELS down", x, 0, true, "-2 -2 -2 -2 -2 -2 525 60 5");
    }

    private static void forceBad() {
        PramAndSteps x = Check.laid("s21,20;p20,10,99;");
        CHECK.dues("force BAD", "-1 -1 -1 -1 -1 -1", x.force(-1, 2, false, 0), x.force(1, 2, false, 0), x.force(0, -1, false, 0),
            x.force(0, 3, true, 0), x.force(0, 2, false, -1), x.force(0, 2, false, 3));
        CHECK.dues("BAD ahead of NO", "-2 -1 -1", x.force(0, 0, false, 0), x.force(0, 0, false, 3), x.force(1, 0, false, 0));
    }

    private static void go() {
        // FORCES 5, 3, 2 and 5, 3, 2
        PramAndSteps x = Check.laid("s10,20;s9,20;p20,10,30;k0,99,99;a5,7;");
        CHECK.dues("a FORCE that is all his STRENGTH", "1 4 1 10", x.go(0), x.stands(2), x.stands(3), x.stands(4));
        String seen = Check.seen(x);
        CHECK.dues("5 of 4 he CAN not; BAD", "-2 -1 -1 -1", x.go(0), x.go(-1), x.go(3), x.go(Integer.MAX_VALUE));
        CHECK.due("nothing changes then", Check.seen(x).equals(seen) ? 1 : 0, 1);
        CHECK.dues("3 of 4 he CAN", "2 3 3 24", x.go(1), x.stands(2), x.stands(3), x.stands(4));
        CHECK.dues("there is none", "-2 -2 -2 -1", x.go(0), x.go(1), x.go(2), x.go(3));
        x = Check.laid("s9,20;p20,18,8;k0,99,99;a40,7;");
        CHECK.dues("the handle folds", "-2 1 39", x.go(0), x.go(1), x.stands(2));
        x = Check.laid("s1,20;p3,24,99;k0,99,99;");
        CHECK.dues("8 by 8 is 1", "1 39", x.go(0), x.stands(2));
        x = Check.laid("s1,20;p3,27,99;k0,99,99;");
        CHECK.dues("9 by 8 is 2", "1 38", x.go(0), x.stands(2));
        x.start(false);
        x.bags(24);
        CHECK.dues("BAGS are borne, 17 by 8 is 3", "1 37", x.go(0), x.stands(2));
    }

    private static void goDown() {
        // the highest first: H 9, LOAD 10: down 8, 5, 3
        PramAndSteps x = Check.laid("s10,20;s9,20;p20,10,30;k0,99,99;a10,7;");
        x.start(true);
        CHECK.dues("the highest STEP first", "1 9 1 18", x.go(0), x.stands(2), x.stands(3), x.stands(4));
        CHECK.dues("then the lowest", "2 8 3 33", x.go(1), x.stands(2), x.stands(3), x.stands(4));
        CHECK.due("there is none", x.go(2), NO);
    }

    private static void wakes() {
        PramAndSteps x = Check.laid("s10,20;s10,20;p20,10,30;k0,20,4;");
        x.go(2);
        CHECK.due("a BUMP of S does not wake him", x.stands(5), 0);
        x.go(2);
        CHECK.dues("BUMPS of Z times 10 do not", "40 0", x.stands(4), x.stands(5));
        x = Check.laid("s10,20;p20,10,30;k0,19,4;");
        x.go(2);
        CHECK.due("a BUMP above S wakes him", x.stands(5), 1);
        x = Check.laid("s7,20;s7,20;s7,20;s1,20;p20,10,30;k0,20,2;");
        x.go(0);
        x.go(0);
        CHECK.due("14 of 20", x.stands(5), 0);
        x.go(0);
        CHECK.dues("21 of 20", "21 1", x.stands(4), x.stands(5));
        x.go(0);
        CHECK.due("AWAKE from then on", x.stands(5), 1);
        x.undo();
        x.undo();
        CHECK.due("asleep again, UNDONE", x.stands(5), 0);
        x = Check.laid("s10,20;s1,20;p20,10,30;k0,15,99;");
        x.go(2);
        x.go(0);
        CHECK.due("AWAKE by the BUMP ahead", x.stands(5), 1);
        x = Check.laid("s1,20;p20,10,30;k0,0,99;");
        x.go(0);
        CHECK.due("S 0", x.stands(5), 1);
        x = Check.laid("s1,20;p20,10,30;k0,99,0;");
        x.go(0);
        CHECK.due("Z 0", x.stands(5), 1);
    }

    private static void rest() {
        PramAndSteps x = Check.laid("s10,20;s9,20;p20,10,30;k0,99,99;a5,7;");
        CHECK.dues("rest with all STRENGTH", "-2 0 0", x.rest(), x.stands(3), x.count(6));
        x.go(0);
        CHECK.dues("rest", "5 5 8 10 1 2", x.rest(), x.stands(2), x.stands(3), x.stands(4), x.stands(0), x.count(6));
        CHECK.dues("rest again", "-2 8 2", x.rest(), x.stands(3), x.count(6));
        x.go(0);
        CHECK.dues("rest behind the last STEP", "5 16", x.rest(), x.stands(3));
    }

    private static void start() {
        PramAndSteps x = Check.laid("s10,20;s9,20;p20,10,30;k0,0,0;a5,7;t1;");
        x.go(0);
        x.tell(1);
        x.keep();
        x.lift(0, true);
        CHECK.due("start(true)", x.start(true), 2);
        CHECK.dues("at the beginning, down", "0 1 5 0 0 0",
            x.stands(0), x.stands(1), x.stands(2), x.stands(3), x.stands(4), x.stands(5));
        CHECK.dues("no row, nothing UNDONE; KEPT and LIFTS stay", "0 0 1 1", x.count(5), x.count(6), x.count(7), x.count(4));
        x.bags(3);
        CHECK.dues("start(false)", "2 0 3", x.start(false), x.stands(1), x.pram(3));
    }

    private static void undo() {
        PramAndSteps x = Check.laid("s10,20;s9,20;p20,10,30;k0,99,99;a5,7;t1;");
        CHECK.due("nothing to undo", x.undo(), NO);
        x.go(0);
        x.rest();
        x.lift(0, true);
        x.tell(2);
        CHECK.dues("a REST UNDONE", "1 4 1 1", x.undo(), x.stands(2), x.stands(3), x.stands(0));
        CHECK.dues("LIFTS and row stay", "1 1", x.count(4), x.count(5));
        CHECK.dues("a STEP UNDONE", "0 5 0 0 0", x.undo(), x.stands(2), x.stands(3), x.stands(4), x.stands(0));
        CHECK.dues("no more", "-2 0", x.undo(), x.stands(0));
        x.go(1);
        CHECK.dues("go() behind undo()", "1 1", x.stands(0), x.count(6));
        x.bags(0);
        CHECK.dues("nothing UNDONE behind bags()", "0 -2 1", x.count(6), x.undo(), x.stands(0));
        x.go(9);
        x.go(-1);
        CHECK.due("what was BAD is not UNDONE", x.count(6), 0);
    }

    private static void undoOnlyEight() {
        PramAndSteps x = Check.laid("s1,20;".repeat(12) + "p20,10,30;k0,99,99;");
        for (int i = 1; i <= 12; i++) {
            x.go(i % 3);
            CHECK.due("count(6) behind " + i, x.count(6), Math.min(8, i));
        }
        for (int left = 7; left >= 0; left--) {
            CHECK.dues("undo", left + " " + (left + 4), x.undo(), x.stands(0));
        }
        CHECK.dues("the ninth", "-2 4", x.undo(), x.stands(0));
        // 1 BACKWARD, 2 by WHEELS, 3 FORWARD, 4 BACKWARD: 2 5 1 2 beats, BUMPS of 2 2 1 2
        CHECK.dues("stands as behind the fourth", "36 10 7", x.stands(2), x.stands(3), x.stands(4));
    }

    private static void stands() {
        PramAndSteps x = new PramAndSteps();
        CHECK.dues("stands BAD", "-1 -1 -1 -1", x.stands(-1), x.stands(6), x.stands(Integer.MAX_VALUE), x.stands(Integer.MIN_VALUE));
    }

    private static void tell() {
        PramAndSteps x = new PramAndSteps();
        CHECK.dues("tell", "1 2 3 4 -1 -1 4", x.tell(0), x.tell(1), x.tell(2), x.tell(3), x.tell(4), x.tell(-1), x.count(5));
        for (int i = 5; i <= 20; i++) {
            CHECK.due("tell the " + i + "th", x.tell(3), i);
        }
        CHECK.dues("a full row", "-3 -1 20", x.tell(3), x.tell(4), x.count(5));
        CHECK.dues("noRow", "20 0 0 1", x.noRow(), x.count(5), x.noRow(), x.tell(0));
    }

    private static void judge() {
        PramAndSteps x = Check.laid("s10,20;s9,20;p20,10,30;k0,99,99;a5,7;");
        CHECK.due("no row", x.judge(), NONE);
        x.tell(0);
        CHECK.due("FORWARD", x.judge(), NONE);
        x.tell(0);
        CHECK.due("FORWARD, FORWARD: 5 of 4", x.judge(), 1);
        x.noRow();
        x.tell(3);
        CHECK.due("a REST with all STRENGTH", x.judge(), 0);
        x.noRow();
        x.tell(0);
        x.tell(3);
        x.tell(0);
        x.tell(3);
        CHECK.due("with RESTS", x.judge(), NONE);
        CHECK.dues("nothing is done", "0 5 0 0 4 0", x.stands(0), x.stands(2), x.stands(3), x.stands(4), x.count(5), x.count(6));
        x.tell(2);
        CHECK.due("a third STEP", x.judge(), 4);
        x.go(0);
        CHECK.due("from now on, 5 of 4", x.judge(), 0);
        x.rest();
        CHECK.due("from now on, with all STRENGTH", x.judge(), 2);
        x.noRow();
        x.tell(0);
        x.tell(3);
        x.tell(3);
        CHECK.due("a second REST", x.judge(), 2);
        x.start(true);
        x.tell(0);
        CHECK.due("down: 8 of 5", x.judge(), 0);
    }
}
