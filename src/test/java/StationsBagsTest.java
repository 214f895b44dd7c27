/** Promises 31 to 35: MINUTES, STEPS, FREE, PUT, MISSED, TIPPED. */
public final class StationsBagsTest {
    private static final int BAD = PramAndSteps.BAD, NONE = PramAndSteps.NONE;
    private static final Check CHECK = new Check();
    /** 0, 1 and 2 are joined, 3 is alone; a LIFT at 1. */
    private static final String TOWN = "s1,10;t0;t5;t0;t7;e0,1,9;e1,2,2;e0,2,20;e0,1,4;i1;";

    public static void main(String[] args) {
        minutes();
        longWays();
        steps();
        free();
        put();
        missed();
        noStations();
        tipped();
        roomForBags();
        CHECK.end("StationsBagsTest");
    }

    private static void minutes() {
        PramAndSteps x = Check.laid(TOWN);
        CHECK.dues("the same", "0 0 0 0", x.travel(0, 0, 0), x.travel(3, 3, 0), x.travel(1, 1, 1), x.travel(3, 3, 1));
        CHECK.dues("the shorter of two LINES, both ways", "4 4", x.travel(0, 1, 0), x.travel(1, 0, 0));
        CHECK.dues("over another STATION", "6 6", x.travel(0, 2, 0), x.travel(2, 0, 0));
        PramAndSteps star = Check.laid("s1,10;t1;t1;t1;t1;e0,1,3;e0,2,4;e3,0,9;");
        CHECK.dues("over the first STATION", "7 12 13", star.travel(1, 2, 0), star.travel(3, 1, 0), star.travel(2, 3, 0));
        CHECK.dues("no way", "-4 -4 -4 -4", x.travel(0, 3, 0), x.travel(3, 0, 0), x.travel(0, 3, 1), x.travel(3, 2, 1));
        CHECK.dues("travel BAD", "-1 -1 -1 -1 -1 -1 -1", x.travel(-1, 0, 0), x.travel(4, 0, 0), x.travel(0, -1, 0), x.travel(0, 4, 0),
            x.travel(0, 1, -1), x.travel(0, 1, 2), x.travel(0, 3, 2));
    }

    private static void longWays() {
        PramAndSteps x = Check.laid("s1,10;" + "t1;".repeat(7) + "e6,5,60;e5,4,60;e4,3,60;e3,2,60;e2,1,60;e1,0,60;");
        CHECK.dues("a long line", "360 60 180", x.travel(0, 6, 0), x.travel(5, 6, 0), x.travel(4, 1, 0));
        x = Check.laid("s1,10;" + "t1;".repeat(7) + "e0,1,1;e1,2,1;e2,3,1;e3,4,1;e4,5,1;e5,6,1;e0,6,7;e0,3,4;e3,6,4;e1,5,9;");
        CHECK.dues("many short ones are less", "6 4 3", x.travel(0, 6, 0), x.travel(1, 5, 0), x.travel(6, 3, 0));
        x = Check.laid("s1,10;" + "t1;".repeat(7) + "e0,1,1;e1,2,1;e2,3,1;e3,4,1;e4,5,1;e5,6,1;e0,6,5;");
        CHECK.dues("one long one is less", "5 5 4 6", x.travel(0, 6, 0), x.travel(1, 6, 0), x.travel(0, 4, 0), x.travel(5, 0, 0) + 1);
    }

    private static void steps() {
        PramAndSteps x = Check.laid("s1,10;t10;t5;t60;e0,1,9;e1,2,9;i1;");
        CHECK.dues("those of both, a LIFT none, over one none", "10 70 60", x.travel(0, 1, 1), x.travel(0, 2, 1), x.travel(1, 2, 1));
        x.lift(1, false);
        CHECK.dues("without the LIFT", "15 70 65", x.travel(0, 1, 1), x.travel(2, 0, 1), x.travel(1, 2, 1));
        x.lift(0, true);
        x.lift(2, true);
        CHECK.dues("with others", "5 0 5", x.travel(0, 1, 1), x.travel(0, 2, 1), x.travel(2, 1, 1));
    }

    private static void free() {
        PramAndSteps x = Check.laid(TOWN);
        CHECK.due("free()", x.free(), 3);
        x.lift(1, false);
        CHECK.due("without the LIFT", x.free(), 1);
        x.lift(3, true);
        CHECK.due("no way to it", x.free(), 1);
        x = Check.laid("s1,10;" + "t0;".repeat(7) + "e0,1,1;e1,2,1;e2,3,1;e3,4,1;e4,5,1;e5,6,1;");
        CHECK.due("all of seven", x.free(), 21);
    }

    private static void put() {
        PramAndSteps x = Check.laid(TOWN);
        CHECK.dues("no set is better: the lowest", "1 3 5 3 13 3",
            x.lifts(1, 0), x.lifts(1, 1), x.lifts(2, 0), x.lifts(2, 1), x.lifts(3, 0), x.lifts(3, 1));
        x.lift(1, false);
        CHECK.dues("1 is best; with 0 the lowest", "2 3 3 3 7 3",
            x.lifts(1, 0), x.lifts(1, 1), x.lifts(2, 0), x.lifts(2, 1), x.lifts(3, 0), x.lifts(3, 1));
        CHECK.dues("nothing is put", "0 1", x.count(4), x.free());
        x.lift(0, true);
        x.lift(1, true);
        CHECK.dues("not so many are without", "-4 -4 12 4", x.lifts(3, 0), x.lifts(3, 1), x.lifts(2, 0), x.lifts(1, 0));
        CHECK.dues("lifts BAD", "-1 -1 -1 -1 -1 -1", x.lifts(0, 0), x.lifts(4, 0), x.lifts(1, -1), x.lifts(1, 2), x.lifts(3, 2),
            x.lifts(Integer.MIN_VALUE, 0));
        x = Check.laid("s1,10;t9;t9;t9;t9;t9;e0,1,1;e2,3,1;e3,4,1;");
        // one LIFT frees nobody; two free a pair: 0 with 1 first; three: 2, 3 and 4
        CHECK.dues("sets", "1 0 3 1 28 3", x.lifts(1, 0), x.lifts(1, 1), x.lifts(2, 0), x.lifts(2, 1), x.lifts(3, 0), x.lifts(3, 1));
    }

    private static void missed() {
        PramAndSteps x = Check.laid(TOWN);
        CHECK.due("the only one", x.missed(), 1);
        x.lift(0, true);
        x.lift(3, true);
        CHECK.dues("of several", "1 3", x.missed(), x.count(4));
        x.lift(1, false);
        CHECK.due("none is missed more: the lowest", x.missed(), 0);
        x.lift(0, false);
        CHECK.due("alone", x.missed(), 3);
        x.lift(3, false);
        CHECK.due("no LIFT", x.missed(), NONE);
        // without 0 or 1: 3 pairs of three; without 2 to 4: 1 and 1
        x = Check.laid("s1,10;t9;t9;t9;t9;t9;e0,1,1;e2,3,1;e3,4,1;i0;i1;i4;i3;i2;");
        CHECK.dues("in the bigger part", "2 4", x.missed(), x.free());
    }

    private static void noStations() {
        PramAndSteps x = new PramAndSteps();
        CHECK.dues("no STATIONS", "-1 0 -4 -4 -4 -4 -1", x.travel(0, 0, 0), x.free(), x.lifts(1, 0), x.lifts(2, 1), x.lifts(3, 0),
            x.missed(), x.lift(0, true));
    }

    private static void tipped() {
        PramAndSteps x = Check.laid("s1,10;p20,21,30;b10;");
        CHECK.dues("20 of 21", "0 10", x.tips(0), x.tips(1));
        x.bags(11);
        CHECK.dues("22 of 21", "1 10", x.tips(0), x.tips(1));
        x = Check.laid("s1,10;p20,20,30;b10;");
        CHECK.dues("20 of 20", "0 10", x.tips(0), x.tips(1));
        x = Check.laid("s1,10;p20,1,30;");
        CHECK.dues("0 of 1", "0 0", x.tips(0), x.tips(1));
        x = Check.laid("s1,10;p20,60,30;b40;");
        CHECK.dues("80 of 60", "1 30", x.tips(0), x.tips(1));
        CHECK.dues("tips BAD", "-1 -1 -1", x.tips(-1), x.tips(4), x.tips(Integer.MAX_VALUE));
    }

    private static void roomForBags() {
        // by WHEELS: LOAD times 10 by 80, and down its half more
        PramAndSteps x = Check.laid("s10,20;p20,10,30;k0,99,99;a2,9;");
        CHECK.dues("2: LOAD 16 up; down 3 with LOAD 9", "6 -4", x.tips(2), x.tips(3));
        x = Check.laid("s1,20;s10,20;p20,10,30;k0,99,99;a3,9;");
        CHECK.dues("3: LOAD 24 up; down LOAD 16", "14 6", x.tips(2), x.tips(3));
        x.bags(5);
        CHECK.dues("5 are there", "9 1", x.tips(2), x.tips(3));
        x.bags(6);
        CHECK.dues("6 are there", "8 0", x.tips(2), x.tips(3));
        x.bags(15);
        CHECK.dues("too many are there", "-4 -4 15", x.tips(2), x.tips(3), x.pram(3));
        x = Check.laid("s10,20;p20,10,30;k0,99,99;a40,9;b7;");
        CHECK.dues("40 in all at most", "33 33", x.tips(2), x.tips(3));
        x.go(2);
        x.bags(40);
        CHECK.dues("0 more, whatever is gone", "0 0 1", x.tips(2), x.tips(3), x.stands(0));
    }
}
