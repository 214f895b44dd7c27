/** The boundary sentences of promises 31 to 35: MINUTES, STEPS, FREE, PUT, MISSED, TIPPED. */
public final class StationsBagsEdgesTest {
    private static final Edges EDGES = new Edges("StationsBagsEdgesTest");
    /** Seven in a row, each with a STEP. */
    private static final String ROW = "laid(s1,10;" + "t1;".repeat(7) + "e0,1,1;e1,2,1;e2,3,1;e3,4,1;e4,5,1;e5,6,1;) ";
    /** 0, 1 and 2 are joined, 3 is alone; a LIFT at 1. */
    private static final String PART = "laid(s1,10;t0;t5;t0;t7;e0,1,9;e1,2,2;e0,2,20;e0,1,4;i1;) ";

    public static void main(String[] args) {
        minutes();
        steps();
        travel();
        free();
        put();
        missed();
        tipped();
        roomForBags();
        EDGES.end(31, 35);
    }

    private static void minutes() {
        EDGES.edge(31, "MINUTES from STATION a to b: the fewest by LINES (0: the same); none.",
            ROW + "travel(0,0,0)=0 travel(6,6,0)=0 travel(0,6,0)=6 travel(6,0,0)=6", "laid(s1,10;t1;) travel(0,0,0)=0", "laid(s1,10;t1;t1;t1;e0,1,3;e0,2,4;) travel(1,2,0)=7 travel(2,1,0)=7", "laid(s1,10;t1;t1;) travel(0,1,0)=NONE travel(1,0,0)=NONE travel(1,1,0)=0",
            "laid(s1,10;" + "t1;".repeat(7) + "e6,5,60;e5,4,60;e4,3,60;e3,2,60;e2,1,60;e1,0,60;) travel(0,6,0)=360 travel(6,0,0)=360",
            PART + "travel(0,1,0)=4 travel(0,2,0)=6 travel(2,0,0)=6 travel(3,0,0)=NONE travel(2,3,0)=NONE travel(3,3,0)=0");
    }

    private static void steps() {
        EDGES.edge(31, "those of a and of b (the same: 0; one with a LIFT none); none (no way)",
            "laid(s1,10;t60;t60;t0;e0,1,1;e1,2,1;) travel(0,0,1)=0 travel(0,1,1)=120 travel(0,2,1)=60 travel(2,2,1)=0 lift(0,true)=1 travel(0,1,1)=60 travel(1,0,1)=60 lift(1,true)=2 travel(0,1,1)=0",
            PART + "travel(0,3,1)=NONE travel(3,2,1)=NONE travel(3,3,1)=0 travel(1,1,1)=0 travel(0,1,1)=0 lift(1,false)=0 travel(0,1,1)=5 travel(1,1,1)=0 travel(0,2,1)=0",
            PART + "lift(3,true)=2 travel(0,3,1)=NONE travel(3,1,1)=NONE");
    }

    private static void travel() {
        EDGES.edge(31, "NONE; BAD.", "travel(0,0,0)=BAD travel(0,0,1)=BAD",
            PART + "travel(-1,0,0)=BAD travel(4,0,0)=BAD travel(0,-1,0)=BAD travel(0,4,0)=BAD travel(0,1,-1)=BAD travel(0,1,2)=BAD travel(4,4,0)=BAD",
            PART + "travel(MIN,0,0)=BAD travel(MAX,0,0)=BAD travel(0,MIN,1)=BAD travel(0,MAX,1)=BAD travel(0,0,MIN)=BAD travel(0,0,MAX)=BAD",
            ROW + "travel(6,6,1)=0 travel(7,6,0)=BAD travel(6,7,0)=BAD travel(7,7,1)=BAD");
        EDGES.edge(31, "Of several the first", PART + "travel(0,3,0)=NONE travel(0,3,2)=BAD travel(3,0,-1)=BAD travel(3,4,0)=BAD");
    }

    private static void free() {
        EDGES.edge(32, "FREE are two STATIONS, if there is a way and no STEPS: how many pairs.", "free()=0", "laid(s1,10;t0;) free()=0", "laid(s1,10;t0;t0;) free()=0",
            "laid(s1,10;t0;t0;e1,0,60;) free()=1", "laid(s1,10;t0;t1;e1,0,60;) free()=0 lift(1,true)=1 free()=1 lift(1,false)=0 free()=0", "laid(s1,10;t1;t1;e0,1,1;e1,0,2;i0;i1;) free()=1",
            "laid(s1,10;" + "t0;".repeat(7) + "e0,1,1;e1,2,1;e2,3,1;e3,4,1;e4,5,1;e5,6,1;) free()=21", ROW + "free()=0 lift(0,true) free()=0 lift(6,true) free()=1", PART + "free()=3 lift(3,true) free()=3");
    }

    private static void put() {
        String put = "lift(0,true) lift(1,true) lift(2,true) ";
        EDGES.edge(33, "PUT n (1 to 3) LIFTS", ROW + "lifts(0,0)=BAD lifts(1,0)=1 lifts(1,1)=0 lifts(2,0)=3 lifts(2,1)=1 lifts(3,0)=7 lifts(3,1)=3 lifts(4,0)=BAD count(4)=0");
        EDGES.edge(33, "of sets of n STATIONS without one that with which most pairs are FREE, of several the lowest (as bits)",
            PART + "lifts(1,0)=1 lifts(1,1)=3 lifts(2,0)=5 lifts(3,0)=13 lift(1,false)=0 lifts(1,0)=2 lifts(2,0)=3 lifts(3,0)=7 lifts(3,1)=3",
            ROW + put + "lift(3,true)=4 lifts(1,0)=16 lifts(1,1)=10 lifts(2,0)=48 lifts(3,0)=112 lifts(3,1)=21",
            "laid(s1,10;t9;t9;t9;t9;t9;e0,1,1;e2,3,1;e3,4,1;) lifts(1,0)=1 lifts(1,1)=0 lifts(2,0)=3 lifts(2,1)=1 lifts(3,0)=28 lifts(3,1)=3");
        EDGES.edge(33, "it; how many; none (not so many are without)", "lifts(1,0)=NONE lifts(2,1)=NONE lifts(3,0)=NONE",
            ROW + put + "lift(3,true) lift(4,true) lifts(2,0)=96 lifts(2,1)=21 lifts(3,0)=NONE lifts(3,1)=NONE lift(5,true) lifts(1,0)=64 lifts(2,0)=NONE lift(6,true) lifts(1,0)=NONE lifts(1,1)=NONE",
            "laid(s1,10;t1;t1;i0;) lifts(1,0)=2 lifts(1,1)=0 lifts(2,0)=NONE lift(0,false)=0 lifts(2,0)=3 lifts(3,0)=NONE");
        EDGES.edge(33, "NONE; BAD.", "lifts(0,0)=BAD lifts(4,0)=BAD lifts(1,-1)=BAD lifts(3,2)=BAD lifts(-1,0)=BAD lifts(MIN,0)=BAD lifts(MAX,1)=BAD lifts(1,MIN)=BAD lifts(1,MAX)=BAD lifts(1,1)=NONE");
    }

    private static void missed() {
        EDGES.edge(34, "MISSED: the STATION with a LIFT without which fewest pairs are FREE, the lowest; none.",
            ROW + "lift(6,true)=1 missed()=6 lift(5,true)=2 missed()=5 lift(0,true)=3 missed()=0", "laid(s1,10;t0;t5;e0,1,1;i0;i1;) missed()=1", PART + "missed()=1 lift(0,true) lift(3,true) missed()=1",
            "laid(s1,10;t9;t9;t9;t9;t9;e0,1,1;e2,3,1;e3,4,1;i0;i1;i2;i3;i4;) missed()=2 lift(2,false) missed()=0 lift(0,false) missed()=3");
        EDGES.edge(34, "MISSED. NONE.", "missed()=NONE", ROW + "missed()=NONE", PART + "missed()=1 lift(1,false)=0 missed()=NONE lift(3,true)=1 missed()=3");
    }

    private static void tipped() {
        EDGES.edge(35, "TIPPED is the PRAM without the CHILD, if 2 times B is more than P", "tips(0)=0 bags(10)=0 tips(0)=0 bags(11)=10 tips(0)=1",
            "laid(s1,10;p20,21,30;b10;) tips(0)=0 bags(11)=10 tips(0)=1", "laid(s1,10;p20,1,30;) tips(0)=0 bags(1)=0 tips(0)=1", "laid(s1,10;p20,60,30;b30;) tips(0)=0 bags(31)=30 tips(0)=1 bags(40)=31 tips(0)=1");
        EDGES.edge(35, "the most that BAGS may weigh", "tips(1)=10", "laid(s1,10;p20,1,30;) tips(1)=0", "laid(s1,10;p20,2,30;) tips(1)=1", "laid(s1,10;p20,21,30;) tips(1)=10",
            "laid(s1,10;p20,60,30;b40;) tips(1)=30 bags(0)=40 tips(1)=30");
        EDGES.edge(35, "BAD.", "tips(-1)=BAD tips(4)=BAD tips(MIN)=BAD tips(MAX)=BAD tips(3)=40");
    }

    private static void roomForBags() {
        EDGES.edge(35, "how much can be put to them so that the whole stair can still be gone by ONE (none: it can not as it is)",
            "laid(s1,20;s10,20;p20,10,30;k0,99,99;a3,9;) tips(2)=14 tips(3)=6 bags(6)=0 tips(2)=8 tips(3)=0 bags(7)=6 tips(2)=7 tips(3)=NONE bags(14)=7 tips(2)=0 bags(15)=14 tips(2)=NONE tips(3)=NONE",
            "laid(s10,20;p20,10,30;k0,99,99;a1,9;) tips(2)=NONE tips(3)=NONE", "laid(s10,20;p20,8,30;k0,99,99;a1,9;) tips(2)=0 tips(3)=NONE");
        EDGES.edge(35, "up (2), down (3; NONE; 40 in all at most)", "tips(2)=40 tips(3)=40", "bags(40)=0 tips(2)=0 tips(3)=0 bags(39)=40 tips(2)=1 tips(3)=1",
            "laid(s10,20;p20,10,30;b7;) tips(2)=33 tips(3)=33 go(2)=1 tips(2)=33", "laid(s10,20;p20,40,30;k0,99,99;a10,9;) tips(2)=40 tips(3)=8",
            "laid(s10,20;p20,41,30;k0,99,99;a10,9;) tips(2)=39 tips(3)=7", "laid(s30,20;p3,60,1;b40;k40,0,0;) tips(2)=NONE tips(3)=NONE");
    }
}
