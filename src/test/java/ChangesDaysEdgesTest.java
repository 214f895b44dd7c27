/** The boundary sentences of promises 36 to 42: BAGS, LIFTS, DAYS, YEARS, KEPT, count. The DAYS were worked out beside the class. */
public final class ChangesDaysEdgesTest {
    private static final Edges EDGES = new Edges("ChangesDaysEdgesTest");
    private static final String STAIR = "laid(s10,20;s10,20;s10,20;p20,10,30;k0,19,99;a9,7;b4;t1;t2;t3;i1;) ";
    /** A chance of 10 in a thousand from HOUR 8 to its end. */
    private static final String RARE = "laid(s1,10;n8,1;q1,0;) ";

    public static void main(String[] args) {
        bags();
        lift();
        minuteOfDay();
        drawBelowChance();
        day();
        yearModulo();
        yearWithin();
        year();
        keep();
        back();
        count();
        EDGES.end(36, 42);
    }

    private static void bags() {
        EDGES.edge(36, "BAGS weigh b (0 to 40): what they did", STAIR + "bags(0)=4 pram(3)=0 bags(40)=0 pram(3)=40 pram(12)=50 bags(40)=40 bags(0)=40 pram(12)=10");
        EDGES.edge(36, "nothing UNDONE then.", STAIR + "go(0)=1 rest()=9 count(6)=2 bags(10)=4 count(6)=0 undo()=NO stands(0)=1 stands(3)=8", STAIR + "go(0)=1 bags(4)=4 count(6)=0 undo()=NO",
            STAIR + "tell(1)=1 keep()=1 go(0)=1 bags(0)=4 count(5)=1 count(7)=1 go(1)=2 count(6)=1");
        EDGES.edge(36, "BAD.", STAIR + "go(0)=1 tell(3)=1 keep()=1 bags(-1)=BAD bags(41)=BAD bags(MIN)=BAD bags(MAX)=BAD pram(3)=4 count(6)=1");
    }

    private static void lift() {
        String seven = "laid(s1,10;t1;t1;t1;t1;t1;t1;t1;i1;) ";
        EDGES.edge(37, "A LIFT at a STATION, or none any more: how many there are.", seven + "lift(1,true)=1 lift(0,false)=1 lift(0,true)=2 lift(0,true)=2 lift(6,true)=3 lift(1,false)=2 lift(1,false)=2 "
            + "lift(6,false)=1 lift(0,false)=0 lift(0,false)=0", seven + "lift(0,true)=2 lift(2,true)=3 lift(3,true)=4 lift(4,true)=5 lift(5,true)=6 lift(6,true)=7 lift(6,true)=7 count(4)=7",
            STAIR + "go(0)=1 tell(1)=1 lift(0,true)=2 count(6)=1 count(5)=1 undo()=0 count(4)=2");
        EDGES.edge(37, "BAD.", "lift(0,true)=BAD lift(0,false)=BAD", STAIR + "lift(-1,true)=BAD lift(3,true)=BAD lift(3,false)=BAD lift(-1,false)=BAD lift(32,true)=BAD lift(33,false)=BAD count(4)=1",
            seven + "lift(7,true)=BAD lift(7,false)=BAD lift(MIN,true)=BAD lift(MAX,true)=BAD lift(-31,false)=BAD station(1,1)=1");
    }

    private static void minuteOfDay() {
        EDGES.edge(38, "minute k (0 to 299) is the first in which DRAW is below the chance", RARE + "day(379,8,false)=0 day(26,4,false)=240 day(49,4,false)=299 day(9949,4,false)=299",
            RARE + "day(72,4,false)=NONE day(6,4,false)=NONE day(72,8,false)=29", RARE + "day(49,8,false)=49 day(26,3,false)=NONE day(49,9,false)=NONE");
        EDGES.edge(38, "(23 is followed by 0)", "laid(s1,10;n0,3;q5,12;) day(0,19,true)=NONE day(0,20,true)=242 day(0,21,true)=196 day(0,22,true)=121 day(0,23,true)=61 day(0,0,true)=0 day(0,1,true)=NONE",
            "laid(s1,10;n0,3;q5,12;) day(9999,20,true)=240 day(9999,21,true)=180 day(9999,22,true)=124 day(9999,23,true)=77 day(9999,0,true)=8");
    }

    private static void drawBelowChance() {
        EDGES.edge(38, "DRAW being ((x times x) modulo 65521) modulo 1000, x 7919 z, 6151 k and 1 together", RARE + "day(379,8,false)=0 day(226,8,false)=NONE",
            "laid(s1,10;n8,1;q50,0;) day(133,8,false)=0 day(360,8,false)=2", "laid(s1,10;n8,1;q99,0;) day(285,8,false)=0 day(1196,8,false)=1 day(254,8,false)=1",
            "laid(s1,10;n8,2;q99,99;) day(254,8,true)=0 day(1196,8,true)=0", "laid(s1,10;n8,1;q0,0;) day(1415,8,false)=NONE day(1415,8,true)=NONE", RARE + "day(1415,8,false)=0");
    }

    private static void day() {
        EDGES.edge(38, "A DAY by z (0 to 9999) from HOUR h", RARE + "day(0,8,false)=0 day(-1,8,false)=BAD day(9999,8,false)=14 day(10000,8,false)=BAD", "day(0,0,false)=NONE day(9999,23,true)=NONE");
        EDGES.edge(38, "NONE; BAD.", "day(0,8,true)=NONE day(0,-1,true)=BAD day(0,24,true)=BAD day(-1,8,true)=BAD day(10000,8,true)=BAD day(MIN,8,true)=BAD day(MAX,8,true)=BAD day(0,MIN,true)=BAD day(0,MAX,true)=BAD",
            RARE + "day(0,-1,false)=BAD day(0,24,false)=BAD day(0,8,false)=0");
    }

    private static void yearModulo() {
        String two = "laid(s1,10;n8,2;q5,12;) ";
        EDGES.edge(39, "of n (1 to 60) DAYS, by z, z and 1, .. (modulo 10000)", two + "year(9999,1,8,1,true)=0 year(9999,2,8,1,true)=1 year(0,1,8,1,true)=1 year(9999,60,8,1,true)=13 year(9940,60,8,1,true)=9 year(9941,60,8,1,true)=10",
            two + "year(0,60,8,300,true)=60 year(9999,60,8,300,true)=60 year(0,61,8,300,true)=BAD year(0,0,8,300,true)=BAD year(0,59,8,1,true)=13 year(0,60,8,1,true)=14");
    }

    private static void yearWithin() {
        EDGES.edge(39, "how many have one WITHIN m minutes (k below m)", RARE + "year(49,1,4,299,false)=0 year(49,1,4,300,false)=1 year(26,1,4,240,false)=0 year(26,1,4,241,false)=1 year(379,1,8,1,false)=1 year(226,1,8,1,false)=0",
            RARE + "year(72,1,4,300,false)=0 year(72,1,8,29,false)=0 year(72,1,8,30,false)=1", "laid(s1,10;n0,3;q1,0;) year(9999,60,20,240,false)=0 year(9999,60,20,241,false)=3 year(9999,60,20,300,false)=37 year(9999,60,19,300,false)=0");
    }

    private static void year() {
        EDGES.edge(39, "BAD (m 1 to 300).", RARE + "year(0,1,8,1,false)=1 year(0,1,8,0,false)=BAD year(0,1,8,300,false)=1 year(0,1,8,301,false)=BAD year(0,1,8,-1,false)=BAD year(0,1,8,MIN,false)=BAD year(0,1,8,MAX,false)=BAD",
            RARE + "year(-1,1,8,1,false)=BAD year(10000,1,8,1,false)=BAD year(0,0,8,1,false)=BAD year(0,61,8,1,false)=BAD year(0,-1,8,1,false)=BAD year(0,1,-1,1,false)=BAD year(0,1,24,1,false)=BAD",
            "year(MIN,1,8,1,true)=BAD year(MAX,1,8,1,true)=BAD year(0,MIN,8,1,true)=BAD year(0,MAX,8,1,true)=BAD year(0,1,MIN,1,true)=BAD year(0,1,MAX,1,true)=BAD year(0,60,0,300,true)=0 year(9999,1,23,1,true)=0");
    }

    private static void keep() {
        EDGES.edge(40, "whether he is AWAKE: 2 at most", STAIR + "keep()=1 go(0)=1 keep()=2 go(0)=2 keep()=FULL count(7)=2 back()=1 stands(0)=1 keep()=2 keep()=FULL back()=1 back()=0 stands(0)=0 keep()=1");
        EDGES.edge(40, "KEPT: how many. FULL.", "keep()=1 keep()=2 keep()=FULL keep()=FULL count(7)=2", STAIR + "go(0)=1 tell(2)=1 keep()=1 count(5)=1 count(6)=1 keep()=2 keep()=FULL undo()=0 keep()=FULL",
            STAIR + "keep()=1 start(true)=3 keep()=2 lay()=3 count(7)=0 keep()=1 keep()=2 keep()=FULL");
    }

    private static void back() {
        EDGES.edge(41, "KEPT are BAGS and LIFTS, where on the stair ONE is, which way, STRENGTH, beats, BUMPS, whether he is AWAKE",
            STAIR + "start(true)=3 go(2)=1 keep()=1 start(false)=3 bags(0)=4 lift(0,true)=2 lift(1,false)=1 back()=0 stands(0)=1 stands(1)=1 stands(2)=8 stands(3)=5 stands(4)=20 stands(5)=1 pram(3)=4 station(0,1)=0 station(1,1)=1",
            STAIR + "keep()=1 start(true)=3 bags(40)=4 bags(1)=40 go(2)=1 go(2)=2 lift(2,true)=2 back()=0 stands(0)=0 stands(1)=0 stands(2)=9 stands(3)=0 stands(4)=0 stands(5)=0 pram(3)=4 count(4)=1");
        EDGES.edge(41, "As KEPT last: how many are left", STAIR + "go(0)=1 keep()=1 bags(7)=4 go(1)=2 lift(0,true)=2 keep()=2 start(true)=3 back()=1 stands(0)=2 stands(1)=0 pram(3)=7 count(4)=2 back()=0 stands(0)=1 pram(3)=4 count(4)=1 back()=NO");
        EDGES.edge(41, "no told row, nothing UNDONE then.", STAIR + "keep()=1 go(0)=1 rest()=9 tell(1)=1 tell(3)=2 back()=0 count(5)=0 count(6)=0 undo()=NO noRow()=0 stands(0)=0");
        EDGES.edge(41, "NO.", "back()=NO", STAIR + "go(0)=1 tell(1)=1 bags(9)=4 back()=NO count(5)=1 pram(3)=9", STAIR + "keep()=1 back()=0 go(0)=1 tell(1)=1 back()=NO count(6)=1 count(5)=1", STAIR + "keep()=1 lay()=3 back()=NO");
    }

    private static void count() {
        String full = "laid(" + "s1,10;".repeat(12) + "h1,0;".repeat(4) + "t1;".repeat(7) + "e0,1,1;".repeat(10) + "i0;i1;i2;i3;i4;) lift(5,true) lift(6,true) write(98)=199 write(98)=200 ";
        EDGES.edge(42, "How many: 0 STEPS, 1 HELPERS, 2 STATIONS, 3 LINES, 4 LIFTS, 5 of the told row, 6 that can be UNDONE, 7 KEPT, 8 letters of THE TEXT.",
            full + "go(2) rest() ".repeat(5) + "tell(3) ".repeat(21) + "keep() keep() keep() count(0)=12 count(1)=4 count(2)=7 count(3)=10 count(4)=7 count(5)=20 count(6)=8 count(7)=2 count(8)=200",
            "count(0)=3 count(1)=0 count(2)=0 count(3)=0 count(4)=0 count(5)=0 count(6)=0 count(7)=0 count(8)=0");
        EDGES.edge(42, "BAD.", "count(-1)=BAD count(9)=BAD count(MIN)=BAD count(MAX)=BAD");
    }
}
