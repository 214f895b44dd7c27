/** The boundary sentences of promises 20 to 24: BEST, ASLEEP, ENDS, MATE, TIME. */
public final class AloneTwoEdgesTest {
    private static final Edges EDGES = new Edges("AloneTwoEdgesTest");
    /** LOAD 10, WHEELS 20: FORCES of 5, 3, 2 on both STEPS; down 8, 5, 3. */
    private static final String TWO = "s10,20;s10,20;p20,10,30;";
    /** Twelve STEPS of FORCE 1 in every MANNER up, 2 down. */
    private static final String TWELVE = "s1,20;".repeat(12) + "p40,1,30;k0,99,99;";
    /** STEP 0 by 12 (FORWARD), 6, 3; STEP 1 by WHEELS alone, by 12: of 13, FORWARD leaves 11, BACKWARD 12. */
    private static final String STEEP = "s8,20;s30,20;p20,20,99;";

    public static void main(String[] args) {
        ways();
        firstManner();
        best();
        asleep();
        bears();
        ends();
        mate();
        time();
        EDGES.end(20, 24);
    }

    private static void ways() {
        EDGES.edge(20, "by ways with a REST or none ahead of each STEP but the first",
            "laid(s1,20;p40,1,30;k0,99,99;a1,9;) best(0,false,0)=1 best(2,false,0)=0",
            "laid(" + TWELVE + "a1,99;) best(0,false,0)=1101 best(1,false,0)=12 best(2,false,0)=11 best(3,false,0)=1",
            "laid(" + TWELVE + "a12,99;) best(0,false,0)=12 best(2,false,0)=0", "laid(" + TWELVE + "a11,99;) best(0,false,0)=111 best(2,false,0)=1",
            "laid(" + TWO + "k0,0,0;a5,1;) best(0,false,0)=3 best(0,false,1)=0 best(3,false,0)=10 best(2,false,0)=0");
        EDGES.edge(20, "the whole stair up or down from its beginning, with STRENGTH A at first",
            "laid(" + TWO + "k0,0,0;a5,9;) best(0,false,0)=3 go(0)=1 best(0,false,0)=3 go(1)=2 best(0,false,0)=3 best(0,false,1)=0",
            "laid(" + TWO + "k0,0,0;a5,9;) start(true)=2 go(1)=1 best(0,false,0)=3 best(3,false,0)=10");
        EDGES.edge(20, "by a FORCE that is no more than his STRENGTH now",
            "laid(s10,20;p20,10,30;k0,0,0;a5,9;) best(0,false,0)=1", "laid(s10,20;p20,10,30;k0,0,0;a4,9;) best(0,false,0)=2",
            "laid(s10,20;p20,10,30;k0,0,0;a3,9;) best(0,false,0)=2", "laid(s10,20;p20,10,30;k0,0,0;a2,9;) best(0,false,0)=5",
            "laid(s10,20;p20,10,30;k0,0,0;a1,9;) best(0,false,0)=NONE");
    }

    private static void firstManner() {
        EDGES.edge(20, "the lowest MANNER in which the first STEP is gone in one of so little",
            "laid(" + STEEP + "a13,1;) best(0,false,0)=7 best(0,false,1)=0 best(2,false,0)=0 best(2,false,1)=1",
            "laid(" + STEEP + "a13,2;) best(0,false,0)=7 best(0,false,1)=1 best(1,false,0)=68 best(1,false,1)=0 best(3,false,0)=60 best(3,false,1)=0",
            "laid(" + STEEP + "a14,2;) best(0,false,0)=6 best(0,false,1)=0 best(2,false,1)=0", "laid(s30,20;) best(2,false,0)=0 best(2,false,1)=2 best(3,false,0)=60",
            "laid(s15,20;) best(2,false,0)=0 best(2,false,1)=1", "laid(s10,20;p20,10,30;) best(1,true,0)=15 best(1,true,1)=1 best(0,true,1)=0");
    }

    private static void best() {
        EDGES.edge(20, "NONE; BAD (kind 0 to 3).",
            "best(-1,false,0)=BAD best(4,false,0)=BAD best(0,false,-1)=BAD best(0,true,2)=BAD best(3,true,2)=BAD",
            "best(MIN,false,0)=BAD best(MAX,true,0)=BAD best(0,false,MIN)=BAD best(0,false,MAX)=BAD",
            "laid(" + TWO + "k0,0,0;a1,9;) best(0,false,0)=NONE best(1,false,0)=NONE best(2,false,0)=NONE best(3,false,0)=NONE best(0,false,1)=NONE best(3,true,1)=NONE",
            "laid(" + TWO + "k0,0,0;a2,9;) best(0,false,0)=19 best(0,true,0)=NONE best(0,true,1)=NONE", "laid(s1,20;s30,10;a11,9;) best(0,false,0)=NONE best(2,true,0)=NONE",
            "laid(" + TWELVE + "a1,99;) best(0,true,0)=NONE best(1,true,1)=NONE",
            "laid(s1,20;p10,1,30;k0,99,99;a1,99;) best(0,false,0)=1 bags(39)=0 best(0,false,0)=5 bags(40)=39 best(0,false,0)=NONE best(1,false,1)=NONE");
        EDGES.edge(20, "Of several the first", "laid(" + TWO + "k0,0,0;a1,9;) best(0,false,0)=NONE best(4,false,0)=BAD best(-1,true,1)=BAD best(0,false,2)=BAD");
    }

    private static void asleep() {
        EDGES.edge(21, "the fewest beats of such a way by which the CHILD does not WAKE; none.",
            "laid(" + TWO + "k0,10,2;a5,50;) asleep(false)=52 best(0,false,0)=3", "laid(" + TWO + "k0,9,2;a5,50;) asleep(false)=NONE",
            "laid(" + TWO + "k0,10,1;a5,50;) asleep(false)=NONE", "laid(" + TWO + "k0,15,2;a5,50;) asleep(false)=52", "laid(" + TWO + "k0,15,3;a5,50;) asleep(false)=3",
            "laid(" + TWO + "k0,15,3;a5,50;) asleep(true)=54", "laid(" + TWO + "k0,15,2;a5,50;) asleep(true)=NONE", "laid(" + TWO + "k0,14,99;a5,50;) asleep(true)=NONE");
        EDGES.edge(21, "ASLEEP. NONE.", "laid(s1,20;k0,0,99;) asleep(false)=NONE asleep(true)=NONE", "laid(s1,20;k0,99,0;) asleep(false)=NONE asleep(true)=NONE",
            "laid(s1,20;k0,1,1;) asleep(false)=1 asleep(true)=NONE", "laid(s1,20;k0,2,1;) asleep(true)=1",
            "laid(" + TWO + "k0,99,99;a99,50;) asleep(false)=2 asleep(true)=2", "laid(" + TWO + "k0,99,99;a1,50;) asleep(false)=NONE", "laid(" + TWELVE + "a1,99;) asleep(false)=1101 asleep(true)=NONE",
            "laid(" + TWO + "k0,19,99;) go(2)=1 stands(5)=1 asleep(false)=2 asleep(true)=4");
        EDGES.edge(21, "wakes by a BUMP above S (0 to 99), or by BUMPS that are together above Z times 10 (0 to 99)",
            "laid(" + "s20,10;".repeat(12) + "p40,40,99;k40,40,48;a10,3;) asleep(false)=93", "laid(" + "s20,10;".repeat(12) + "p40,40,99;k40,40,47;a10,3;) asleep(false)=NONE",
            "laid(" + "s20,10;".repeat(12) + "p40,40,99;k40,39,48;a10,3;) asleep(false)=NONE", "laid(" + "s30,10;".repeat(12) + "p40,1,1;k0,60,72;a40,3;) asleep(false)=24",
            "laid(" + "s30,10;".repeat(12) + "p29,1,1;k0,60,72;a40,3;) asleep(false)=60", "laid(" + "s30,10;".repeat(12) + "p29,1,1;k0,60,71;a40,3;) asleep(false)=NONE",
            "laid(" + "s30,10;".repeat(12) + "p29,1,1;k0,59,72;a40,3;) asleep(false)=NONE");
    }

    private static void bears() {
        EDGES.edge(22, "who is below bears LOAD times D and H together by 2 times D, cut up, LOAD at most; who is above the rest of LOAD",
            "laid(s30,10;h60,0;a30,9;) ends(0,0)=0 ends(0,1)=50", "laid(s20,20;h60,0;a30,9;) ends(0,1)=50", "laid(s19,20;h60,0;a1,9;) ends(0,1)=50",
            "laid(s19,20;h60,0;b10;a1,9;) ends(0,1)=100", "laid(s18,20;h60,0;a1,9;) ends(0,1)=100", "laid(s17,20;h60,0;a1,9;) ends(0,1)=NONE",
            "laid(s1,60;h20,0;a14,9;) ends(0,0)=0 ends(0,1)=100", "laid(s1,60;p20,1,30;k0,0,0;h1,0;a1,9;) ends(0,0)=0 ends(0,1)=100");
        EDGES.edge(22, "STRAIN of one on a STEP is what he bears times 100 by his STRENGTH (of ONE: A), cut up.",
            "laid(s15,30;h40,0;a40,9;) ends(0,1)=58", "laid(s15,30;h46,0;a40,9;) ends(0,1)=50", "laid(s15,30;h99,0;a40,9;) ends(0,1)=24",
            "laid(s15,30;h20,0;a40,9;) go(2)=1 ends(0,1)=58 start(true)=1 ends(0,1)=58");
    }

    private static void ends() {
        EDGES.edge(22, "he below, or he above, by which the greatest STRAIN of both on all STEPS is less (below, if alike)",
            "laid(s15,30;h40,0;h39,0;h41,0;a40,9;) ends(0,0)=0 ends(1,0)=1 ends(2,0)=0", "laid(s20,20;s1,60;h60,0;a20,9;) ends(0,0)=0 ends(0,1)=70",
            "laid(s1,60;s20,20;h60,0;a20,9;) ends(0,0)=0 ends(0,1)=70", "laid(s20,20;h60,0;a20,9;) ends(0,0)=0 ends(0,1)=50");
        EDGES.edge(22, "none (above 100)", "laid(s30,10;p20,59,30;k40,0,0;h99,0;a1,9;) ends(0,0)=0 ends(0,1)=100",
            "laid(s30,10;p20,60,30;k40,0,0;h99,0;a99,9;) ends(0,0)=NONE ends(0,1)=NONE", "laid(s30,10;p20,59,30;k40,0,0;h1,0;a99,9;) ends(0,0)=1 ends(0,1)=100",
            "laid(s15,30;h23,0;a7,9;) ends(0,0)=0 ends(0,1)=100", "laid(s15,30;h22,0;a7,9;) ends(0,0)=NONE ends(0,1)=NONE",
            "laid(s15,30;h23,0;a7,9;) bags(1)=0 ends(0,1)=NONE bags(0)=1 ends(0,1)=100");
        EDGES.edge(22, "NONE; BAD.", "ends(0,0)=BAD ends(0,1)=BAD", "laid(s15,30;h9,0;h9,0;) ends(-1,0)=BAD ends(2,0)=BAD ends(0,-1)=BAD ends(1,2)=BAD ends(1,1)=78",
            "laid(s15,30;h9,0;) ends(MIN,0)=BAD ends(MAX,1)=BAD ends(0,MIN)=BAD ends(0,MAX)=BAD", "laid(s15,30;h1,0;a1,1;) ends(0,0)=NONE ends(0,2)=BAD ends(0,-1)=BAD ends(1,0)=BAD",
            "laid(s15,30;h9,0;h9,0;h9,0;h9,0;) ends(3,0)=1 ends(4,0)=BAD");
    }

    private static void mate() {
        EDGES.edge(23, "MATE: the HELPER by whom that is least, the lowest; none.", "laid(s15,30;h40,0;h40,0;h40,0;h40,0;) mate()=0",
            "laid(s15,30;h5,0;h40,0;h20,0;h40,0;) mate()=1", "laid(s15,30;h1,0;h1,0;h1,0;h40,0;) mate()=3", "laid(s15,30;h46,0;h40,0;h47,0;h1,0;) mate()=2");
        EDGES.edge(23, "MATE. NONE.", "mate()=NONE", "laid(s15,30;h40,0;h1,0;a5,9;) mate()=NONE", "laid(s15,30;h22,0;a7,9;) mate()=NONE", "laid(s15,30;h22,0;h23,0;a7,9;) mate()=1",
            "laid(s15,30;h23,0;a7,9;) mate()=0 bags(1)=0 mate()=NONE");
    }

    private static void time() {
        String twelve = "laid(" + "s1,20;".repeat(12);
        EDGES.edge(24, "the chance that a HELPER lifts out of time on no STEP, in lowest terms", "laid(s1,20;h9,0;h9,10;h9,5;h9,2;) time(0,0)=1 time(0,1)=1 time(1,0)=0 time(1,1)=1 "
            + "time(2,0)=1 time(2,1)=2 time(3,0)=4 time(3,1)=5", twelve + "h9,0;h9,10;h9,5;h9,8;) time(0,0)=1 time(0,1)=1 time(1,0)=0 time(1,1)=1 time(2,0)=1 time(2,1)=4096 "
            + "time(3,0)=1 time(3,1)=244140625", twelve + "h9,1;h9,9;h9,6;h9,3;) time(0,0)=282429536481 time(0,1)=1000000000000 time(1,0)=1 time(1,1)=1000000000000 "
            + "time(2,0)=4096 time(2,1)=244140625 time(3,0)=13841287201 time(3,1)=1000000000000", "laid(s1,20;s1,20;h9,4;h9,7;) time(0,0)=9 time(0,1)=25 time(1,0)=9 time(1,1)=100");
        EDGES.edge(24, "BAD.", "time(0,0)=BAD time(0,1)=BAD", "laid(s1,20;h9,0;h9,1;) time(-1,0)=BAD time(2,0)=BAD time(0,-1)=BAD time(1,2)=BAD time(1,1)=10",
            "laid(s1,20;h9,0;) time(MIN,0)=BAD time(MAX,1)=BAD time(0,MIN)=BAD time(0,MAX)=BAD", "laid(s1,20;h9,0;h9,0;h9,0;h9,5;) time(3,1)=2 time(4,1)=BAD");
    }
}
