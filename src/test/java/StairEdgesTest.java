/** The boundary sentences of promises 11 to 19: step by step, undone, a told row judged. */
public final class StairEdgesTest {
    private static final Edges EDGES = new Edges("StairEdgesTest");
    /** LOAD 10, WHEELS 20: FORCES of 5, 3, 2 on both STEPS; down 8, 5, 3. */
    private static final String TWO = "s10,20;s9,20;p20,10,30;k0,99,99;";
    /** Twelve STEPS of FORCE 1 in every MANNER up, 2 down. */
    private static final String TWELVE = "laid(" + "s1,20;".repeat(12) + "p20,1,30;k0,99,99;) ";

    public static void main(String[] args) {
        start();
        wheels();
        cutUp();
        handle();
        force();
        strength();
        go();
        rest();
        undo();
        stands();
        wakes();
        tell();
        noRow();
        judge();
        EDGES.end(11, 19);
    }

    private static void start() {
        String busy = "laid(s10,20;s9,20;p20,10,30;k0,0,0;a5,7;t1;) go(0) rest() go(1) tell(1) tell(3) keep() lift(0,true) bags(1) rest() ";
        EDGES.edge(11, "At its beginning, up or down, with STRENGTH A, no beats, no BUMPS, asleep; no told row, nothing UNDONE: how many STEPS.",
            busy + "start(true)=2 stands(0)=0 stands(1)=1 stands(2)=5 stands(3)=0 stands(4)=0 stands(5)=0 count(5)=0 count(6)=0",
            busy + "start(false)=2 stands(0)=0 stands(1)=0 stands(2)=5 stands(3)=0 stands(4)=0 stands(5)=0 count(5)=0 count(6)=0",
            busy + "start(true)=2 undo()=NO noRow()=0 judge()=NONE rest()=NO count(7)=1 count(4)=1 pram(3)=1 back()=0 stands(0)=2",
            "start(true)=3 start(true)=3 stands(1)=1 start(false)=3 stands(1)=0", "laid(s5,10;) start(true)=1 start(false)=1", TWELVE + "start(true)=12");
    }

    // ---- FORCE, BUMP and beats

    private static void wheels() {
        String small = "laid(s1,10;s2,10;s3,10;s4,10;p3,1,99;k0,0,0;) ";
        String odd = "laid(s10,10;s11,10;s21,10;s22,10;p21,1,99;k0,0,0;) ";
        String great = "laid(s20,10;s21,10;s30,10;p40,1,99;k0,0,0;) ";
        EDGES.edge(12, "0 FORWARD, if W is 2 times H or more",
            small + "force(0,0,false,0)=1 force(1,0,false,0)=NO force(1,0,true,0)=NO force(1,0,false,1)=NO force(1,0,false,2)=NO go(0)=1 go(0)=NO",
            odd + "force(0,0,false,0)=1 force(0,0,true,0)=2 force(1,0,false,0)=NO force(1,0,true,2)=NO",
            great + "force(0,0,false,0)=1 force(1,0,false,0)=NO force(2,0,true,0)=NO");
        EDGES.edge(12, "1 BACKWARD, if W is H or more",
            small + "force(1,1,false,0)=1 force(2,1,false,0)=1 force(3,1,false,0)=NO force(3,1,true,1)=NO force(3,1,false,2)=NO",
            odd + "force(2,1,false,0)=1 force(3,1,false,0)=NO force(3,1,true,0)=NO", great + "force(2,1,false,0)=1",
            "laid(s29,10;s30,10;p29,1,99;k0,0,0;) force(0,1,true,0)=2 force(1,1,true,0)=NO go(1)=1 go(1)=NO go(2)=2");
        EDGES.edge(12, "2 by WHEELS: by LOAD times H by 4 times W, a BUMP of 2 times H, in 5 beats",
            small + "force(3,2,false,0)=1 force(3,2,false,1)=8 force(3,2,false,2)=5",
            "laid(s30,10;p3,60,1;b40;k40,0,0;a1,1;) force(0,2,false,0)=350 force(0,2,true,0)=525 force(0,2,true,1)=60 force(0,2,false,2)=5 go(2)=NO");
    }

    private static void cutUp() {
        EDGES.edge(12, "all that is parted cut up",
            "laid(s10,20;p20,8,30;k0,0,0;) force(0,0,false,0)=4 force(0,1,false,0)=2 force(0,2,false,0)=1",
            "laid(s10,20;p20,9,30;k0,0,0;) force(0,0,false,0)=5 force(0,1,false,0)=3 force(0,2,false,0)=2",
            "laid(s1,20;p40,1,30;k0,0,0;) force(0,0,false,0)=1 force(0,1,false,0)=1 force(0,2,false,0)=1",
            "laid(s1,20;s9,20;s10,20;) force(0,1,false,1)=2 force(1,1,false,1)=14 force(2,1,false,1)=15");
        EDGES.edge(12, "Down the FORCE is more by its half, cut up, the BUMP of FORWARD 2 times H.",
            "laid(s10,20;p20,8,30;k0,0,0;) force(0,0,true,0)=6 force(0,1,true,0)=3 force(0,2,true,0)=2",
            "laid(s10,20;p20,9,30;k0,0,0;) force(0,0,true,0)=8 force(0,1,true,0)=5 force(0,2,true,0)=3",
            "laid(s10,20;) force(0,0,false,1)=10 force(0,0,true,1)=20 force(0,1,true,1)=15 force(0,2,true,1)=20",
            "laid(s10,20;) force(0,0,true,2)=1 force(0,1,true,2)=2 force(0,2,true,2)=5");
    }

    private static void handle() {
        EDGES.edge(12, "FORWARD, BACKWARD can not be by a FORCE above F: the handle folds.",
            "laid(s10,20;p20,10,5;k0,0,0;) force(0,0,false,0)=5 force(0,0,true,0)=NO force(0,1,true,0)=5",
            "laid(s10,20;p20,10,4;k0,0,0;) force(0,0,false,0)=NO force(0,0,false,1)=NO force(0,0,false,2)=NO force(0,1,true,0)=NO go(0)=NO",
            "laid(s10,20;p20,10,3;k0,0,0;) force(0,1,false,0)=3", "laid(s10,20;p20,10,2;k0,0,0;) force(0,1,false,0)=NO go(1)=NO go(2)=1",
            "laid(s10,20;p20,10,8;k0,0,0;) force(0,0,true,0)=8", "laid(s10,20;p20,10,7;k0,0,0;) force(0,0,true,0)=NO start(true) go(0)=NO go(1)=1",
            "laid(s10,20;p20,10,1;k0,0,0;) force(0,2,false,0)=2 force(0,2,true,0)=3",
            "laid(s10,20;p10,60,99;b40;k32,0,0;) force(0,1,true,0)=99 bags(39)=40 force(0,1,true,0)=99",
            "laid(s10,20;p10,60,99;b40;k33,0,0;) force(0,1,true,0)=NO force(0,1,false,0)=67 bags(39)=40 force(0,1,true,0)=99");
    }

    private static void force() {
        EDGES.edge(12, "NO: it can not be (whatever STRENGTH).",
            "laid(" + TWO + "a1,7;) force(0,0,false,0)=5 force(0,0,true,0)=8 force(1,2,false,0)=2 go(2)=NO",
            "laid(" + TWO + "a5,7;) go(0)=1 force(1,0,false,0)=5 go(0)=NO force(0,0,false,0)=5",
            "force(0,0,false,0)=NO force(0,0,false,1)=NO force(0,0,true,2)=NO force(2,0,true,0)=NO");
        EDGES.edge(12, "Of a STEP in a MANNER: FORCE (what = 0), BUMP (1), beats (2), up or down. BAD;",
            "force(-1,2,false,0)=BAD force(3,2,false,0)=BAD force(0,-1,false,0)=BAD force(0,3,true,0)=BAD force(0,2,false,-1)=BAD force(0,2,true,3)=BAD",
            "force(MIN,2,false,0)=BAD force(MAX,2,false,0)=BAD force(0,MIN,false,0)=BAD force(0,MAX,true,0)=BAD force(0,2,true,MIN)=BAD force(0,2,true,MAX)=BAD",
            TWELVE + "force(11,0,true,0)=2 force(12,0,true,0)=BAD");
        EDGES.edge(12, "Of several the first", "force(0,0,false,0)=NO force(0,0,false,3)=BAD force(0,0,false,-1)=BAD force(3,0,false,0)=BAD force(-1,0,true,0)=BAD");
    }

    // ---- go, rest, undo

    private static void strength() {
        EDGES.edge(13, "by a FORCE that is no more than his STRENGTH now",
            "laid(" + TWO + "a5,7;) go(0)=1 stands(2)=4 go(0)=NO go(1)=2", "laid(" + TWO + "a4,7;) go(0)=NO go(1)=1 stands(2)=3 go(1)=2 stands(2)=2",
            "laid(" + TWO + "a2,7;) go(0)=NO go(1)=NO go(2)=1 stands(2)=1 go(2)=NO", "laid(" + TWO + "a1,7;) go(0)=NO go(1)=NO go(2)=NO stands(0)=0",
            "laid(" + TWO + "a7,7;) start(true)=2 go(0)=NO go(1)=1", "laid(" + TWO + "a8,7;) start(true)=2 go(0)=1 stands(2)=7 go(0)=NO",
            "laid(s1,20;s1,20;p40,1,30;k0,99,99;a1,9;) go(0)=1 stands(2)=0 go(0)=NO go(1)=NO go(2)=NO rest()=1 go(0)=2 stands(2)=0");
        EDGES.edge(13, "which is less then by FORCE by 8, cut up",
            "laid(s1,20;p3,3,99;k0,99,99;) go(0)=1 stands(2)=39", "laid(s1,20;p3,24,99;k0,99,99;) go(0)=1 stands(2)=39",
            "laid(s1,20;p3,25,99;k0,99,99;) go(0)=1 stands(2)=38", "laid(s1,20;p3,48,99;k0,99,99;) go(0)=1 stands(2)=38",
            "laid(s1,20;p3,49,99;k0,99,99;) go(0)=1 stands(2)=37");
    }

    private static void go() {
        EDGES.edge(13, "from its first STEP to its last one, up (from STEP 0) or down (from the highest)",
            "laid(s10,20;s2,20;) go(0)=1 stands(4)=10 go(0)=2 stands(4)=12", "laid(s10,20;s2,20;) start(true)=2 go(0)=1 stands(4)=4 go(0)=2 stands(4)=24",
            "laid(s7,20;) go(0)=1 stands(4)=7 start(true)=1 go(0)=1 stands(4)=14");
        EDGES.edge(13, "The next STEP is gone in a MANNER (0 to 2): how many are gone. BAD;",
            "go(-1)=BAD go(3)=BAD go(MIN)=BAD go(MAX)=BAD stands(0)=0", "go(1)=1 tell(2)=1 keep()=1 go(3)=BAD go(-1)=BAD count(6)=1");
        EDGES.edge(13, "NO: he CAN not; there is none.",
            "go(0)=NO go(1)=1 go(0)=NO go(1)=2 go(1)=3 go(0)=NO go(1)=NO go(2)=NO stands(0)=3 count(6)=3",
            "laid(s7,20;) go(2)=1 go(0)=NO go(1)=NO go(2)=NO rest()=40 go(2)=NO undo()=1 undo()=0 go(0)=1",
            TWELVE + twelve() + "go(0)=NO go(1)=NO go(2)=NO stands(0)=12 stands(2)=28 stands(3)=12 stands(4)=12",
            TWELVE + "start(true)=12 " + twelve() + "go(0)=NO go(2)=NO stands(0)=12 stands(2)=28 stands(4)=24");
        EDGES.edge(13, "Of several the first; nothing changes then.", TWELVE + twelve() + "go(3)=BAD go(2)=NO go(-1)=BAD");
    }

    private static String twelve() {
        StringBuilder all = new StringBuilder();
        for (int gone = 1; gone <= 12; gone++) {
            all.append("go(0)=").append(gone).append(' ');
        }
        return all.toString();
    }

    private static void rest() {
        EDGES.edge(14, "By a REST, if it is less than A, it is A again, R beats later.",
            "laid(" + TWO + "a5,1;) go(0)=1 stands(2)=4 rest()=5 stands(2)=5 stands(3)=2 stands(4)=10 stands(0)=1",
            "laid(" + TWO + "a5,99;) go(2)=1 rest()=5 stands(3)=104 go(2)=2 rest()=5 stands(3)=208",
            "laid(s1,20;p40,1,30;k0,99,99;a1,9;) go(0)=1 stands(2)=0 rest()=1 stands(2)=1 stands(3)=10",
            "laid(s20,20;p40,60,99;b40;k40,99,99;a99,9;) go(0)=1 stands(2)=90 rest()=99 stands(3)=10");
        EDGES.edge(14, "NO: it is A.", "rest()=NO", "go(1)=1 rest()=40 rest()=NO stands(3)=22", "go(1)=1 undo()=0 rest()=NO", "go(1)=1 start(false)=3 rest()=NO",
            "keep()=1 go(1)=1 back()=0 rest()=NO", "go(2)=1 go(2)=2 go(2)=3 rest()=40 rest()=NO");
    }

    private static void undo() {
        EDGES.edge(15, "UNDONE is the latest go(), rest() (the last 8 can be).",
            TWELVE + "go(0) go(1) go(2) go(0) go(1) go(2) go(0) go(1)=8 count(6)=8 undo()=7 undo()=6 undo()=5 undo()=4 undo()=3 undo()=2 undo()=1 stands(0)=1 undo()=0 "
                + "stands(0)=0 stands(2)=40 stands(3)=0 stands(4)=0 undo()=NO",
            TWELVE + "go(0) go(1) go(2) go(0) go(1) go(2) go(0) go(1) go(2)=9 count(6)=8 undo()=7 undo()=6 undo()=5 undo()=4 undo()=3 undo()=2 undo()=1 undo()=0 "
                + "stands(0)=1 stands(2)=39 stands(3)=1 stands(4)=1 undo()=NO",
            TWELVE + "go(0) rest() go(1) rest() go(2) rest() go(0) rest() go(1) rest() go(2) rest() count(6)=8 " + "undo() ".repeat(8) + "stands(0)=2 stands(2)=40 stands(3)=43 undo()=NO",
            TWELVE + twelve() + "undo() ".repeat(8) + "stands(0)=4 go(2) go(2) go(2) go(2) go(2) go(2) go(2) go(2)=12 count(6)=8 undo()=7 stands(0)=11");
        EDGES.edge(15, "UNDONE: how many more can be.", "go(1)=1 rest()=40 go(1)=2 undo()=2 stands(0)=1 stands(2)=40 stands(3)=22 undo()=1 stands(2)=38 stands(3)=2 undo()=0 stands(0)=0");
        EDGES.edge(15, "NO.", "undo()=NO", "go(0)=NO rest()=NO go(3)=BAD undo()=NO", "go(1)=1 go(3)=BAD go(0)=NO undo()=0 undo()=NO", "tell(1)=1 keep()=1 lift(0,true)=BAD undo()=NO count(5)=1");
    }

    // ---- how it stands, and whether he wakes

    private static void stands() {
        EDGES.edge(16, "How it stands: STEPS gone (what = 0), 1 if down (1), STRENGTH (2), beats (3), BUMPS (4), 1 if AWAKE (5).",
            "stands(0)=0 stands(1)=0 stands(2)=40 stands(3)=0 stands(4)=0 stands(5)=0",
            "start(true) go(1) go(1) go(1)=3 stands(0)=3 stands(1)=1 stands(2)=31 stands(3)=6 stands(4)=76 stands(5)=0",
            "laid(" + "s30,10;".repeat(12) + "p40,1,1;k0,0,0;a1,99;) " + "go(2) rest() ".repeat(12) + "stands(0)=12 stands(2)=1 stands(3)=1248 stands(4)=720 stands(5)=1");
        EDGES.edge(16, "BAD.", "stands(-1)=BAD stands(6)=BAD stands(MIN)=BAD stands(MAX)=BAD");
    }

    private static void wakes() {
        EDGES.edge(16, "wakes by a BUMP above S (0 to 99)",
            "laid(s10,20;k0,20,99;) go(2)=1 stands(5)=0", "laid(s10,20;k0,19,99;) go(2)=1 stands(5)=1", "laid(s10,20;k0,15,99;) go(1)=1 stands(5)=0",
            "laid(s10,20;k0,14,99;) go(1)=1 stands(5)=1", "laid(s10,20;k0,10,99;) go(0)=1 stands(5)=0", "laid(s10,20;k0,9,99;) go(0)=1 stands(5)=1",
            "laid(s10,20;k0,19,99;) start(true) go(0)=1 stands(5)=1", "laid(s10,20;k0,20,99;) start(true) go(0)=1 stands(5)=0",
            "laid(s1,20;k0,0,99;) go(0)=1 stands(5)=1", "laid(s1,20;k40,0,99;) stands(5)=0", "laid(s30,20;k0,60,99;) go(2)=1 stands(5)=0",
            "laid(s30,20;k0,59,99;) go(2)=1 stands(5)=1");
        EDGES.edge(16, "or by BUMPS that are together above Z times 10 (0 to 99)",
            "laid(s10,20;s10,20;s1,20;k0,99,2;) go(0) go(0)=2 stands(4)=20 stands(5)=0 go(0)=3 stands(5)=1", "laid(s1,20;k0,99,0;) stands(5)=0 go(0)=1 stands(5)=1",
            "laid(s10,20;s10,20;k0,99,1;) go(0)=1 stands(5)=0 go(0)=2 stands(5)=1",
            "laid(" + "s30,10;".repeat(12) + "p40,1,1;k0,99,72;) " + "go(2) ".repeat(12) + "stands(4)=720 stands(5)=0",
            "laid(" + "s30,10;".repeat(12) + "p40,1,1;k0,99,71;) " + "go(2) ".repeat(11) + "stands(4)=660 stands(5)=0 go(2)=12 stands(4)=720 stands(5)=1");
        EDGES.edge(16, "The CHILD WAKES with the first BUMP by which it is so, and is AWAKE from then on.",
            "laid(s10,20;s1,20;s1,20;k0,15,99;) go(2)=1 stands(5)=1 go(0)=2 stands(5)=1 rest()=40 stands(5)=1 go(0)=3 stands(5)=1",
            "laid(s1,20;s10,20;s1,20;k0,15,99;) go(0)=1 stands(5)=0 go(2)=2 stands(5)=1 undo()=1 stands(5)=0 go(0)=2 stands(5)=0",
            "laid(s10,20;s1,20;k0,15,99;) go(2)=1 keep()=1 start(false)=2 stands(5)=0 back()=0 stands(5)=1");
    }

    // ---- a told row

    private static void tell() {
        String nineteen = "tell(0) tell(1) tell(2) tell(3) ".repeat(4) + "tell(0) tell(1) tell(2)=19 ";
        EDGES.edge(17, "A told row (20 at most) of MANNERS and RESTS (3)", nineteen + "tell(3)=20 tell(3)=FULL tell(0)=FULL tell(2)=FULL count(5)=20",
            TWELVE + "tell(0) tell(3) ".repeat(7) + "tell(0) tell(0) tell(0) tell(0) tell(0) tell(0)=20 judge()=19 tell(3)=FULL judge()=19");
        EDGES.edge(17, "A MANNER (0 to 2), a REST (3) more in the told row: how many.", "tell(0)=1 tell(1)=2 tell(2)=3 tell(3)=4 count(5)=4");
        EDGES.edge(17, "BAD; FULL.", "tell(-1)=BAD tell(4)=BAD tell(MIN)=BAD tell(MAX)=BAD count(5)=0", "tell(1)=1 tell(4)=BAD tell(-1)=BAD tell(3)=2",
            nineteen + "tell(3)=20 tell(4)=BAD tell(3)=FULL tell(-1)=BAD tell(0)=FULL noRow()=20 tell(0)=1");
    }

    private static void noRow() {
        EDGES.edge(18, "No told row: how many it had.", "noRow()=0 count(5)=0", "tell(3)=1 noRow()=1 count(5)=0 noRow()=0 judge()=NONE tell(1)=1 judge()=NONE",
            "tell(3) ".repeat(20) + "noRow()=20 noRow()=0 tell(3)=1", "go(1)=1 keep()=1 tell(3)=1 noRow()=1 count(6)=1 count(7)=1 stands(0)=1");
    }

    private static void judge() {
        EDGES.edge(19, "JUDGED. NONE.", "judge()=NONE", "tell(1)=1 judge()=NONE", TWELVE + "tell(0) tell(3) ".repeat(8) + "tell(0) tell(0) tell(0) tell(0)=20 judge()=NONE",
            "go(1) go(1) go(1) judge()=NONE tell(3)=1 judge()=NONE");
        EDGES.edge(19, "each done as it comes, from now on: the place of the first that can not be; none.",
            "tell(3)=1 judge()=0", "tell(0)=1 judge()=0", "tell(1)=1 tell(0)=2 tell(3)=3 judge()=1", "tell(1)=1 tell(3)=2 tell(3)=3 judge()=2",
            TWELVE + "tell(0) tell(3) ".repeat(7) + "tell(0) tell(0) tell(0) tell(0) tell(0) judge()=NONE tell(0)=20 judge()=19 go(0)=1 judge()=18",
            "laid(" + TWO + "a5,7;) tell(0) tell(0) judge()=1 noRow() tell(0) tell(1) judge()=NONE tell(2) judge()=2 go(1) judge()=0 rest() judge()=1",
            "go(1) go(1) go(1) tell(2)=1 judge()=0 stands(0)=3 undo()=2 judge()=NONE", "laid(" + TWO + "a7,7;) start(true) tell(0) judge()=0");
    }
}
