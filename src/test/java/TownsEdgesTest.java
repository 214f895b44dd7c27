import java.util.ArrayList;
import java.util.List;

/** The boundary sentences of promises 1 to 10: a new object, THE TEXT, FAULT, and what is LAID. */
public final class TownsEdgesTest {
    private static final Edges EDGES = new Edges("TownsEdgesTest");
    /** Much has been done behind it: a way gone, a told row, one KEPT, BAGS and LIFTS changed. */
    private static final String BUSY = "laid(s10,20;s9,20;s8,20;b9;t5;t6;t7;e0,1,9;i1;h1,1;n4,4;a33,9;m7;k1,0,0;) start(true) go(2) keep() "
        + "bags(11) lift(0,true) lift(1,false) go(2) rest() tell(1) tell(3) ";

    public static void main(String[] args) {
        newObject();
        write();
        wipe();
        formOfItems();
        boundsOfItems();
        howMany();
        stationsToldAhead();
        placeOfFault();
        lay();
        step();
        pram();
        pramWithout();
        helpersAndPassers();
        station();
        EDGES.end(1, 10);
    }

    private static void newObject() {
        EDGES.edge(1, "at first s15,30;s15,30;s20,25;",
            "count(0)=3 step(0,0)=15 step(0,1)=30 step(1,0)=15 step(1,1)=30 step(2,0)=20 step(2,1)=25 step(3,0)=BAD step(3,1)=BAD");
        EDGES.edge(1, "As told.",
            "count(1)=0 count(2)=0 count(3)=0 count(4)=0 count(5)=0 count(6)=0 count(7)=0 count(8)=0",
            "stands(0)=0 stands(1)=0 stands(2)=40 stands(3)=0 stands(4)=0 stands(5)=0",
            "wipe()=0 noRow()=0 undo()=NO back()=NO judge()=NONE rest()=NO fault()=NONE lay()=NO",
            "passers(0)=0 passers(23)=0 helper(0,0)=BAD station(0,0)=BAD mate()=NONE missed()=NONE free()=0");
        EDGES.edge(1, "An object is used for at most 512 calls after it has been made",
            "go(1)=1 undo()=0 ".repeat(255) + "keep()=1 back()=0",
            "keep()=1 back()=0 ".repeat(255) + "rest()=NO go(2)=1",
            "text(" + "b1;".repeat(64) + "s1,10;) " + "lay()=1 ".repeat(313) + "lay()=1");
    }

    private static void write() {
        String full = "text(" + "b1;".repeat(66) + "b1) ";
        EDGES.edge(2, "A letter (32 to 126, as in ASCII) comes behind THE TEXT: how long it is.",
            "write(32)=1 write(126)=2 write(33)=3 write(125)=4 count(8)=4",
            "text(s1,10) fault()=0 write(59)=6 fault()=NONE lay()=1");
        EDGES.edge(2, "BAD; FULL.",
            "write(31)=BAD write(127)=BAD write(0)=BAD write(-1)=BAD write(-33)=BAD write(128)=BAD write(MIN)=BAD write(MAX)=BAD count(8)=0",
            "text(s1,10) write(315)=BAD write(-197)=BAD write(65595)=BAD fault()=0 count(8)=5",
            full + "write(31)=BAD write(32)=FULL write(126)=FULL write(127)=BAD write(59)=FULL");
        EDGES.edge(2, "A TEXT is letters (200 at most)",
            "text(" + "b1;".repeat(66) + ") write(98)=199 write(49)=200 write(59)=FULL count(8)=200 fault()=198 lay()=NO",
            "text(" + "b1;".repeat(62) + "s10,10;s11,10) write(59)=200 fault()=NONE lay()=2 write(98)=FULL write(49)=FULL fault()=NONE lay()=2 step(1,0)=11",
            full + "wipe()=200 count(8)=0 write(115)=1");
    }

    private static void wipe() {
        EDGES.edge(3, "THE TEXT is empty: how long it was.",
            "wipe()=0 count(8)=0 fault()=NONE",
            "write(115)=1 wipe()=1 wipe()=0 write(115)=1",
            "text(" + "b1;".repeat(66) + "b1) wipe()=200 wipe()=0 count(8)=0",
            "text(s1,10) wipe()=5 write(59)=1 fault()=0", "text(s1,10;) wipe()=6 text(s1,10) fault()=0 lay()=NO", "text(s1,10;s2,11;) wipe()=12 text(s1,10;s2,11) fault()=6",
            "laid(s1,10;s2,11;) wipe()=12 count(8)=0 fault()=NONE lay()=NO count(0)=2 step(1,0)=2 step(1,1)=11",
            BUSY + "wipe()=67 count(5)=2 count(6)=2 count(7)=1 stands(0)=2 pram(3)=11 lay()=NO");
    }

    // ---- FAULT

    private static void items(String words, String ahead, String good, String wrong) {
        List<String> runs = new ArrayList<>();
        for (String item : good.split(" ")) {
            runs.add("text(" + ahead + item + ") fault()=NONE");
            runs.add("text(" + ahead + "s1,10;" + item + ") fault()=NONE lay()=" + (item.startsWith("s") ? 2 : 1));
        }
        for (String item : wrong.split(" ")) {
            runs.add("text(" + ahead + item + ") fault()=" + ahead.length());
            runs.add("text(" + ahead + "s1,10;" + item + ") fault()=" + (ahead.length() + 6) + " lay()=NO");
            runs.add("text(" + ahead + "s1,10;" + item + "b7;) fault()=" + (ahead.length() + 6) + " lay()=NO");
        }
        EDGES.edge(4, words, runs.toArray(new String[0]));
    }

    private static void formOfItems() {
        items("numbers (one or two figures)", "", "b0; b9; b00; b09; b10; s01,10; k00,00,00; p03,01,01;",
            "b; b;; b:; b/; b<; b@; bA; b1:; b1/; s;,10; s:,10; s1,:; b001; b000; b010; b100; b-1; b+1; b1.; bb; s,10; s1,; s,; s001,10; s1,010; s1,100; k,0,0; k0,,0; k0,0,; k0,0,100;");
        items("parted by , and a ; behind the last one", "", "s1,10; p3,1,1; b1;",
            "s1.10; s1;10; s1,,10; s,1,10; s110; s1:10; s1/10; s1,10, s1,10,; s1,10: s1,10. b1, b1,; p3,1;1; p3;1,1; k1,2,3,");
        items("each a letter, then numbers", "", "s1,10; p3,1,1; b1; k1,1,1; a1,1; h1,0; n0,0; q0,0; m1; t1;",
            "s1; s1,10,10; p3,1; p3,1,1,1; b1,1; k1,1; k1,1,1,1; a1; a1,1,1; h1; h1,0,0; n0; n0,0,0; q0; q0,0,0; m1,1; t1,1; "
            + "S1,10; B1; 1; ,1; ; ss1,10; 1,10;");
        List<String> runs = new ArrayList<>();
        for (int letter = 32; letter <= 126; letter++) {
            if ("spbkahnqmtei".indexOf(letter) < 0) {
                runs.add("text(t1;t2;) write(" + letter + ")=7 text(1;) fault()=6");
                runs.add("text(t1;t2;) write(" + letter + ")=7 text(1,10;) fault()=6");
                runs.add("text(t1;t2;) write(" + letter + ")=7 text(0,1,5;) fault()=6");
            }
        }
        runs.add("write(32)=1 text(s1,10;) fault()=0");
        runs.add("text(s1,10;) write(32)=7 text(s1,10;) fault()=6");
        runs.add("text(s1,) write(32)=4 text(10;) fault()=0");
        runs.add("text(s1,10;) write(32)=7 fault()=6");
        EDGES.edge(4, "ITEMS one behind the other, each a letter", runs.toArray(new String[0]));
        EDGES.edge(4, "and a ; behind the last one",
            "text(s) fault()=0", "text(s1) fault()=0", "text(s1,) fault()=0", "text(s1,1) fault()=0", "text(s1,10) fault()=0",
            "text(s1,10;s) fault()=6", "text(s1,10;s1,10) fault()=6 lay()=NO", "text(s1,10;b) fault()=6", "text(s1,10;b7) fault()=6");
    }

    private static void boundsOfItems() {
        items("sH,D a STEP H high (1 to 30) and D deep (10 to 60)", "", "s1,10; s30,60; s1,60; s30,10;",
            "s0,10; s31,10; s99,10; s00,10; s1,9; s1,0; s1,61; s1,99; s0,9; s31,61;");
        items("pW,P,F the PRAM has WHEELS of W (3 to 40), weighs P (1 to 60), its handle folds above F (1 to 99)", "",
            "p3,1,1; p40,60,99; p3,60,99; p40,1,1;", "p2,1,1; p0,1,1; p41,1,1; p99,1,1; p3,0,1; p3,61,1; p3,99,1; p3,1,0; p40,60,0; p3,1,100;");
        items("bB BAGS weigh B (0 to 40; 0 without; the last one)", "", "b0; b1; b40;", "b41; b99;");
        items("kK,S,Z the CHILD weighs K (0 to 40), wakes by a BUMP above S (0 to 99), or by BUMPS that are together above Z times 10 (0 to 99)",
            "", "k0,0,0; k40,99,99; k40,0,0; k0,99,0; k0,0,99;", "k41,0,0; k99,0,0; k0,100,0; k0,0,100;");
        items("aA,R ONE has STRENGTH A (1 to 99), a REST takes R beats (1 to 99)", "", "a1,1; a99,99; a1,99; a99,1;", "a0,1; a1,0; a0,0; a100,1; a1,100;");
        items("hS,T a HELPER of STRENGTH S (1 to 99), who lifts out of time by T (0 to 10) of ten", "", "h1,0; h99,10; h1,10; h99,0;",
            "h0,0; h0,10; h1,11; h1,99; h100,0;");
        items("nH,N in HOUR H (0 to 23) N PASSERS (0 to 9) go by each minute", "", "n0,0; n23,9; n0,9; n23,0;", "n24,0; n99,0; n0,10; n23,10; n0,99;");
        items("qQ,L one PASSER alone stops by Q of a hundred (0 to 99), LOOKED at by L (0 to 99)", "", "q0,0; q99,99; q0,99; q99,0;", "q100,0; q0,100;");
        items("mM the RAMP takes M minutes (1 to 99; 9 without; the last one)", "", "m1; m99;", "m0; m00; m100;");
        items("tK a STATION of K STEPS (0 to 60)", "", "t0; t60;", "t61; t99;");
        items("eI,J,M a LINE between STATIONS I and J (told ahead, unlike) of M minutes (1 to 60)", "t1;t2;", "e0,1,1; e0,1,60; e1,0,1; e1,0,60;",
            "e0,1,0; e0,1,61; e0,1,99; e0,1,00;");
    }

    private static void howMany() {
        String lines = "t1;t2;" + "e0,1,5;".repeat(10);
        EDGES.edge(4, "12 at most, 0, 1, .. from below",
            "text(" + "s1,10;".repeat(12) + ") fault()=NONE lay()=12",
            "text(" + "s1,10;".repeat(13) + ") fault()=72 lay()=NO",
            "text(" + "s1,10;".repeat(12) + "b7;) fault()=NONE lay()=12",
            "text(" + "s1,10;".repeat(12) + "b7;s1,10;b7;) fault()=75 lay()=NO");
        EDGES.edge(4, "4 at most, 0, 1, ..", "text(" + "h1,0;".repeat(4) + "s1,10;) fault()=NONE lay()=1 count(1)=4",
            "text(s1,10;" + "h1,0;".repeat(5) + ") fault()=26 lay()=NO");
        EDGES.edge(4, "7 at most, 0, 1, ..", "text(" + "t1;".repeat(7) + "s1,10;) fault()=NONE lay()=1 count(2)=7",
            "text(s1,10;" + "t1;".repeat(8) + ") fault()=27 lay()=NO");
        EDGES.edge(4, "10 at most", "text(" + lines + "s1,10;) fault()=NONE lay()=1 count(3)=10",
            "text(" + lines + "e0,1,5;) fault()=76", "text(" + lines + "s1,10;e1,0,5;) fault()=82 lay()=NO");
        EDGES.edge(4, "the last one of each", "text(" + "n0,1;n1,1;n23,1;".repeat(12) + ") fault()=NONE");
    }

    private static void stationsToldAhead() {
        items("a LINE between STATIONS I and J (told ahead, unlike)", "t1;t2;", "e0,1,5; e1,0,5;",
            "e0,0,5; e1,1,5; e0,2,5; e2,0,5; e1,2,5; e2,1,5; e2,2,5; e2,3,5; e3,0,5; e6,0,5; e0,3,5; e0,6,5; e99,0,5; e0,99,5; e7,8,5;");
        EDGES.edge(4, "(told ahead, unlike)", "text(e0,1,5;) fault()=0", "text(e0,1,5;t1;t2;) fault()=0",
            "text(t1;e0,1,5;t2;) fault()=3", "text(t1;e1,0,5;t2;) fault()=3", "text(t1;e0,0,5;) fault()=3",
            "text(" + "t1;".repeat(7) + "e6,0,5;e0,6,5;e5,6,5;) fault()=NONE",
            "text(" + "t1;".repeat(7) + "e7,0,5;) fault()=21", "text(" + "t1;".repeat(7) + "e0,7,5;) fault()=21",
            "text(" + "t1;".repeat(6) + "e6,0,5;t1;) fault()=18");
        EDGES.edge(4, "iI a LIFT at STATION I (told ahead; the same again as well)", "text(i0;) fault()=0", "text(i0;t1;) fault()=0",
            "text(t1;i0;) fault()=NONE", "text(t1;i1;) fault()=3", "text(t1;i1;t1;) fault()=3", "text(t1;i2;) fault()=3", "text(t1;i6;) fault()=3", "text(i6;) fault()=0", "text(t1;i99;) fault()=3",
            "text(t1;i0;i0;i0;s1,10;) fault()=NONE lay()=1 count(4)=1 station(0,1)=1",
            "text(" + "t1;".repeat(7) + "i6;i6;) fault()=NONE", "text(" + "t1;".repeat(7) + "i7;) fault()=21",
            "text(" + "t1;".repeat(6) + "i6;) fault()=18", "text(t1;i;) fault()=3", "text(t1;i0,0;) fault()=3");
    }

    private static void placeOfFault() {
        EDGES.edge(4, "FAULT: the place of the first letter of the first ITEM that is not so.",
            "text(x) fault()=0", "text(s0,10;) fault()=0", "text(b7;b99;s0,0;) fault()=3", "text(b7;s1,9;b99;) fault()=3",
            "text(s1,10;k1,1,100;) fault()=6", "text(s1,10;p3,1,1) fault()=6",
            "text(" + "b1;".repeat(66) + "b) fault()=198", "text(" + "b1;".repeat(65) + "b11;b) fault()=199",
            "text(" + "b1;".repeat(66) + "b;) fault()=198");
        EDGES.edge(4, "NONE.", "fault()=NONE", "text(b1;) fault()=NONE lay()=NO", "text(" + "b1;".repeat(66) + ") fault()=NONE",
            "text(b1;x) fault()=3 wipe()=4 fault()=NONE", BUSY + "fault()=NONE");
    }

    // ---- LAID

    private static void lay() {
        EDGES.edge(5, "LAID is a TEXT without FAULT, of a STEP at least (NO else",
            "lay()=NO", "text(b1;) lay()=NO pram(3)=0", "text(t1;t2;e0,1,5;h1,0;) fault()=NONE lay()=NO count(1)=0 count(2)=0 count(3)=0",
            "text(s1,10) lay()=NO count(0)=3", "text(s1,10;x) lay()=NO count(0)=3 step(0,0)=15", "text(xs1,10;) lay()=NO count(0)=3",
            "text(s1,10;) lay()=1 count(0)=1 step(0,0)=1 step(0,1)=10", "text(" + "s1,10;".repeat(12) + ") lay()=12 count(0)=12");
        EDGES.edge(5, "NO.", BUSY + "wipe() lay()=NO text(b3;a1,1;t0;) lay()=NO text(s1,10;s0,10;) lay()=NO wipe() text(s1,10;x) lay()=NO",
            BUSY + "write(33) lay()=NO lay()=NO");
        EDGES.edge(5, "at the beginning, up, no told row, nothing UNDONE, KEPT.",
            BUSY + "lay()=3 stands(0)=0 stands(1)=0 stands(2)=33 stands(3)=0 stands(4)=0 stands(5)=0 count(5)=0 count(6)=0 count(7)=0",
            BUSY + "lay()=3 undo()=NO", BUSY + "lay()=3 back()=NO", BUSY + "lay()=3 noRow()=0", BUSY + "lay()=3 judge()=NONE",
            BUSY + "lay()=3 pram(3)=9 station(0,1)=0 station(1,1)=1 count(4)=1",
            BUSY + "wipe() text(s7,10;) lay()=1 count(1)=0 count(2)=0 count(3)=0 count(4)=0 passers(4)=0 pram(3)=0 pram(7)=40 pram(11)=9 "
                + "stands(2)=40 step(1,0)=BAD station(0,0)=BAD helper(0,0)=BAD",
            "laid(s1,10;t0;t0;e0,1,5;) free()=1 wipe() text(s1,10;t0;t0;) lay()=1 count(3)=0 travel(0,1,0)=NONE free()=0");
    }

    private static void step() {
        String twelve = "laid(s1,10;s2,20;s3,30;s4,40;s5,50;s6,60;s7,59;s8,49;s9,39;s10,29;s11,19;s30,11;) ";
        EDGES.edge(6, "Of a STEP: H (what = 0), D (1).", "laid(s1,10;s30,60;) step(0,0)=1 step(0,1)=10 step(1,0)=30 step(1,1)=60",
            twelve + "step(0,0)=1 step(0,1)=10 step(11,0)=30 step(11,1)=11");
        EDGES.edge(6, "BAD.", "step(-1,0)=BAD step(0,-1)=BAD step(0,2)=BAD step(MIN,0)=BAD step(MAX,1)=BAD step(0,MIN)=BAD step(0,MAX)=BAD");
        EDGES.edge(6, "BAD: a number is none that is told (STEPS, HELPERS, STATIONS: such as there are",
            "step(2,0)=20 step(3,0)=BAD", twelve + "step(11,0)=30 step(12,0)=BAD step(12,1)=BAD step(-1,1)=BAD",
            twelve + "wipe() text(s5,50;) lay()=1 step(0,0)=5 step(1,0)=BAD step(11,1)=BAD");
    }

    private static String prams(int... wants) {
        StringBuilder all = new StringBuilder();
        for (int i = 0; i < wants.length; i++) {
            all.append("pram(").append(i).append(")=").append(wants[i]).append(' ');
        }
        return all.toString();
    }

    private static void pram() {
        EDGES.edge(7, "The PRAM and who is with it: W (what = 0), P (1), F (2), B (3), K (4), S (5), Z (6), A (7), R (8), Q (9), L (10), M (11), LOAD (12).",
            "laid(s1,10;p3,1,1;b0;k0,0,0;a1,1;q0,0;m1;) " + prams(3, 1, 1, 0, 0, 0, 0, 1, 1, 0, 0, 1, 1),
            "laid(s1,10;p40,60,99;b40;k40,99,98;a97,96;q95,94;m93;) " + prams(40, 60, 99, 40, 40, 99, 98, 97, 96, 95, 94, 93, 140));
        EDGES.edge(7, "LOAD is P, B and K together.", "pram(12)=30", "bags(40)=0 pram(12)=70", "bags(40)=0 bags(0)=40 pram(12)=30");
        EDGES.edge(7, "BAD.", "pram(-1)=BAD pram(13)=BAD pram(MIN)=BAD pram(MAX)=BAD pram(-12)=BAD");
    }

    private static void pramWithout() {
        EDGES.edge(7, "ITEMS one behind the other", "laid(m43;q41,42;a38,39;k35,36,37;b34;p31,32,33;s1,10;) " + prams(31, 32, 33, 34, 35, 36, 37, 38, 39, 41, 42, 43, 101),
            "laid(s1,10;p31,32,33;b34;k35,36,37;a38,39;q41,42;m43;) " + prams(31, 32, 33, 34, 35, 36, 37, 38, 39, 41, 42, 43, 101));
        EDGES.edge(7, "(20, 20, 30 without; the last one)", "laid(s1,10;) pram(0)=20 pram(1)=20 pram(2)=30",
            "laid(p3,1,1;s1,10;p40,60,99;) pram(0)=40 pram(1)=60 pram(2)=99", "laid(p40,60,99;s1,10;p3,1,1;) pram(0)=3 pram(1)=1 pram(2)=1");
        EDGES.edge(7, "(0 to 40; 0 without; the last one)", "laid(s1,10;) pram(3)=0", "laid(b40;s1,10;b0;) pram(3)=0", "laid(b0;s1,10;b40;) pram(3)=40",
            "laid(s1,10;) bags(7)=0 lay()=1 pram(3)=0");
        EDGES.edge(7, "(10, 30, 20 without; the last one)", "laid(s1,10;) pram(4)=10 pram(5)=30 pram(6)=20",
            "laid(k40,99,99;s1,10;k0,0,0;) pram(4)=0 pram(5)=0 pram(6)=0", "laid(k0,0,0;s1,10;k40,99,98;) pram(4)=40 pram(5)=99 pram(6)=98");
        EDGES.edge(7, "(40, 20 without; the last one)", "laid(s1,10;) pram(7)=40 pram(8)=20 stands(2)=40",
            "laid(a99,98;s1,10;a1,2;) pram(7)=1 pram(8)=2 stands(2)=1", "laid(a1,2;s1,10;a99,98;) pram(7)=99 pram(8)=98 stands(2)=99");
        EDGES.edge(7, "(20, 60 without; the last one)", "laid(s1,10;) pram(9)=20 pram(10)=60", "laid(q99,98;s1,10;q0,1;) pram(9)=0 pram(10)=1",
            "laid(q0,1;s1,10;q99,98;) pram(9)=99 pram(10)=98");
        EDGES.edge(7, "(1 to 99; 9 without; the last one)", "laid(s1,10;) pram(11)=9", "laid(m99;s1,10;m1;) pram(11)=1", "laid(m1;s1,10;m99;) pram(11)=99");
    }

    private static void helpersAndPassers() {
        String four = "laid(h1,0;h2,3;s1,10;h3,4;h99,10;) ";
        EDGES.edge(8, "Of a HELPER: STRENGTH (what = 0), T (1).", four + "helper(0,0)=1 helper(0,1)=0 helper(1,0)=2 helper(1,1)=3 helper(3,0)=99 helper(3,1)=10");
        EDGES.edge(8, "BAD.", four + "helper(-1,0)=BAD helper(0,-1)=BAD helper(0,2)=BAD helper(MIN,0)=BAD helper(MAX,1)=BAD helper(3,MAX)=BAD helper(3,MIN)=BAD");
        EDGES.edge(8, "(STEPS, HELPERS, STATIONS: such as there are", "helper(0,0)=BAD", four + "helper(3,0)=99 helper(4,0)=BAD helper(4,1)=BAD",
            "laid(h7,1;s1,10;) helper(0,0)=7 helper(1,0)=BAD", four + "wipe() text(s1,10;h5,5;) lay()=1 helper(0,0)=5 helper(1,0)=BAD");
        EDGES.edge(9, "PASSERS of an HOUR.", "laid(n0,9;n23,8;s1,10;) passers(0)=9 passers(23)=8 passers(1)=0 passers(22)=0");
        EDGES.edge(9, "(0 without; the last one of each)", "passers(0)=0 passers(12)=0 passers(23)=0",
            "laid(n7,5;n8,4;n7,0;s1,10;n8,9;) passers(7)=0 passers(8)=9 passers(6)=0 passers(9)=0", "laid(n7,5;s1,10;) wipe() text(s1,10;) lay()=1 passers(7)=0");
        EDGES.edge(9, "BAD.", "passers(-1)=BAD passers(24)=BAD passers(MIN)=BAD passers(MAX)=BAD");
        EDGES.edge(9, "HOURS 0 to 23", "laid(n0,9;n23,8;s1,10;) passers(-1)=BAD passers(0)=9 passers(23)=8 passers(24)=BAD passers(47)=BAD");
    }

    private static void station() {
        String seven = "laid(t0;t1;t2;t3;t4;t5;t60;s1,10;i0;i6;) ";
        EDGES.edge(10, "Of a STATION: STEPS as told (what = 0), 1 if there is a LIFT (1).",
            seven + "station(0,0)=0 station(0,1)=1 station(1,0)=1 station(1,1)=0 station(6,0)=60 station(6,1)=1 lift(6,false)=1 station(6,0)=60 station(6,1)=0");
        EDGES.edge(10, "BAD.", seven + "station(-1,0)=BAD station(0,-1)=BAD station(0,2)=BAD station(MIN,0)=BAD station(MAX,1)=BAD station(6,MIN)=BAD station(6,MAX)=BAD");
        EDGES.edge(10, "(STEPS, HELPERS, STATIONS: such as there are", "station(0,0)=BAD station(0,1)=BAD",
            seven + "station(6,0)=60 station(7,0)=BAD station(7,1)=BAD station(32,1)=BAD",
            seven + "wipe() text(s1,10;t9;) lay()=1 station(0,0)=9 station(0,1)=0 station(1,0)=BAD station(6,1)=BAD");
    }
}
