import java.util.ArrayList;
import java.util.List;

/** The boundary sentences of promises 25 to 30: SOME, ASKED, FEW, WITHIN, RUSH, WAIT, OUT. */
public final class PassersEdgesTest {
    private static final Edges EDGES = new Edges("PassersEdgesTest");
    /** Alone 33 beats (3 minutes) up, none down; by two 1 minute and a WAIT. */
    private static final String WEAK = "s10,20;s10,20;s10,20;p20,10,30;k0,99,99;a2,9;";

    public static void main(String[] args) {
        some();
        asked();
        few();
        within();
        rush();
        await();
        outAlone();
        outByTwo();
        outOfSeveral();
        EDGES.end(25, 30);
    }

    /** The answers of n 0 to 9. */
    private static String ofEach(boolean asked, int... wants) {
        StringBuilder all = new StringBuilder();
        for (int n = 0; n < wants.length; n++) {
            all.append("some(").append(n).append(',').append(asked).append(")=").append(wants[n]).append(' ');
        }
        return all.toString();
    }

    private static void some() {
        EDGES.edge(25, "SOME of n (0 to 9) PASSERS: s is 10 times Q by n; x is 1000, then n times x times 1000 less s by 1000; SOME is 1000 less x (0, if n is 0).",
            "laid(s1,10;q0,99;) " + ofEach(false, 0, 0, 0, 0, 0, 0, 0, 0, 0, 0), "laid(s1,10;q1,99;) " + ofEach(false, 0, 10, 10, 9, 8, 10, 6, 7, 8, 9),
            "laid(s1,10;q99,0;) " + ofEach(false, 0, 990, 745, 700, 680, 669, 663, 657, 651, 653));
        EDGES.edge(25, "All these chances are of a thousand, all that is parted cut.", "laid(s1,10;) some(1,false)=200 some(2,false)=190 some(3,false)=186",
            "laid(s1,10;) some(1,true)=600 some(2,true)=680 some(3,true)=676");
        EDGES.edge(25, "BAD.", "some(-1,false)=BAD some(10,false)=BAD some(-1,true)=BAD some(10,true)=BAD some(MIN,false)=BAD some(MAX,true)=BAD some(0,false)=0 some(9,false)=186");
    }

    private static void asked() {
        EDGES.edge(25, "y is 1000 less SOME of n less 1; 1000 less (1000 less 10 times L, times y by 1000) (0, if n is 0).",
            "laid(s1,10;q0,0;) " + ofEach(true, 0, 0, 0, 0, 0, 0, 0, 0, 0, 0), "laid(s1,10;q1,1;) " + ofEach(true, 0, 10, 20, 20, 19, 18, 20, 16, 17, 18),
            "laid(s1,10;q99,99;) " + ofEach(true, 0, 990, 1000, 998, 997, 997, 997, 997, 997, 997), "laid(s1,10;q0,99;) some(0,true)=0 some(1,true)=990 some(9,true)=990",
            "laid(s1,10;q99,0;) some(0,true)=0 some(1,true)=0 some(2,true)=990");
    }

    private static void few() {
        List<String> runs = new ArrayList<>();
        for (int q = 0; q <= 99; q++) {
            runs.add("laid(s1,10;q" + q + ",50;) few()=1 some(1,false)=" + 10 * q);
        }
        EDGES.edge(26, "FEW: the n (1 to 9) for which SOME is greatest, the lowest.", runs.toArray(new String[0]));
    }

    private static void within() {
        String eight = "laid(s1,10;n8,2;) ";
        EDGES.edge(27, "WITHIN m minutes (0 to 300) from the beginning of HOUR h on", eight + "within(8,0,true)=0 within(8,1,true)=680 within(8,2,true)=898 within(8,0,false)=0 within(8,1,false)=190",
            eight + "within(7,60,true)=0 within(7,61,true)=680 within(4,240,true)=0 within(4,241,true)=680 within(4,300,true)=1000 within(3,300,true)=0 within(9,300,true)=0",
            "laid(s1,10;q1,0;n8,1;) within(8,59,false)=468 within(8,60,false)=474 within(8,61,false)=474 within(8,300,false)=474 within(4,299,false)=468 within(4,300,false)=474");
        EDGES.edge(27, "(23 is followed by 0)", "laid(s1,10;n0,2;) within(23,60,true)=0 within(23,61,true)=680 within(20,240,true)=0 within(20,241,true)=680 within(19,300,true)=0 within(0,1,true)=680",
            "laid(s1,10;n3,2;) within(23,240,true)=0 within(23,241,true)=680 within(22,300,true)=0", "laid(s1,10;n23,2;) within(23,1,true)=680 within(22,60,true)=0 within(22,61,true)=680 within(0,300,true)=0");
        EDGES.edge(27, "BAD.", "within(-1,1,true)=BAD within(24,1,true)=BAD within(8,-1,true)=BAD within(8,301,true)=BAD within(8,300,true)=0 within(0,0,false)=0 within(23,0,false)=0",
            "within(MIN,1,false)=BAD within(MAX,1,false)=BAD within(8,MIN,false)=BAD within(8,MAX,false)=BAD");
    }

    private static void rush() {
        EDGES.edge(28, "RUSH: the HOUR in which the chance of a minute is greatest, the first.", "rush(false)=0 rush(true)=0", "laid(s1,10;n23,1;) rush(false)=23 rush(true)=23", "laid(s1,10;n1,1;) rush(false)=1 rush(true)=1",
            "laid(s1,10;n0,1;n23,1;) rush(false)=0 rush(true)=0", "laid(s1,10;n5,1;n3,2;n7,1;n9,2;) rush(false)=5 rush(true)=3",
            "laid(s1,10;n22,2;n23,2;n21,1;) rush(true)=22", "laid(s1,10;q0,0;n5,9;) rush(false)=0 rush(true)=0", "laid(s1,10;q1,0;n4,3;n5,5;n6,2;n7,1;) rush(false)=5");
    }

    private static void await() {
        EDGES.edge(29, "WAIT: the fewest minutes m (0 to 300) WITHIN which the chance is p (1 to 1000) or more; none.",
            "laid(s1,10;n8,2;) await(8,1,true)=1 await(8,680,true)=1 await(8,681,true)=2 await(8,1000,true)=6", "laid(s1,10;n8,2;q99,99;) await(8,1000,true)=1 await(7,1000,true)=61 await(7,1,true)=61",
            "laid(s1,10;q1,0;n8,1;) await(8,474,false)=60 await(8,475,false)=NONE await(4,468,false)=299 await(4,469,false)=300 await(4,474,false)=300 await(4,475,false)=NONE await(3,1,false)=NONE",
            "laid(s1,10;n0,2;) await(23,1,true)=61 await(20,1,true)=241 await(19,1,true)=NONE await(0,680,true)=1 await(1,1,true)=NONE");
        EDGES.edge(29, "NONE; BAD.", "await(8,1,true)=NONE await(8,1000,false)=NONE await(8,0,true)=BAD await(8,1001,true)=BAD await(-1,1,true)=BAD await(24,1,true)=BAD",
            "laid(s1,10;n8,2;) await(8,0,true)=BAD await(8,-1,true)=BAD await(8,1001,false)=BAD await(8,MIN,true)=BAD await(8,MAX,true)=BAD await(MIN,1,true)=BAD await(MAX,1,true)=BAD await(8,1,false)=1");
        EDGES.edge(29, "Of several the first", "await(0,1,false)=NONE await(23,1000,true)=NONE await(0,0,false)=BAD await(24,1000,true)=BAD");
    }

    private static void outAlone() {
        EDGES.edge(30, "of ONE alone (the fewest beats by 12, cut up, in minutes; none, if he can not), the RAMP (M)",
            "laid(" + "s1,20;".repeat(12) + ") out(8,false,0)=0 out(8,false,1)=1", "laid(" + "s1,20;".repeat(11) + "s20,20;) best(0,false,0)=13 out(8,false,0)=0 out(8,false,1)=2",
            "laid(s1,20;m1;) out(8,false,0)=0 out(8,false,1)=1", "laid(" + WEAK + "m3;) out(8,false,0)=0 out(8,false,1)=3 out(8,true,0)=1 out(8,true,1)=3",
            "laid(" + WEAK + "m2;) out(8,false,0)=1 out(8,false,1)=2", "laid(" + WEAK + "m4;) out(8,false,0)=0 out(8,true,0)=1 out(8,true,1)=4",
            "laid(" + WEAK + "a1,9;m99;) out(8,false,0)=1 out(8,false,1)=99", "laid(" + WEAK + "m99;) go(2)=1 start(true) out(8,false,1)=3 out(8,true,1)=99");
        EDGES.edge(30, "BAD.", "out(-1,false,0)=BAD out(24,true,0)=BAD out(8,false,-1)=BAD out(8,true,2)=BAD out(0,false,0)=0 out(23,true,1)=1",
            "out(MIN,false,0)=BAD out(MAX,true,0)=BAD out(8,false,MIN)=BAD out(8,true,MAX)=BAD");
    }

    private static void outByTwo() {
        EDGES.edge(30, "WAITING (ASKED, p 500; and how many STEPS by 4, cut up, together; none, if no MATE or no WAIT)",
            "laid(" + WEAK + "h99,0;n8,1;q0,50;m99;) out(8,true,0)=2 out(8,true,1)=2", "laid(" + WEAK + "h99,0;n8,1;q99,49;m99;) out(8,true,0)=2 out(8,true,1)=3",
            "laid(s10,20;" + WEAK + "h99,0;n8,2;m99;) out(8,true,1)=2", "laid(s10,20;s10,20;" + WEAK + "h99,0;n8,2;m99;) out(8,true,1)=3",
            "laid(" + WEAK + "n8,2;) mate()=NONE out(8,true,0)=1 out(8,true,1)=9", "laid(" + WEAK + "n8,2;a1,9;h99,0;) mate()=NONE out(8,true,0)=1",
            "laid(" + WEAK + "h99,0;n8,2;m99;) out(9,true,0)=1 out(9,true,1)=99 out(7,true,0)=2 out(7,true,1)=62 out(6,true,0)=1 out(6,false,0)=0",
            "laid(" + WEAK + "h99,0;n0,2;m99;) out(23,true,0)=2 out(23,true,1)=62 out(0,true,1)=2 out(1,true,0)=1");
    }

    private static void outOfSeveral() {
        EDGES.edge(30, "the one of fewest minutes, of several the first: it (0, 1, 2); how many",
            "laid(" + WEAK + "h99,0;n8,1;q0,49;m99;) out(8,false,0)=0 out(8,false,1)=3", "laid(" + WEAK + "h99,0;n8,1;q0,49;m3;) out(8,false,0)=0 out(8,true,0)=1 out(8,true,1)=3",
            "laid(" + WEAK + "h99,0;n8,2;m2;) out(8,false,0)=1 out(8,false,1)=2 out(8,true,0)=1", "laid(" + WEAK + "h99,0;n8,2;m3;) out(8,false,0)=2 out(8,false,1)=2");
    }
}
