/** Promises 20 to 24: BEST, ASLEEP, ENDS, MATE, TIME. */
public final class AloneTwoTest {
    private static final int BAD = PramAndSteps.BAD, NONE = PramAndSteps.NONE;
    private static final Check CHECK = new Check();

    public static void main(String[] args) {
        best();
        bestWithRests();
        bestOfGreatestBump();
        bestIsOfTheWholeStair();
        bestNone();
        asleep();
        everyWay();
        ends();
        endsAbove();
        mate();
        time();
        CHECK.end("AloneTwoTest");
    }

    private static String best(PramAndSteps x, boolean down) {
        StringBuilder all = new StringBuilder();
        for (int kind = 0; kind < 4; kind++) {
            all.append(x.best(kind, down, 0)).append(' ').append(x.best(kind, down, 1)).append(' ');
        }
        return all.toString().trim();
    }

    private static void best(String name, PramAndSteps x, boolean down, String want) {
        CHECK.due(name + ": " + best(x, down) + " for " + want, best(x, down).equals(want) ? 1 : 0, 1);
    }

    private static void best() {
        // FORCES 5, 3, 2, BUMPS 10, 15, 20 (9, 14, 18); down 8, 5, 3, BUMPS 20, 15, 20 (18, 14, 18)
        PramAndSteps x = Check.laid("s10,20;s9,20;p20,10,30;k0,99,99;a40,7;");
        best("FORWARD all the way up", x, false, "2 0 19 0 0 0 10 0");
        best("down the BUMP of BACKWARD is less", x, true, "2 0 29 1 0 0 15 1");
        CHECK.dues("best BAD", "-1 -1 -1 -1 -1", x.best(-1, false, 0), x.best(4, false, 0), x.best(0, false, -1), x.best(0, true, 2),
            x.best(Integer.MAX_VALUE, true, Integer.MIN_VALUE));
    }

    private static void bestWithRests() {
        // STRENGTH 5 is 4 behind any STEP: FORWARD (5) needs a REST then
        PramAndSteps x = Check.laid("s10,20;s10,20;s10,20;p20,10,30;k0,99,99;a5,1;");
        best("RESTS of 1 beat", x, false, "5 0 30 0 0 0 10 0");
        // FORWARD (5 of 5), BACKWARD (3 of 4), BACKWARD (3 of 3): 1 + 2 + 2
        x = Check.laid("s10,20;s10,20;s10,20;p20,10,30;k0,99,99;a5,2;");
        best("RESTS of 2 beats", x, false, "5 0 30 0 0 0 10 0");
        x = Check.laid("s10,20;s10,20;s10,20;s10,20;p20,10,30;k0,99,99;a5,99;");
        // strengths 5, 4, 3, 2: FORWARD, BACKWARD, BACKWARD, by WHEELS: 1 + 2 + 2 + 5
        best("long RESTS", x, false, "10 0 40 0 0 0 10 0");
        x = Check.laid("s10,20;s10,20;s10,20;p20,10,30;k0,99,99;a2,9;");
        // by WHEELS alone (2), each time with a REST ahead
        best("by WHEELS, with RESTS", x, false, "33 2 60 2 2 2 20 2");
        x = Check.laid("s10,20;s10,20;p20,10,30;k0,99,99;a3,9;");
        // BACKWARD (3), then 2 of 2 by WHEELS, 7 beats; with a REST 2 + 9 + 2
        best("BACKWARD, by WHEELS", x, false, "7 1 30 1 0 1 15 1");
        // 1 of 1 leaves no STRENGTH at all
        x = Check.laid("s1,20;s1,20;s1,20;p40,1,30;k0,99,99;a1,9;");
        best("a REST ahead of each", x, false, "21 0 3 0 2 0 1 0");
        CHECK.due("asleep with no STRENGTH left", x.asleep(false), 21);
        // FORCE 70 of 99, then of 90
        x = Check.laid("s20,20;s20,20;p40,60,99;b40;k40,99,99;a99,9;");
        best("all there is", x, false, "2 0 40 0 0 0 20 0");
    }

    private static void bestOfGreatestBump() {
        // H 20 of WHEELS 20: BACKWARD 30 by FORCE 5, by WHEELS 40 by 3; H 5: 5, 8, 10 by 3, 2, 1
        PramAndSteps x = Check.laid("s5,20;s20,20;p20,10,30;k0,99,99;a40,7;");
        best("the greatest BUMP is of the second", x, false, "3 0 35 0 0 0 30 0");
        // down first the higher one
        best("down", x, true, "3 1 38 1 0 1 30 1");
    }

    private static void bestIsOfTheWholeStair() {
        PramAndSteps x = Check.laid("s10,20;s9,20;p20,10,30;k0,20,2;a5,9;");
        String before = best(x, false) + best(x, true) + x.asleep(false);
        x.start(true);
        x.go(2);
        String seen = Check.seen(x);
        CHECK.due("whatever is gone", (best(x, false) + best(x, true) + x.asleep(false)).equals(before) ? 1 : 0, 1);
        CHECK.due("nothing changes", Check.seen(x).equals(seen) ? 1 : 0, 1);
    }

    private static void bestNone() {
        PramAndSteps x = Check.laid("s10,20;s9,20;p20,10,30;k0,99,99;a1,7;");
        best("too weak", x, false, "-4 -4 -4 -4 -4 -4 -4 -4");
        CHECK.due("BAD ahead of NONE", x.best(4, false, 0), BAD);
        CHECK.dues("asleep", "-4 -4", x.asleep(false), x.asleep(true));
        x = Check.laid("s10,20;p20,10,30;k0,99,99;a2,7;");
        CHECK.dues("up he can, down (3) not", "5 -4", x.best(0, false, 0), x.best(0, true, 0));
        x.bags(40);
        CHECK.due("with BAGS", x.best(0, false, 0), NONE);
    }

    private static void asleep() {
        PramAndSteps x = Check.laid("s10,20;s10,20;p20,10,30;k0,10,2;a5,50;");
        // only FORWARD is quiet enough (10), twice: 5 of 5, a REST, 5 of 5
        CHECK.dues("with a REST for his sleep", "52 3", x.asleep(false), x.best(0, false, 0));
        CHECK.due("down each BUMP is 15 at least", x.asleep(true), NONE);
        x = Check.laid("s10,20;s10,20;p20,10,30;k0,15,2;a5,50;");
        CHECK.due("BUMPS of 20 together", x.asleep(false), 52);
        x = Check.laid("s10,20;s10,20;p20,10,30;k0,15,3;a5,50;");
        CHECK.due("BUMPS of 30 together", x.asleep(false), 3);
        x = Check.laid("s10,20;s10,20;p20,10,30;k0,99,1;a5,50;");
        CHECK.due("BUMPS of 10 together", x.asleep(false), NONE);
        x = Check.laid("s10,20;p20,10,30;k0,9,99;");
        CHECK.due("a BUMP of 9", x.asleep(false), NONE);
        x = Check.laid("s10,20;s10,20;s1,20;p20,10,30;k0,15,3;a40,50;");
        // down: 2, 15 and 15 are 32; FORWARD 1 is 2 too, so none
        CHECK.dues("up 21, down 32 of 30", "3 -4", x.asleep(false), x.asleep(true));
        // LOAD 80, WHEELS 40: FORWARD 40, BACKWARD 20, by WHEELS 10, the only one for STRENGTH 10
        x = Check.laid("s20,10;".repeat(12) + "p40,40,99;k40,40,48;a10,3;");
        CHECK.due("by WHEELS all the way, BUMPS of 480", x.asleep(false), 93);
        x = Check.laid("s20,10;".repeat(12) + "p40,40,99;k40,40,47;a10,3;");
        CHECK.due("BUMPS of 470", x.asleep(false), NONE);
        // by WHEELS would wake him (40), BACKWARD takes all STRENGTH (20)
        x = Check.laid("s20,10;".repeat(12) + "p40,40,99;k40,30,99;a20,3;");
        CHECK.due("BACKWARD all the way, a REST ahead of each", x.asleep(false), 57);
    }

    /** Every way, one after the other, of small stairs: least of all. */
    private static void everyWay() {
        String[] towns = {
            "s10,20;s7,20;s20,20;s3,20;p20,10,9;k3,30,6;a9,3;",
            "s9,20;s8,20;s10,20;s4,20;s12,20;p24,14,26;b6;k9,20,6;a20,4;",
            "s30,20;s5,20;s16,20;s1,20;p40,60,99;k3,50,12;a99,9;",
            "s5,20;s5,20;s5,20;s5,20;s6,20;p10,10,11;k3,10,4;a7,2;",
            "s12,20;s11,20;s13,20;s14,20;p26,30,40;k9,24,9;a23,1;",
        };
        for (String town : towns) {
            PramAndSteps x = Check.laid(town);
            for (int way = 0; way < 2; way++) {
                boolean down = way == 1;
                least = new int[] {9999, 9999, 9999, 9999, 9999};
                first = new int[] {-1, -1, -1, -1};
                walk(x, down, 0, x.pram(7), new int[4], 9, 0);
                for (int kind = 0; kind < 4; kind++) {
                    CHECK.due(town + " best " + kind + down, x.best(kind, down, 0), least[kind] == 9999 ? NONE : least[kind]);
                    CHECK.due(town + " first " + kind + down, x.best(kind, down, 1), least[kind] == 9999 ? NONE : first[kind]);
                }
                CHECK.due(town + " asleep " + down, x.asleep(down), least[4] == 9999 ? NONE : least[4]);
            }
        }
    }

    private static int[] least;
    private static int[] first;

    private static void walk(PramAndSteps x, boolean down, int gone, int strength, int[] cost, int began, int woken) {
        if (gone == x.count(0)) {
            for (int kind = 0; kind < 4; kind++) {
                if (cost[kind] < least[kind] || cost[kind] == least[kind] && began < first[kind]) {
                    least[kind] = cost[kind];
                    first[kind] = began;
                }
            }
            least[4] = woken == 0 ? Math.min(least[4], cost[0]) : least[4];
            return;
        }
        for (int choice = 0; choice < (gone == 0 ? 3 : 6); choice++) {
            int manner = choice % 3, rests = choice / 3;
            int s = down ? x.count(0) - 1 - gone : gone;
            int force = x.force(s, manner, down, 0);
            int has = rests == 1 ? x.pram(7) : strength;
            if (force < 0 || force > has) {
                continue;
            }
            int bump = x.force(s, manner, down, 1), bumps = cost[1] + bump;
            int[] then = {cost[0] + rests * x.pram(8) + x.force(s, manner, down, 2), bumps, cost[2] + rests, Math.max(cost[3], bump)};
            int awake = bump > x.pram(5) || bumps > 10 * x.pram(6) ? 1 : woken;
            walk(x, down, gone + 1, has - (force + 7) / 8, then, gone == 0 ? manner : began, awake);
        }
    }

    private static void ends() {
        // LOAD 30: below 30 * 45 / 60 = 22.5, 23; above 7
        PramAndSteps x = Check.laid("s15,30;h40,0;h20,0;h99,0;h23,0;a40,9;");
        CHECK.dues("alike: below", "0 58", x.ends(0, 0), x.ends(0, 1));
        CHECK.dues("weaker: above", "1 58", x.ends(1, 0), x.ends(1, 1));
        CHECK.dues("stronger: below, 23 of 99 and 7 of 40", "0 24", x.ends(2, 0), x.ends(2, 1));
        CHECK.dues("23 of 23 below is 100, 7 of 23 above with 58", "1 58", x.ends(3, 0), x.ends(3, 1));
        CHECK.dues("ends BAD", "-1 -1 -1 -1", x.ends(-1, 0), x.ends(4, 0), x.ends(0, -1), x.ends(0, 2));
        x.go(2);
        CHECK.due("of ONE it is A", x.ends(1, 1), 58);
        x = Check.laid("s15,30;h40,0;h1,0;a5,9;");
        // 23 of 40 and 7 of 5 (140); 7 of 40 and 23 of 5 (460)
        CHECK.dues("above 100 none", "-4 -4 -1", x.ends(0, 0), x.ends(0, 1), x.ends(0, 2));
        x = Check.laid("s15,30;h23,0;a7,9;");
        CHECK.dues("100 is not above 100", "0 100", x.ends(0, 0), x.ends(0, 1));
        x = Check.laid("s15,30;h22,0;a7,9;");
        CHECK.dues("105", "-4 -4", x.ends(0, 0), x.ends(0, 1));
    }

    private static void endsAbove() {
        // H above D: who is below bears all of LOAD (30), who is above nothing
        PramAndSteps x = Check.laid("s30,10;h60,0;a30,9;");
        CHECK.dues("all of LOAD below", "0 50", x.ends(0, 0), x.ends(0, 1));
        // H 20, D 20: 30 * 40 / 40 = 30; H 1, D 60: 30 * 61 / 120 = 15.25, 16 and 14
        x = Check.laid("s20,20;s1,60;h60,0;a20,9;");
        CHECK.dues("the greatest of both STEPS, of both", "0 70", x.ends(0, 0), x.ends(0, 1));
        x = Check.laid("s20,20;h60,0;a20,9;");
        CHECK.dues("one of them", "0 50", x.ends(0, 0), x.ends(0, 1));
        x.bags(40);
        CHECK.due("70 of 60", x.ends(0, 0), NONE);
    }

    private static void mate() {
        CHECK.due("no HELPER", new PramAndSteps().mate(), NONE);
        CHECK.due("the strongest", Check.laid("s15,30;h40,0;h20,0;h99,0;").mate(), 2);
        CHECK.due("the lowest of several", Check.laid("s15,30;h5,0;h40,0;h20,0;h40,0;").mate(), 1);
        CHECK.due("nobody is strong enough", Check.laid("s15,30;h40,0;h1,0;a5,9;").mate(), NONE);
        CHECK.due("100", Check.laid("s15,30;h22,0;h23,0;a7,9;").mate(), 1);
    }

    private static void time() {
        PramAndSteps x = Check.laid("s1,20;s1,20;s1,20;h9,0;h9,10;h9,5;h9,3;");
        CHECK.dues("time", "1 1 0 1 1 8 343 1000", x.time(0, 0), x.time(0, 1), x.time(1, 0), x.time(1, 1),
            x.time(2, 0), x.time(2, 1), x.time(3, 0), x.time(3, 1));
        CHECK.dues("time BAD", "-1 -1 -1 -1", x.time(-1, 0), x.time(4, 0), x.time(0, -1), x.time(0, 2));
        x = Check.laid("s1,20;".repeat(12) + "h9,9;h9,1;h9,2;h9,8;");
        CHECK.dues("time of 12 STEPS", "1 1000000000000 282429536481 1000000000000 16777216 244140625 1 244140625", x.time(0, 0),
            x.time(0, 1), x.time(1, 0), x.time(1, 1), x.time(2, 0), x.time(2, 1), x.time(3, 0), x.time(3, 1));
    }
}
