/** Promises 36 to 42: BAGS, LIFTS, DAYS, YEARS, KEPT, count. */
public final class ChangesDaysTest {
    private static final int BAD = PramAndSteps.BAD, NO = PramAndSteps.NO, FULL = PramAndSteps.FULL, NONE = PramAndSteps.NONE;
    private static final Check CHECK = new Check();
    private static final String TOWN = "s1,10;n8,2;n9,9;n23,1;n0,5;q5,12;";

    public static void main(String[] args) {
        bags();
        lift();
        day();
        year();
        yearIsOfDays();
        keep();
        back();
        backOfLifts();
        count();
        CHECK.end("ChangesDaysTest");
    }

    private static void bags() {
        PramAndSteps x = Check.laid("s10,20;s10,20;s10,20;p20,10,30;k0,99,99;b4;");
        x.go(0);
        x.tell(1);
        String seen = Check.seen(x);
        CHECK.dues("bags BAD", "-1 -1 -1 -1", x.bags(-1), x.bags(41), x.bags(Integer.MAX_VALUE), x.bags(Integer.MIN_VALUE));
        CHECK.due("nothing changes then", Check.seen(x).equals(seen) ? 1 : 0, 1);
        CHECK.dues("bags", "4 10 10 20", x.bags(10), x.pram(3), x.bags(10), x.pram(12));
        CHECK.dues("nothing UNDONE, the rest stays", "0 -2 1 1 1", x.count(6), x.undo(), x.stands(0), x.stands(3), x.count(5));
        CHECK.dues("edges", "10 0 40 40 10", x.bags(0), x.bags(40), x.pram(3), x.bags(40), x.pram(1));
        CHECK.due("FORCE with them: 500 by 80", x.force(1, 2, false, 0), 7);
    }

    private static void lift() {
        PramAndSteps x = Check.laid("s10,20;t1;t2;t3;i1;");
        x.go(2);
        CHECK.dues("lift", "2 2 3 2 2 1 0", x.lift(0, true), x.lift(0, true), x.lift(2, true), x.lift(1, false), x.lift(1, false),
            x.lift(0, false), x.lift(2, false));
        CHECK.dues("lift BAD", "-1 -1 -1 -1 0", x.lift(-1, true), x.lift(3, true), x.lift(3, false), x.lift(32, true), x.count(4));
        CHECK.dues("what can be UNDONE stays", "1 0", x.count(6), x.undo());
    }

    private static void day() {
        PramAndSteps x = Check.laid(TOWN);
        // worked out beside the program, by the document's own sum
        CHECK.dues("day from 8, SOME", "0 45 5 24 14",
            x.day(0, 8, false), x.day(1, 8, false), x.day(2, 8, false), x.day(3, 8, false), x.day(9999, 8, false));
        CHECK.dues("day from 8, ASKED", "0 1 1 15 8",
            x.day(0, 8, true), x.day(1, 8, true), x.day(2, 8, true), x.day(3, 8, true), x.day(9999, 8, true));
        CHECK.dues("day from 7, ASKED", "61 61 63 68 77",
            x.day(0, 7, true), x.day(1, 7, true), x.day(2, 7, true), x.day(3, 7, true), x.day(9999, 7, true));
        CHECK.dues("day from 22, over midnight", "95 61 88 78 81",
            x.day(0, 22, false), x.day(1, 22, false), x.day(2, 22, false), x.day(3, 22, false), x.day(9999, 22, false));
        CHECK.dues("day from 4, from 3, from 10", "242 240 -4 -4", x.day(0, 4, true), x.day(2, 4, true), x.day(0, 3, true), x.day(5, 10, true));
        CHECK.dues("day from 0, from 23, as from 8 with as many", "1 1",
            Check.laid("s1,10;n0,2;q5,12;").day(1, 0, true), Check.laid("s1,10;n23,2;q5,12;").day(1, 23, true));
        CHECK.dues("day BAD", "-1 -1 -1 -1 -1", x.day(-1, 8, true), x.day(10000, 8, true), x.day(0, -1, true), x.day(0, 24, true),
            x.day(Integer.MAX_VALUE, Integer.MIN_VALUE, false));
        // DRAW of 0, 0 is 1: not below a chance of 0
        CHECK.due("a chance of 0", Check.laid("s1,10;n8,1;q0,0;").day(0, 8, false), NONE);
        // DRAWS of 0 are 1, 487, of 1 803, ..
        x = Check.laid("s1,10;n8,1;q80,81;");
        CHECK.dues("803 is not below 800, but below 810", "0", x.day(1, 8, true));
        CHECK.due("803 and 800", x.day(1, 8, false) > 0 ? 1 : 0, 1);
    }

    private static void year() {
        PramAndSteps x = Check.laid(TOWN);
        CHECK.dues("year from 8", "24 50 41 1", x.year(0, 60, 8, 10, false), x.year(0, 60, 8, 10, true), x.year(9990, 60, 8, 5, true),
            x.year(9999, 1, 8, 300, true));
        CHECK.dues("9999 is followed by 0", "1 0 1", x.year(9999, 2, 8, 1, true), x.year(9999, 1, 8, 1, true), x.year(0, 1, 8, 1, true));
        CHECK.dues("year from 0, from 23, as from 8 with as many", "50 50",
            Check.laid("s1,10;n0,2;q5,12;").year(0, 60, 0, 10, true), Check.laid("s1,10;n23,2;q5,12;").year(0, 60, 23, 10, true));
        CHECK.dues("k below m", "7 0", x.year(7, 60, 7, 61, true), x.year(7, 60, 7, 60, true));
        CHECK.dues("over midnight", "60 28", x.year(7, 60, 22, 300, false), x.year(7, 30, 22, 100, false));
        CHECK.dues("year BAD", "-1 -1 -1 -1 -1 -1 -1 -1", x.year(-1, 1, 8, 1, true), x.year(10000, 1, 8, 1, true), x.year(0, 0, 8, 1, true),
            x.year(0, 61, 8, 1, true), x.year(0, 1, -1, 1, true), x.year(0, 1, 24, 1, true), x.year(0, 1, 8, 0, true),
            x.year(0, 1, 8, 301, true));
    }

    private static void yearIsOfDays() {
        PramAndSteps x = Check.laid(TOWN);
        for (int m = 1; m <= 300; m += 13) {
            int days = 0;
            for (int i = 0; i < 60; i++) {
                int k = x.day((9970 + i) % 10000, 21, true);
                days += k >= 0 && k < m ? 1 : 0;
            }
            CHECK.due("year of days, m " + m, x.year(9970, 60, 21, m, true), days);
        }
    }

    private static void keep() {
        PramAndSteps x = Check.laid("s10,20;s10,20;s10,20;p20,10,30;k0,99,99;");
        x.go(0);
        x.tell(1);
        CHECK.dues("keep", "1 2 -3 2", x.keep(), x.keep(), x.keep(), x.count(7));
        CHECK.dues("row and UNDONE stay", "1 1 0", x.count(5), x.count(6), x.undo());
        CHECK.dues("back and keep", "1 2 -3", x.back(), x.keep(), x.keep());
    }

    private static void back() {
        PramAndSteps x = Check.laid("s10,20;s10,20;s10,20;p20,10,30;k0,19,99;a9,7;");
        CHECK.due("nothing is KEPT", x.back(), NO);
        x.go(0);
        x.rest();
        x.keep();
        String first = stance(x);
        x.start(true);
        x.bags(3);
        x.go(2);
        x.keep();
        String second = stance(x);
        x.start(false);
        x.bags(40);
        x.tell(1);
        x.go(2);
        CHECK.due("back()", x.back(), 1);
        CHECK.due("as KEPT last", stance(x).equals(second) ? 1 : 0, 1);
        CHECK.dues("down, BAGS 3, AWAKE; no row, nothing UNDONE", "1 1 3 1 0 0 -2",
            x.stands(0), x.stands(1), x.pram(3), x.stands(5), x.count(5), x.count(6), x.undo());
        x.go(1);
        x.tell(2);
        CHECK.due("back() again", x.back(), 0);
        CHECK.due("as KEPT first", stance(x).equals(first) ? 1 : 0, 1);
        CHECK.dues("1 gone, up, 8 beats, no BAGS", "1 0 9 8 10 0 0 0 0", x.stands(0), x.stands(1), x.stands(2), x.stands(3),
            x.stands(4), x.stands(5), x.pram(3), x.count(5), x.count(6));
        x.tell(2);
        x.go(1);
        CHECK.dues("no more; nothing changes", "-2 1 1", x.back(), x.count(5), x.count(6));
    }

    private static String stance(PramAndSteps x) {
        StringBuilder all = new StringBuilder();
        for (int i = 0; i < 6; i++) {
            all.append(x.stands(i)).append(' ');
        }
        return all.append(x.pram(3)).toString();
    }

    private static void backOfLifts() {
        PramAndSteps x = Check.laid("s10,20;t1;t2;t3;i1;");
        x.keep();
        x.lift(0, true);
        x.lift(1, false);
        x.keep();
        x.lift(2, true);
        CHECK.dues("back()", "1 1 0 0", x.back(), x.station(0, 1), x.station(1, 1), x.station(2, 1));
        CHECK.dues("back()", "0 0 1 0 1", x.back(), x.station(0, 1), x.station(1, 1), x.station(2, 1), x.count(4));
    }

    private static void count() {
        PramAndSteps x = Check.laid("s1,10;s1,10;h1,1;h1,1;h1,1;t1;t1;t1;t1;e0,1,1;e0,2,1;e0,3,1;e1,2,1;e1,3,1;i0;i3;");
        x.go(2);
        x.rest();
        x.tell(0);
        x.tell(0);
        x.tell(0);
        x.keep();
        CHECK.dues("count", "2 3 4 5 2 3 2 1 80", x.count(0), x.count(1), x.count(2), x.count(3), x.count(4), x.count(5), x.count(6),
            x.count(7), x.count(8));
        CHECK.dues("count BAD", "-1 -1 -1 -1", x.count(-1), x.count(9), x.count(Integer.MAX_VALUE), x.count(Integer.MIN_VALUE));
    }
}
