import java.util.Random;

/** Runs of drawn calls, answered by the class and by Plain: every answer has to be the same. */
public final class PlainTest {
    private static final int RUNS = 600, CALLS = 512;

    private final Random draw;
    private final PramAndSteps x = new PramAndSteps();
    private final Plain y = new Plain();
    private final Check check;
    private final StringBuilder told = new StringBuilder();
    private int calls = 0;

    private PlainTest(long seed, Check check) {
        this.draw = new Random(seed);
        this.check = check;
    }

    public static void main(String[] args) {
        Check check = new Check();
        for (int run = 0; run < RUNS && check.isClean(); run++) {
            PlainTest one = new PlainTest(run, check);
            one.run();
            if (!check.isClean()) {
                System.out.println("in run " + run + ":" + one.told);
            }
        }
        check.end("PlainTest");
    }

    private void run() {
        while (calls < CALLS && check.isClean()) {
            if (calls == 0 || draw.nextInt(200) == 0) {
                writeTown();
            }
            call(draw.nextInt(42));
        }
    }

    private void due(String call, long got, long want) {
        calls++;
        told.append(' ').append(call).append('=').append(want);
        check.due(call, got, want);
    }

    // ---- drawn towns

    private int from(int low, int high) {
        int kind = draw.nextInt(12);
        return kind == 0 ? low : kind == 1 ? high : low + draw.nextInt(high - low + 1);
    }

    private String item(char kind, int stations) {
        int i = draw.nextInt(Math.max(1, stations)), j = draw.nextInt(Math.max(1, stations));
        switch (kind) {
            case 's': return "s" + from(1, draw.nextBoolean() ? 30 : 12) + "," + from(10, 60) + ";";
            case 'p': return "p" + from(3, 40) + "," + from(1, 60) + "," + from(1, 99) + ";";
            case 'b': return "b" + from(0, 40) + ";";
            case 'k': return "k" + from(0, 40) + "," + from(0, 99) + "," + from(0, draw.nextBoolean() ? 40 : 99) + ";";
            case 'a': return "a" + from(1, 99) + "," + from(1, 99) + ";";
            case 'h': return "h" + from(1, 99) + "," + from(0, 10) + ";";
            case 'n': return "n" + from(0, 23) + "," + from(0, 9) + ";";
            case 'q': return "q" + from(0, 99) + "," + from(0, 99) + ";";
            case 'm': return "m" + from(1, 99) + ";";
            case 't': return "t" + (draw.nextInt(3) == 0 ? 0 : from(0, 60)) + ";";
            case 'e': return i == j ? "" : "e" + i + "," + j + "," + from(1, 60) + ";";
            default: return stations == 0 ? "" : "i" + i + ";";
        }
    }

    private void writeTown() {
        due("wipe()", x.wipe(), y.wipe());
        StringBuilder text = new StringBuilder();
        int stations = 0;
        String kinds = draw.nextInt(3) == 0 ? "ssssssssssssspkah" : draw.nextInt(2) == 0 ? "sttttteeeeeii" : "spbkahhnnnnqmttteeiss";
        int items = 1 + draw.nextInt(26);
        for (int i = 0; i < items; i++) {
            char kind = i == 0 ? 's' : kinds.charAt(draw.nextInt(kinds.length()));
            String item = item(kind, stations);
            if (text.length() + item.length() > 200) {
                break;
            }
            stations += kind == 't' ? 1 : 0;
            text.append(item);
        }
        if (draw.nextInt(5) == 0) {
            text.setCharAt(draw.nextInt(text.length()), "0123456789,;;spbkahnqmtei x".charAt(draw.nextInt(27)));
        }
        for (int i = 0; i < text.length(); i++) {
            int letter = text.charAt(i);
            due("write(" + letter + ")", x.write(letter), y.write(letter));
        }
        due("fault()", x.fault(), y.fault());
        due("lay()", x.lay(), y.lay());
    }

    // ---- drawn calls

    /** A number of a range, at times beside it, at times far off. */
    private int near(int low, int high) {
        int kind = draw.nextInt(40);
        if (kind == 0) {
            return draw.nextInt();
        }
        return kind == 1 ? low - 1 : kind == 2 ? high + 1 : from(low, high);
    }

    private int below(int what) {
        return near(0, Math.max(0, y.count(what) - 1));
    }

    private void call(int which) {
        if (which < 21) {
            callOfStair(which);
        } else {
            callOfTown(which);
        }
    }

    private void callOfStair(int which) {
        boolean down = draw.nextBoolean();
        int a = near(0, 2), b = near(0, 1), s = below(0);
        switch (which) {
            case 0: due("count", x.count(a = near(0, 8)), y.count(a)); break;
            case 1: due("step " + s, x.step(s, b), y.step(s, b)); break;
            case 2: due("pram", x.pram(a = near(0, 12)), y.pram(a)); break;
            case 3: due("helper", x.helper(s = below(1), b), y.helper(s, b)); break;
            case 4: due("passers", x.passers(a = near(0, 23)), y.passers(a)); break;
            case 5: due("station", x.station(s = below(2), b), y.station(s, b)); break;
            case 6: if (draw.nextInt(6) == 0) { due("start " + down, x.start(down), y.start(down)); } break;
            case 7: due("force", x.force(s, a, down, b = near(0, 2)), y.force(s, a, down, b)); break;
            case 8: case 9: case 10: case 11: due("go " + a, x.go(a), y.go(a)); break;
            case 12: due("rest", x.rest(), y.rest()); break;
            case 13: due("undo", x.undo(), y.undo()); break;
            case 14: case 15: due("stands", x.stands(a = near(0, 5)), y.stands(a)); break;
            case 16: case 17: due("tell " + a, x.tell(a = near(0, 3)), y.tell(a)); break;
            case 18: if (draw.nextInt(5) == 0) { due("noRow", x.noRow(), y.noRow()); } break;
            case 19: due("judge", x.judge(), y.judge()); break;
            default: due("best " + (a = near(0, 3)) + down + b, x.best(a, down, b), y.best(a, down, b)); break;
        }
    }

    private void callOfTown(int which) {
        boolean yes = draw.nextBoolean();
        int a, b = near(0, 1), h = near(0, 23), z = near(0, 9999);
        switch (which) {
            case 21: due("asleep " + yes, x.asleep(yes), y.asleep(yes)); break;
            case 22: due("ends", x.ends(a = below(1), b), y.ends(a, b)); break;
            case 23: due("mate", x.mate(), y.mate()); break;
            case 24: due("time", x.time(a = below(1), b), y.time(a, b)); break;
            case 25: due("some", x.some(a = near(0, 9), yes), y.some(a, yes)); break;
            case 26: due("few", x.few(), y.few()); break;
            case 27: due("within", x.within(h, a = near(0, 300), yes), y.within(h, a, yes)); break;
            case 28: due("rush", x.rush(yes), y.rush(yes)); break;
            case 29: due("await", x.await(h, a = near(1, 1000), yes), y.await(h, a, yes)); break;
            case 30: due("out " + h + yes + b, x.out(h, yes, b), y.out(h, yes, b)); break;
            case 31: due("travel", x.travel(a = below(2), z = below(2), b), y.travel(a, z, b)); break;
            case 32: due("free", x.free(), y.free()); break;
            case 33: due("lifts", x.lifts(a = near(1, 3), b), y.lifts(a, b)); break;
            case 34: due("missed", x.missed(), y.missed()); break;
            case 35: due("tips", x.tips(a = near(0, 3)), y.tips(a)); break;
            case 36: due("bags", x.bags(a = near(0, 40)), y.bags(a)); break;
            case 37: due("lift", x.lift(a = below(2), yes), y.lift(a, yes)); break;
            case 38: due("day " + z, x.day(z, h, yes), y.day(z, h, yes)); break;
            case 39: due("year", x.year(z, a = near(1, 60), h, b = near(1, 300), yes), y.year(z, a, h, b, yes)); break;
            case 40: due("keep", x.keep(), y.keep()); break;
            default: due("back", x.back(), y.back()); break;
        }
    }
}
