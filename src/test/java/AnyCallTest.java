import java.lang.reflect.Method;
import java.util.Arrays;
import java.util.Comparator;
import java.util.Random;

/** Any arguments in any state: nothing is thrown, and an answer below 0 changes nothing. */
public final class AnyCallTest {
    private static final Check CHECK = new Check();
    private static final int[] ODD = {Integer.MIN_VALUE, Integer.MIN_VALUE + 1, -70000, -129, -5, -4, -3, -2, -1, 0, 1, 2, 3, 4, 5, 6, 7, 8,
        9, 10, 11, 12, 13, 20, 23, 24, 31, 32, 33, 40, 41, 59, 60, 61, 99, 100, 126, 127, 200, 255, 256, 299, 300, 301, 500, 999, 1000,
        1001, 9999, 10000, 65536, 1 << 30, Integer.MAX_VALUE - 1, Integer.MAX_VALUE};
    /** The dearest towns there are, and some at their edges. */
    private static final String[] TOWNS = {
        "",
        "s20,10;s19,11;s18,12;s17,13;s16,14;s15,15;s14,16;s13,17;s12,18;s11,19;s10,20;s9,21;p40,60,99;b20;k20,99,99;a99,1;h99,5;n0,9;",
        "s30,60;s30,60;s30,60;s30,60;s30,60;s30,60;s30,60;s30,60;s30,60;s30,60;s30,60;s30,60;p3,60,1;b40;k40,0,0;a1,99;",
        "s1,10;t0;t0;t0;t0;t0;t0;t0;e0,1,1;e1,2,1;e2,3,1;e3,4,1;e4,5,1;e5,6,1;e0,6,1;e0,5,1;e0,4,1;e0,3,1;i0;i6;",
        "s1,10;p40,1,99;k0,99,99;a99,99;q99,99;n0,9;n1,9;n2,9;n23,9;h1,10;h99,0;h50,5;h99,10;m1;",
    };

    public static void main(String[] args) throws Exception {
        Method[] calls = PramAndSteps.class.getDeclaredMethods();
        calls = Arrays.stream(calls).filter(one -> java.lang.reflect.Modifier.isPublic(one.getModifiers()))
            .sorted(Comparator.comparing(Method::getName)).toArray(Method[]::new);
        for (int run = 0; run < 200; run++) {
            oneRun(calls, new Random(run), TOWNS[run % TOWNS.length]);
        }
        dearest();
        CHECK.end("AnyCallTest");
    }

    private static void oneRun(Method[] calls, Random draw, String town) {
        PramAndSteps x = Check.laid(town);
        for (int i = 0; i < 300; i++) {
            Method call = calls[draw.nextInt(calls.length)];
            Object[] with = new Object[call.getParameterCount()];
            for (int j = 0; j < with.length; j++) {
                boolean yes = call.getParameterTypes()[j] == boolean.class;
                with[j] = yes ? (Object) draw.nextBoolean() : (Object) ODD[draw.nextInt(ODD.length)];
            }
            String before = Check.seen(x);
            long got = Long.MIN_VALUE;
            try {
                got = ((Number) call.invoke(x, with)).longValue();
            } catch (ReflectiveOperationException e) {
                System.out.println(call + " " + Arrays.toString(with) + " threw " + e.getCause());
            }
            CHECK.due(call + " " + Arrays.toString(with) + " is -4 or more", got >= -4 ? 1 : 0, 1);
            if (got < 0) {
                CHECK.due(call + " " + Arrays.toString(with) + " changed something", Check.seen(x).equals(before) ? 1 : 0, 1);
            }
        }
    }

    /** 512 of the dearest calls end, and soon. */
    private static void dearest() {
        PramAndSteps x = Check.laid(TOWNS[1]);
        for (int i = 0; i < 512; i++) {
            CHECK.due("asleep() again", x.asleep(i % 2 == 0), i % 2 == 0 ? x.asleep(true) : x.asleep(false));
        }
        x = Check.laid(TOWNS[4]);
        for (int i = 0; i < 512; i++) {
            CHECK.due("year() of HOURS in which nobody comes", x.year(i, 60, 3, 300, true), 0);
        }
    }
}
