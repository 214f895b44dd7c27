/** Counts the answers that are not as due; every test ends with end(). */
final class Check {
    private int asked = 0;
    private int wrong = 0;

    void due(String call, long got, long want) {
        asked++;
        if (got != want) {
            wrong++;
            if (wrong <= 40) {
                System.out.println(call + " answered " + got + ", due is " + want);
            }
        }
    }

    /** Several answers of one call, written as "1 2 -1". */
    void dues(String calls, String want, long... got) {
        StringBuilder all = new StringBuilder();
        for (long one : got) {
            all.append(all.length() == 0 ? "" : " ").append(one);
        }
        asked++;
        if (!all.toString().equals(want)) {
            wrong++;
            System.out.println(calls + " answered " + all + ", due is " + want);
        }
    }

    boolean isClean() {
        return wrong == 0;
    }

    void end(String name) {
        System.out.println(name + ": " + asked + " answers, " + wrong + " not as due");
        if (wrong != 0) {
            System.exit(1);
        }
    }

    static void type(PramAndSteps x, String text) {
        for (int i = 0; i < text.length(); i++) {
            x.write(text.charAt(i));
        }
    }

    /** A new object with that TEXT laid. */
    static PramAndSteps laid(String text) {
        PramAndSteps x = new PramAndSteps();
        type(x, text);
        x.lay();
        return x;
    }

    /** What can be seen of an object without changing it, but for THE TEXT's letters. */
    static String seen(PramAndSteps x) {
        StringBuilder all = new StringBuilder();
        for (int i = 0; i < 9; i++) {
            all.append(x.count(i)).append(' ');
        }
        for (int i = 0; i < 13; i++) {
            all.append(x.pram(i)).append(' ');
        }
        for (int i = 0; i < 6; i++) {
            all.append(x.stands(i)).append(' ');
        }
        for (int i = 0; i < 7; i++) {
            all.append(x.station(i, 0)).append(' ').append(x.station(i, 1)).append(' ');
        }
        all.append(x.judge()).append(' ').append(x.fault());
        return all.toString();
    }
}
