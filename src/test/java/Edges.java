import java.io.IOException;
import java.lang.reflect.InvocationTargetException;
import java.lang.reflect.Method;
import java.nio.file.Files;
import java.nio.file.Path;
import java.util.ArrayList;
import java.util.List;
import java.util.Set;
import java.util.TreeSet;
import java.util.regex.Matcher;
import java.util.regex.Pattern;

/**
 * Tests of the document's boundary sentences. A test names a promise and the words of a sentence, then tells runs of
 * calls on new objects, each written as "go(0)=1 go(3)=BAD"; a call without = is only made. Beside answers:
 * the words have to stand in the document; a refused call, and a call that only looks, has to change nothing; and
 * each of BAD, NO, FULL, NONE that a promise names has to be answered by its call in some run.
 */
final class Edges {
    private static final Path DOCUMENT = Path.of("../shared/DOC.md");
    private static final Set<String> CHANGING =
        Set.of("write", "wipe", "lay", "start", "go", "rest", "undo", "tell", "noRow", "bags", "lift", "keep", "back");
    private static final Pattern CALL = Pattern.compile("([a-zA-Z]+)\\((.*)\\)(=(\\S+))?");
    private static final List<String> REFUSALS = List.of("BAD", "NO", "FULL", "NONE");

    private final String name;
    private final Check check = new Check();
    private final String[] document = readDocument();
    private final Set<String> covered = new TreeSet<>();
    private int sentences = 0;

    Edges(String name) {
        this.name = name;
    }

    /** One sentence of the document, tested by these runs. */
    void edge(int promise, String words, String... runs) {
        sentences++;
        String about = "promise " + promise + ", \"" + words + "\": ";
        holds(about + "stands in the document", stands(promise, words));
        for (String run : runs) {
            run(promise, about, callsOf(run));
        }
        covered.add(promise + " is tested");
    }

    /** Ends the tests of these promises: each is tested, in each answer below 0 that it names. */
    void end(int first, int last) {
        for (int promise = first; promise <= last; promise++) {
            holds("promise " + promise + " is tested", covered.contains(promise + " is tested"));
            for (String refusal : REFUSALS) {
                if (Pattern.compile("\\b" + refusal + "\\b").matcher(section("## Promise " + promise + ":")).find()) {
                    holds("promise " + promise + " is tested to answer " + refusal, covered.contains(promise + " answers " + refusal));
                }
            }
        }
        System.out.println(name + ": " + sentences + " sentences");
        check.end(name);
    }

    private void holds(String what, boolean is) {
        check.due(what, is ? 1 : 0, 1);
    }

    // ---- the document

    private static String[] readDocument() {
        try {
            return Files.readString(DOCUMENT).split("(?m)^(?=## )");
        } catch (IOException e) {
            System.out.println(DOCUMENT + " can not be read: the words of the tests are not looked up");
            return new String[0];
        }
    }

    /** A part of the document with one blank between words; empty, if there is none. */
    private String section(String title) {
        for (String part : document) {
            if (part.startsWith(title)) {
                return part.replaceAll("\\s+", " ");
            }
        }
        return "";
    }

    private boolean stands(int promise, String words) {
        return document.length == 0 || section("## Promise " + promise + ":").contains(words)
            || section("## Terms").contains(words) || section("## What it is").contains(words);
    }

    // ---- runs of calls

    private void run(int promise, String about, List<Call> calls) {
        PramAndSteps x = new PramAndSteps();
        List<Call> made = new ArrayList<>();
        String before = null;
        for (Call call : calls) {
            long got = call.on(x);
            if (call.want != null) {
                check.due(about + told(made) + call.told(), got, number(call.want));
                cover(promise, call);
            }
            if (got >= 0 && CHANGING.contains(call.method.getName())) {
                made.add(call);
                before = null;
            } else {
                before = before == null ? allOf(made, null) : before;
                holds(about + told(made) + call.told() + " changes nothing", allOf(made, call).equals(before));
            }
        }
    }

    private void cover(int promise, Call call) {
        if (REFUSALS.contains(call.want) && section("## Promise " + promise + ":").contains(": " + call.method.getName() + " ")) {
            covered.add(promise + " answers " + call.want);
        }
    }

    /** The last calls made; letters of a TEXT as they are. */
    private static String told(List<Call> made) {
        StringBuilder all = new StringBuilder();
        for (Call call : made) {
            boolean letter = call.method.getName().equals("write");
            all.append(letter ? "" + (char) (int) (Integer) call.with[0] : " " + call.told() + " ");
        }
        return all.length() > 300 ? ".." + all.substring(all.length() - 300) : all.toString();
    }

    /** All that can be found out of an object behind these calls, and one more, if there is one. */
    private static String allOf(List<Call> made, Call more) {
        return seenOf(replayed(made, more)) + "; then " + takenApart(replayed(made, more));
    }

    private static PramAndSteps replayed(List<Call> made, Call more) {
        PramAndSteps x = new PramAndSteps();
        for (Call call : made) {
            call.on(x);
        }
        if (more != null) {
            more.on(x);
        }
        return x;
    }

    private static String seenOf(PramAndSteps x) {
        StringBuilder all = new StringBuilder(Check.seen(x));
        for (int s = 0; s < x.count(0); s++) {
            all.append(' ').append(x.step(s, 0)).append(' ').append(x.step(s, 1));
        }
        for (int h = 0; h < x.count(1); h++) {
            all.append(' ').append(x.helper(h, 0)).append(' ').append(x.helper(h, 1));
        }
        for (int h = 0; h < 24; h++) {
            all.append(' ').append(x.passers(h));
        }
        for (int a = 0; a < x.count(2); a++) {
            for (int b = 0; b < a; b++) {
                all.append(' ').append(x.travel(a, b, 0));
            }
        }
        return all.toString();
    }

    /** What is to be UNDONE, what is KEPT and THE TEXT are seen only by using them up. */
    private static String takenApart(PramAndSteps x) {
        StringBuilder all = new StringBuilder();
        for (int i = 0; i < 10; i++) {
            all.append(x.undo()).append(' ').append(Check.seen(x)).append('|');
        }
        for (int i = 0; i < 4; i++) {
            all.append(x.back()).append(' ').append(Check.seen(x)).append('|');
        }
        all.append(x.lay()).append(' ').append(seenOf(x));
        return all.toString();
    }

    // ---- reading what is written

    private static List<Call> callsOf(String run) {
        List<Call> calls = new ArrayList<>();
        for (String one : run.trim().split("\\s+")) {
            Matcher found = CALL.matcher(one);
            if (!found.matches()) {
                throw new IllegalArgumentException("no call: " + one);
            }
            String method = found.group(1);
            if (method.equals("text") || method.equals("laid")) {
                for (char letter : found.group(2).toCharArray()) {
                    calls.add(new Call("write", "" + (int) letter, null));
                }
                if (method.equals("laid")) {
                    calls.add(new Call("lay", "", "" + found.group(2).replaceAll("[^s]", "").length()));
                }
            } else {
                calls.add(new Call(method, found.group(2), found.group(4)));
            }
        }
        return calls;
    }

    private static long number(String written) {
        switch (written) {
            case "BAD": return PramAndSteps.BAD;
            case "NO": return PramAndSteps.NO;
            case "FULL": return PramAndSteps.FULL;
            case "NONE": return PramAndSteps.NONE;
            case "MIN": return Integer.MIN_VALUE;
            case "MAX": return Integer.MAX_VALUE;
            default: return Long.parseLong(written);
        }
    }

    /** One call of the face, with the answer that is due, if it is asked for. */
    private static final class Call {
        private final Method method;
        private final Object[] with;
        private final String want;

        Call(String name, String numbers, String want) {
            this.method = methodOf(name);
            this.want = want;
            String[] written = numbers.isEmpty() ? new String[0] : numbers.split(",", -1);
            this.with = new Object[written.length];
            for (int i = 0; i < written.length; i++) {
                boolean yes = method.getParameterTypes()[i] == boolean.class;
                with[i] = yes ? (Object) Boolean.valueOf(written[i]) : (Object) (int) number(written[i]);
            }
        }

        private static Method methodOf(String name) {
            for (Method one : PramAndSteps.class.getMethods()) {
                if (one.getName().equals(name) && one.getDeclaringClass() == PramAndSteps.class) {
                    return one;
                }
            }
            throw new IllegalArgumentException("no method: " + name);
        }

        /** A call that throws answers what none may answer. */
        long on(PramAndSteps x) {
            try {
                return ((Number) method.invoke(x, with)).longValue();
            } catch (InvocationTargetException e) {
                System.out.println(told() + " threw " + e.getCause());
                return Long.MIN_VALUE;
            } catch (IllegalAccessException e) {
                throw new IllegalStateException(e);
            }
        }

        String told() {
            StringBuilder all = new StringBuilder(method.getName() + "(");
            for (int i = 0; i < with.length; i++) {
                all.append(i == 0 ? "" : ",").append(with[i]);
            }
            return all.append(")").toString();
        }
    }
}
