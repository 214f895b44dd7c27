import java.io.ByteArrayOutputStream;
import java.io.IOException;
import java.io.PrintStream;
import java.lang.reflect.Method;
import java.lang.reflect.Modifier;
import java.net.URL;
import java.net.URLClassLoader;
import java.nio.file.Files;
import java.nio.file.Path;
import java.util.ArrayList;
import java.util.List;
import java.util.Map;
import java.util.Set;
import java.util.TreeMap;
import java.util.TreeSet;
import java.util.regex.Matcher;
import java.util.regex.Pattern;
import javax.tools.ToolProvider;

/** README.md for a reader who has nothing else: its program, and its tables of ITEMS, answers below 0 and calls. */
public final class ReadmeTest {
    private static final Check CHECK = new Check();
    private static final List<String> REFUSALS = List.of("BAD", "NO", "FULL", "NONE");
    private static final String KINDS = "spbkahnqmtei";
    private static final Pattern BOUNDS = Pattern.compile("[A-Z] (\\d+) to (\\d+)");
    private static final Pattern MOST = Pattern.compile("^(\\d+) at most");

    public static void main(String[] args) throws Exception {
        String page = Files.readString(Path.of("README.md"));
        program(page);
        items(rowsOf(page, "## A TEXT"));
        refusals(rowsOf(page, "## Answers below 0"));
        calls(rowsOf(page, "## The calls"));
        tests(page);
        CHECK.end("ReadmeTest");
    }

    private static void holds(String what, boolean is) {
        CHECK.due(what, is ? 1 : 0, 1);
    }

    // ---- the program

    private static void program(String page) throws Exception {
        Path room = Files.createTempDirectory("readme");
        Path file = room.resolve("Example.java");
        Files.writeString(file, blockOf(page, "java"));
        String here = System.getProperty("java.class.path");
        int compiled = ToolProvider.getSystemJavaCompiler().run(null, null, null, "-cp", here, "-d", room.toString(), file.toString());
        CHECK.due("compiling the program of README.md", compiled, 0);
        if (compiled == 0) {
            String want = blockOf(page, "text");
            String got = printedBy(room);
            holds("the program prints\n" + got + "README.md says\n" + want, got.equals(want));
        }
        for (String one : List.of("Example.java", "Example.class")) {
            Files.deleteIfExists(room.resolve(one));
        }
        Files.deleteIfExists(room);
    }

    private static String printedBy(Path room) throws Exception {
        PrintStream before = System.out;
        ByteArrayOutputStream printed = new ByteArrayOutputStream();
        try (URLClassLoader loader = new URLClassLoader(new URL[] {room.toUri().toURL()})) {
            System.setOut(new PrintStream(printed, true));
            loader.loadClass("Example").getMethod("main", String[].class).invoke(null, (Object) new String[0]);
        } finally {
            System.setOut(before);
        }
        return printed.toString().replace("\r\n", "\n");
    }

    /** The first block of that kind. */
    private static String blockOf(String page, String kind) {
        Matcher found = Pattern.compile("(?s)```" + kind + "\n(.*?)```").matcher(page);
        return found.find() ? found.group(1) : "";
    }

    // ---- tables

    /** The rows of all tables of a part of the page, without their heads, each as its cells. */
    private static List<String[]> rowsOf(String page, String title) {
        List<String[]> rows = new ArrayList<>();
        for (String part : page.split("(?m)^(?=## )")) {
            if (part.startsWith(title + "\n")) {
                for (String line : part.split("\n")) {
                    if (line.startsWith("| `")) {
                        rows.add(line.substring(1).trim().split(" *\\| *", -1));
                    }
                }
            }
        }
        holds("README.md has tables under " + title, !rows.isEmpty());
        return rows;
    }

    private static void items(List<String[]> rows) {
        StringBuilder kinds = new StringBuilder();
        List<Integer> without = new ArrayList<>();
        for (String[] row : rows) {
            char kind = row[0].charAt(1);
            kinds.append(kind);
            bounds(kind, row[2]);
            most(kind, row[2], row[3]);
            if ("pbkaqm".indexOf(kind) >= 0) {
                for (String one : row[4].split(", ")) {
                    without.add(Integer.parseInt(one));
                }
            }
        }
        holds("all ITEMS, in the document's order: " + kinds, kinds.toString().equals(KINDS));
        PramAndSteps x = Check.laid("s1,10;");
        for (int i = 0; i < without.size(); i++) {
            CHECK.due("without its ITEM, pram(" + i + ")", without.get(i), x.pram(i));
        }
        CHECK.due("how many numbers there are without an ITEM", without.size(), 12);
    }

    private static String item(char kind, List<Integer> numbers) {
        StringBuilder all = new StringBuilder().append(kind);
        for (int i = 0; i < numbers.size(); i++) {
            all.append(i == 0 ? "" : ",").append(numbers.get(i));
        }
        return all.append(';').toString();
    }

    /** FAULT of ITEMS behind as many STATIONS as there can be, where those are needed; counted from the first ITEM. */
    private static int faultOf(char kind, String items) {
        String ahead = kind == 'e' || kind == 'i' ? "t0;t0;t0;t0;t0;t0;t0;" : "";
        PramAndSteps x = new PramAndSteps();
        Check.type(x, ahead + items);
        return x.fault() == PramAndSteps.NONE ? PramAndSteps.NONE : x.fault() - ahead.length();
    }

    /** Numbers that are fine: the lowest ones; a LINE is between 5 and 4, since it can not be between 0 and 0. */
    private static List<Integer> someNumbers(char kind, String told) {
        List<Integer> numbers = new ArrayList<>();
        Matcher found = BOUNDS.matcher(told);
        while (found.find()) {
            numbers.add(Integer.parseInt(found.group(1)));
        }
        if (kind == 'e') {
            numbers.set(0, 5);
            numbers.set(1, 4);
        }
        return numbers;
    }

    private static void bounds(char kind, String told) {
        List<Integer> numbers = someNumbers(kind, told);
        Matcher found = BOUNDS.matcher(told);
        for (int i = 0; found.find(); i++) {
            int low = Integer.parseInt(found.group(1));
            int high = Integer.parseInt(found.group(2));
            for (int number = 0; number <= 99; number++) {
                List<Integer> changed = new ArrayList<>(numbers);
                changed.set(i, number);
                boolean twice = kind == 'e' && changed.get(0).equals(changed.get(1));
                boolean fine = number >= low && number <= high && !twice;
                String item = item(kind, changed);
                CHECK.due("fault() of " + item, faultOf(kind, item), fine ? PramAndSteps.NONE : 0);
            }
        }
    }

    /** As many as are told, and one more; of an ITEM that may come as often as one likes, as many as there is room for. */
    private static void most(char kind, String numbers, String told) {
        String item = item(kind, someNumbers(kind, numbers));
        Matcher found = MOST.matcher(told);
        if (found.find()) {
            String all = item.repeat(Integer.parseInt(found.group(1)));
            CHECK.due("fault() of " + all, faultOf(kind, all), PramAndSteps.NONE);
            CHECK.due("fault() of " + all + item, faultOf(kind, all + item), all.length());
        } else {
            String all = item.repeat(179 / item.length());
            CHECK.due("fault() of " + all, faultOf(kind, all), PramAndSteps.NONE);
        }
    }

    private static void refusals(List<String[]> rows) throws Exception {
        Set<String> names = new TreeSet<>();
        for (String[] row : rows) {
            String name = row[0].replace("`", "");
            names.add(name);
            CHECK.due(name + " as README.md has it", Integer.parseInt(row[1]), PramAndSteps.class.getField(name).getInt(null));
        }
        holds("all answers below 0: " + names, names.equals(new TreeSet<>(REFUSALS)));
        PramAndSteps x = new PramAndSteps();
        CHECK.dues("the calls beside them", "-1 -2 1 2 -3 -4", x.passers(24), x.undo(), x.keep(), x.keep(), x.keep(), x.fault());
    }

    private static void calls(List<String[]> rows) throws IOException {
        Map<String, Integer> face = new TreeMap<>();
        for (Method method : PramAndSteps.class.getDeclaredMethods()) {
            if (Modifier.isPublic(method.getModifiers())) {
                face.put(method.getName(), method.getParameterCount());
            }
        }
        String document = Files.readString(Path.of("../shared/DOC.md"));
        Map<String, Integer> told = new TreeMap<>();
        for (String[] row : rows) {
            String call = row[0].replace("`", "");
            String name = call.substring(0, call.indexOf('('));
            String with = call.substring(call.indexOf('(') + 1, call.indexOf(')'));
            holds(name + " is told once", told.put(name, with.isEmpty() ? 0 : with.split(",").length) == null);
            Set<String> want = namedIn(promiseOf(document, name));
            holds(name + " answers below 0: " + want, namedIn(row[2]).equals(want));
        }
        holds("all calls with their numbers: " + told, told.equals(face));
    }

    private static Set<String> namedIn(String words) {
        Set<String> named = new TreeSet<>();
        for (String one : REFUSALS) {
            if (Pattern.compile("\\b" + one + "\\b").matcher(words).find()) {
                named.add(one);
            }
        }
        return named;
    }

    private static String promiseOf(String document, String name) {
        Matcher found = Pattern.compile("(?ms)^## Promise \\d+: " + name + "$(.*?)(?=^## )").matcher(document);
        boolean there = found.find();
        holds("the document has a promise of " + name, there);
        return there ? found.group(1) : "";
    }

    /** Every test is named, and none that is not there. */
    private static void tests(String page) throws IOException {
        Set<String> there = new TreeSet<>();
        try (var files = Files.list(Path.of("src/test/java"))) {
            files.map(file -> file.getFileName().toString()).filter(name -> name.endsWith("Test.java"))
                .forEach(name -> there.add(name.replace(".java", "")));
        }
        Set<String> told = new TreeSet<>();
        for (String[] row : rowsOf(page, "## Tests")) {
            told.addAll(List.of(row[0].replace("`", "").split(", ")));
        }
        holds("tests told " + told + ", there are " + there, told.equals(there));
    }
}
