import java.lang.reflect.Constructor;
import java.lang.reflect.Field;
import java.lang.reflect.Method;
import java.lang.reflect.Modifier;
import java.nio.file.Files;
import java.nio.file.Path;
import java.util.List;
import java.util.Set;
import java.util.TreeSet;

/** The document's face, whole and with nothing beside it, and what of LANGUAGE.md can be seen from outside. */
public final class FaceTest {
    private static final Check CHECK = new Check();
    private static final String FACE = "int write(int); int wipe(); int fault(); int lay(); int step(int,int); int pram(int); "
        + "int helper(int,int); int passers(int); int station(int,int); int start(boolean); int force(int,int,boolean,int); "
        + "int go(int); int rest(); int undo(); int stands(int); int tell(int); int noRow(); int judge(); int best(int,boolean,int); "
        + "int asleep(boolean); int ends(int,int); int mate(); long time(int,int); int some(int,boolean); int few(); "
        + "int within(int,int,boolean); int rush(boolean); int await(int,int,boolean); int out(int,boolean,int); "
        + "int travel(int,int,int); int free(); int lifts(int,int); int missed(); int tips(int); int bags(int); "
        + "int lift(int,boolean); int day(int,int,boolean); int year(int,int,int,int,boolean); int keep(); int back(); int count(int)";

    public static void main(String[] args) throws Exception {
        constants();
        methods();
        members();
        inside();
        source(Files.readAllLines(Path.of(args.length > 0 ? args[0] : "src/main/java/PramAndSteps.java")));
        CHECK.end("FaceTest");
    }

    private static void constants() {
        CHECK.dues("BAD, NO, FULL, NONE", "-1 -2 -3 -4", PramAndSteps.BAD, PramAndSteps.NO, PramAndSteps.FULL, PramAndSteps.NONE);
    }

    private static void holds(String what, boolean is) {
        CHECK.due(what, is ? 1 : 0, 1);
    }

    private static String told(Method method) {
        StringBuilder all = new StringBuilder(method.getReturnType() + " " + method.getName() + "(");
        String comma = "";
        for (Class<?> one : method.getParameterTypes()) {
            all.append(comma).append(one);
            comma = ",";
        }
        return all.append(")").toString();
    }

    private static void methods() {
        Set<String> want = new TreeSet<>(List.of(FACE.split("; ")));
        Set<String> got = new TreeSet<>();
        Set<String> publicNames = new TreeSet<>();
        for (Method method : PramAndSteps.class.getDeclaredMethods()) {
            if (!Modifier.isPrivate(method.getModifiers())) {
                got.add(told(method));
                publicNames.add(method.getName());
                holds(method + " is public, of an object, throws nothing", Modifier.isPublic(method.getModifiers())
                    && !Modifier.isStatic(method.getModifiers()) && method.getExceptionTypes().length == 0);
            }
        }
        holds("the methods " + got + " are those of the document", got.equals(want));
        for (Method method : PramAndSteps.class.getDeclaredMethods()) {
            holds(method + " bears a name of its own",
                !Modifier.isPrivate(method.getModifiers()) || !publicNames.contains(method.getName()));
        }
    }

    private static void members() {
        holds("public and final", Modifier.isPublic(PramAndSteps.class.getModifiers()) && Modifier.isFinal(PramAndSteps.class.getModifiers()));
        Set<String> open = new TreeSet<>();
        for (Field field : PramAndSteps.class.getDeclaredFields()) {
            if (!Modifier.isPrivate(field.getModifiers())) {
                open.add(field.getName());
            }
        }
        holds("open fields are " + open, open.equals(Set.of("BAD", "NO", "FULL", "NONE")));
        Constructor<?>[] made = PramAndSteps.class.getDeclaredConstructors();
        holds("one public constructor", made.length == 1 && Modifier.isPublic(made[0].getModifiers()) && made[0].getParameterCount() == 0);
    }

    private static void inside() {
        Class<?>[] classes = PramAndSteps.class.getDeclaredClasses();
        holds("at most twelve classes", classes.length < 12);
        for (Class<?> one : classes) {
            holds(one + " is static and not public", Modifier.isStatic(one.getModifiers()) && !Modifier.isPublic(one.getModifiers()));
            fields(one);
        }
        fields(PramAndSteps.class);
    }

    private static void fields(Class<?> one) {
        int own = 0;
        for (Field field : one.getDeclaredFields()) {
            if (Modifier.isStatic(field.getModifiers())) {
                holds(field + " is final", Modifier.isFinal(field.getModifiers()));
            } else {
                own++;
            }
        }
        holds(one + " has " + own + " fields", own <= 20);
        for (Method method : one.getDeclaredMethods()) {
            holds(method + " takes seven at most", method.getParameterCount() <= 7);
        }
    }

    private static void source(List<String> lines) {
        String[] never = {"throw", "catch", "try ", "finally", "->", "::", "synchronized", "assert", "double", "float", "Exact", "System.",
            "public static void"};
        int begun = -1;
        for (int i = 0; i < lines.size(); i++) {
            String line = lines.get(i);
            String told = "line " + (i + 1) + ": " + line;
            for (String one : never) {
                holds(told + " has no " + one, !line.contains(one));
            }
            holds(told + " imports Arrays alone", !line.startsWith("import") || line.equals("import java.util.Arrays;"));
            holds(told + " makes nothing but in a constructor",
                !line.contains("new ") || line.contains("/**") || line.contains(" = new ") && (line.contains("private final") || line.contains("this.")));
            holds(told + " is ASCII", line.chars().allMatch(c -> c >= 32 && c < 127));
            if (line.endsWith(") {") && line.matches(" {4,8}[a-z].*") && !line.contains(" for ") && !line.contains(" if ")) {
                begun = i;
            }
            if (line.matches(" {4}( {4})?}") && begun >= 0) {
                holds(told + " ends a short method", i - begun <= 60);
                begun = -1;
            }
        }
    }
}
