import java.io.IOException;
import java.lang.reflect.Constructor;
import java.lang.reflect.Field;
import java.lang.reflect.Method;
import java.lang.reflect.Modifier;
import java.nio.file.Files;
import java.nio.file.Path;
import java.util.Arrays;
import java.util.Set;
import java.util.TreeSet;
import java.util.regex.Matcher;
import java.util.regex.Pattern;

/** The document's public face, and those rules of LANGUAGE.md that a look at the class or its text can tell. */
public final class LanguageTest {
    private static final Check check = new Check();
    private static final String SOURCE = "src/main/java/HeftPlanner.java";
    private static final String[] METHODS = {"addTask/4", "addEdge/3", "setDelay/2", "plan/0", "rank/1", "orderAt/1",
        "plannedProc/1", "plannedStart/1", "plannedFinish/1", "makespan/0", "run/1", "clock/0", "replayStart/1",
        "replayFinish/1", "taskCount/0", "edgeCount/0"};
    private static final String[] CONSTANTS = {"ERR_ARG=-1", "ERR_FULL=-2", "ERR_DUP=-3", "ERR_CYCLE=-4",
        "ERR_EMPTY=-5", "ERR_NOPLAN=-6", "NOT_YET=-7", "MAX_PROCS=4", "MAX_TASKS=16", "MAX_EDGES=32", "MAX_COST=100",
        "MAX_COMM=100", "MAX_DELAY=100", "MAX_TIME=100000"};
    private static final String[] FORBIDDEN = {"import", "package", "float", "double", "String", "Math", "Integer",
        "System", "Arrays", "Object", "null", "throw", "throws", "try", "catch", "finally", "synchronized", "assert",
        "instanceof", "interface", "enum", "record", "protected", "var"};

    public static void main(String[] args) throws Exception {
        classIsAlone();
        constructorIsTheDocuments();
        methodsAreTheDocuments();
        fieldsAreTheDocuments();
        wordsAreAllowed();
        check.end();
    }

    private static void classIsAlone() {
        check.holds("public and final", Modifier.isPublic(HeftPlanner.class.getModifiers())
            && Modifier.isFinal(HeftPlanner.class.getModifiers()));
        check.holds("no superclass or interface", HeftPlanner.class.getSuperclass() == Object.class
            && HeftPlanner.class.getInterfaces().length == 0);
        check.due("nested classes", HeftPlanner.class.getDeclaredClasses().length, 0);
    }

    private static void constructorIsTheDocuments() {
        Constructor<?>[] all = HeftPlanner.class.getDeclaredConstructors();
        check.due("constructors", all.length, 1);
        check.holds("public", Modifier.isPublic(all[0].getModifiers()));
        check.holds("two ints", Arrays.equals(all[0].getParameterTypes(), new Class<?>[] {int.class, int.class}));
    }

    private static void methodsAreTheDocuments() {
        Set<String> open = new TreeSet<>();
        Set<String> openNames = new TreeSet<>();
        for (Method m : HeftPlanner.class.getDeclaredMethods()) {
            check.holds(m.getName() + " has seven parameters at most", m.getParameterCount() <= 7);
            if (Modifier.isPrivate(m.getModifiers())) {
                continue;
            }
            open.add(m.getName() + "/" + m.getParameterCount());
            openNames.add(m.getName());
            check.holds(m.getName() + " is public, not static, over ints", Modifier.isPublic(m.getModifiers())
                && !Modifier.isStatic(m.getModifiers()) && m.getReturnType() == int.class
                && Arrays.stream(m.getParameterTypes()).allMatch(type -> type == int.class));
        }
        check.same("the open methods", open.toString(), new TreeSet<>(Arrays.asList(METHODS)).toString());
        for (Method m : HeftPlanner.class.getDeclaredMethods()) {
            check.holds(m.getName() + " has a name of its own",
                !Modifier.isPrivate(m.getModifiers()) || !openNames.contains(m.getName()));
            check.holds(m.getName() + " answers no array", !m.getReturnType().isArray());
        }
    }

    private static void fieldsAreTheDocuments() throws IllegalAccessException {
        Set<String> open = new TreeSet<>();
        for (Field f : HeftPlanner.class.getDeclaredFields()) {
            Class<?> type = f.getType().isArray() ? f.getType().getComponentType() : f.getType();
            check.holds(f.getName() + " is a number or an array of numbers",
                type.isPrimitive() && type != float.class && type != double.class);
            if (Modifier.isStatic(f.getModifiers())) {
                check.holds(f.getName() + " is a constant", Modifier.isFinal(f.getModifiers())
                    && (f.getType() == int.class || f.getType() == long.class));
            }
            if (!Modifier.isPrivate(f.getModifiers())) {
                check.holds(f.getName() + " is public and static",
                    Modifier.isPublic(f.getModifiers()) && Modifier.isStatic(f.getModifiers()));
                open.add(f.getName() + "=" + f.getInt(null));
            }
        }
        check.same("the open constants", open.toString(), new TreeSet<>(Arrays.asList(CONSTANTS)).toString());
    }

    private static void wordsAreAllowed() throws IOException {
        String text = Files.readString(Path.of(SOURCE)).replaceAll("//.*", "");
        for (String word : FORBIDDEN) {
            Matcher found = Pattern.compile("\\b" + word + "\\b").matcher(text);
            check.holds("the word " + word + " is not used", !found.find());
        }
        check.holds("no lambda and no method reference", !text.contains("->") && !text.contains("::"));
        Matcher made = Pattern.compile("\\bnew\\b.*").matcher(text);
        while (made.find()) {
            check.holds("an array of constant length: " + made.group(),
                made.group().matches("new int\\[[A-Z_]+\\];"));
        }
    }
}
