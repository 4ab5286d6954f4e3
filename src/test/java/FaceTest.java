import java.io.IOException;
import java.lang.reflect.Constructor;
import java.lang.reflect.Field;
import java.lang.reflect.Method;
import java.lang.reflect.Modifier;
import java.nio.file.Files;
import java.nio.file.Path;
import java.util.List;
import java.util.Set;
import java.util.TreeSet;
import java.util.stream.Collectors;
import java.util.stream.Stream;

/** The class's face as the document has it, and those rules of LANGUAGE.md that can be looked up. */
public final class FaceTest {
    private static final Check check = new Check();
    private static final String FACE = "int feed 5;int river 1;int fault 0;int where 0;int reach 2;int rope 2;"
            + "int below 0;int harm 0;int spills 0;int outOfLaw 0;int narrowest 0;int worn 0;int spilt 0;"
            + "int depthBy 2;int harmBy 1;int bursts 1;int burstsAt 1;int spillsAt 1;int safeFlow 0;int lacing 0;"
            + "int length 0;int lengthSum 0;int lacings 0;int bestChange 0;int changeHarm 0;int passes 1;int stuck 1;"
            + "int letThrough 1;int bestBoat 0;int needs 1;int hauls 1;int fits 0;int could 0;int surely 0;int ask 0;"
            + "int askLeaves 0;int judge 0;int parish 3;int rests 0;int rest 0;int century 2;int burstBy 2;"
            + "int yearOf 2;int firstFlood 2;int lace 1;int ease 1;boolean mend 1;boolean rain 1;int year 0;"
            + "boolean seed 1;boolean undo 0;int mark 0;boolean back 1;int led 1;int size 1;int trouble 0";

    public static void main(String[] args) throws IOException {
        face();
        inside();
        source(Files.readAllLines(Path.of("src/main/java/RiverCorset.java")));
        check.end("FaceTest");
    }

    private static void same(String what, Object got, Object want) {
        check.due(what + ": " + got + " for " + want, got.equals(want), true);
    }

    private static void face() {
        Class<?> face = RiverCorset.class;
        check.due("public and final", face.getModifiers(), Modifier.PUBLIC | Modifier.FINAL);
        Set<String> methods = new TreeSet<>();
        for (Method method : face.getDeclaredMethods()) {
            if (!Modifier.isPrivate(method.getModifiers())) {
                check.due(method + " is public alone", method.getModifiers(), Modifier.PUBLIC);
                methods.add(method.getReturnType() + " " + method.getName() + " " + method.getParameterCount());
            }
        }
        same("methods", methods, new TreeSet<>(List.of(FACE.split(";"))));
        for (Field field : face.getDeclaredFields()) {
            check.due(field + " is private", Modifier.isPrivate(field.getModifiers()), !field.getName().equals("NONE"));
        }
        check.due("NONE", RiverCorset.NONE, -1);
        Constructor<?>[] constructors = face.getDeclaredConstructors();
        check.due("constructors", constructors.length, 1);
        check.due("public", constructors[0].getModifiers(), Modifier.PUBLIC);
        check.due("without arguments", constructors[0].getParameterCount(), 0);
    }

    private static void inside() {
        Set<String> names = Stream.of(FACE.split(";")).map(s -> s.split(" ")[1]).collect(Collectors.toSet());
        Class<?>[] classes = RiverCorset.class.getDeclaredClasses();
        check.due("twelve classes at most", classes.length + 1 <= 12, true);
        Stream.concat(Stream.of(RiverCorset.class), Stream.of(classes)).forEach(one -> {
            check.due(one + " is static", one == RiverCorset.class || Modifier.isStatic(one.getModifiers()), true);
            int fields = 0;
            for (Field field : one.getDeclaredFields()) {
                boolean ofClass = Modifier.isStatic(field.getModifiers());
                fields += ofClass ? 0 : 1;
                check.due(field + " is final", !ofClass || Modifier.isFinal(field.getModifiers()), true);
            }
            check.due(one + " has twenty fields at most", fields <= 20, true);
            for (Method method : one.getDeclaredMethods()) {
                check.due(method + " has a name of its own", Modifier.isPublic(method.getModifiers())
                        || !names.contains(method.getName()), true);
                check.due(method + " takes seven at most", method.getParameterCount() <= 7, true);
            }
        });
    }

    /** Objects are made in constructors alone, but for the one exception. */
    private static void source(List<String> lines) {
        int opened = 0;
        for (int i = 0; i < lines.size(); i++) {
            String line = lines.get(i);
            check.due("signs of line " + (i + 1), line.chars().allMatch(c -> c >= 32 && c < 127), true);
            check.due("catch in line " + (i + 1), line.matches(".*\\b(catch|finally|synchronized|assert)\\b.*"), false);
            check.due("import in line " + (i + 1), line.startsWith("import ")
                    && !line.equals("import java.util.NoSuchElementException;"), false);
            check.due("lambda in line " + (i + 1), line.contains("->") || line.contains("::"), false);
            if (line.contains("new ") && !line.trim().startsWith("*") && !line.trim().startsWith("/")) {
                check.due("made in line " + (i + 1) + line, line.matches(
                        " +(private )?(final )?[A-Z]?\\w+(\\[\\])? \\w+ = new [^;]+;"
                        + "| +(kept|marks)\\[i\\] = new State\\(\\);| +throw new NoSuchElementException\\(\\);"), true);
            }
            if (line.matches(" {4,8}[^ */].*\\) .*\\{")) {
                opened = i;
            }
            if (line.matches(" {4}\\}| {8}\\}")) {
                check.due("lines of the method at " + (opened + 1), i - opened <= 60, true);
            }
        }
    }
}
