import java.lang.reflect.Constructor;
import java.lang.reflect.Field;
import java.lang.reflect.Method;
import java.lang.reflect.Modifier;
import java.nio.file.Files;
import java.nio.file.Path;
import java.util.Set;
import java.util.TreeSet;
import java.util.regex.Matcher;
import java.util.regex.Pattern;

/** The face is the document's, no more; the source keeps to those rules of LANGUAGE.md that can be seen word by word. */
public final class FaceTest {
    static final String FACE = "write/1 wipe/0 fault/0 lay/0 cycle/1 time/2 order/3 zone/3 undo/0 task/2 put/2 off/1 why/2"
        + " station/2 where/1 left/0 adopt/0 floor/1 load/1 full/1 fewest/0 best/1 many/0 may/1 shortest/1 by/1 were/2"
        + " binds/1 count/1";
    static int wrong = 0;

    public static void main(String[] args) throws Exception {
        members();
        nested();
        source(Files.readString(Path.of("src/main/java/BalancedLine.java")));
        System.out.println(wrong == 0 ? "FaceTest: the face is as due" : wrong + " faults of the face");
        if (wrong != 0) {
            System.exit(1);
        }
    }

    static void check(boolean holds, String what) {
        if (!holds) {
            wrong++;
            System.out.println("is not so: " + what);
        }
    }

    static void members() {
        Class<BalancedLine> face = BalancedLine.class;
        check(Modifier.isPublic(face.getModifiers()) && Modifier.isFinal(face.getModifiers()), "public and final");
        Set<String> due = new TreeSet<>(Set.of(FACE.split(" ")));
        Set<String> names = new TreeSet<>();
        for (Method m : face.getDeclaredMethods()) {
            if (Modifier.isPublic(m.getModifiers())) {
                names.add(m.getName() + "/" + m.getParameterCount());
                check(m.getReturnType() == int.class && !Modifier.isStatic(m.getModifiers()), m + " answers an int");
                for (Class<?> type : m.getParameterTypes()) {
                    check(type == int.class, m + " takes ints");
                }
            } else {
                check(Modifier.isPrivate(m.getModifiers()) || m.isSynthetic(), m + " is private");
                check(!FACE.matches("(.* )?" + m.getName() + "/.*"), m + " bears no public name");
            }
        }
        check(names.equals(due), "the methods " + names);
        Constructor<?>[] constructors = face.getDeclaredConstructors();
        check(constructors.length == 1 && constructors[0].getParameterCount() == 0
            && Modifier.isPublic(constructors[0].getModifiers()), "one public constructor");
        Set<String> constants = new TreeSet<>();
        for (Field f : face.getDeclaredFields()) {
            if (Modifier.isPublic(f.getModifiers())) {
                constants.add(f.getName());
            } else {
                check(Modifier.isPrivate(f.getModifiers()), f + " is private");
            }
            check(!Modifier.isStatic(f.getModifiers()) || Modifier.isFinal(f.getModifiers()), f + " is final");
        }
        check(constants.equals(Set.of("BAD", "NO", "FULL", "NONE")), "the constants " + constants);
    }

    static void nested() {
        Class<?>[] inside = BalancedLine.class.getDeclaredClasses();
        check(inside.length < 12, "at most some twelve classes");
        for (Class<?> c : inside) {
            check(Modifier.isStatic(c.getModifiers()), c + " is static");
            int fields = 0;
            for (Field f : c.getDeclaredFields()) {
                fields += Modifier.isStatic(f.getModifiers()) ? 0 : 1;
                check(!Modifier.isStatic(f.getModifiers()) || Modifier.isFinal(f.getModifiers()), f + " is final");
            }
            check(fields <= 20, c + " has at most twenty fields");
            for (Method m : c.getDeclaredMethods()) {
                check(m.getParameterCount() <= 7, m + " takes at most seven");
                check(!FACE.matches("(.* )?" + m.getName() + "/.*"), m + " bears no public name");
            }
        }
    }

    static void source(String text) {
        String code = text.replaceAll("(?s)/\\*.*?\\*/", "").replaceAll("//[^\n]*", "").replaceAll("\"[^\"\n]*\"", "\"\"");
        String banned = "\\b(throw|throws|try|catch|synchronized|assert|package|record|Exact|instanceof|Random|System\\.(?!arraycopy)\\w+)\\b|->|::";
        Matcher m = Pattern.compile(banned).matcher(code);
        while (m.find()) {
            check(false, "no " + m.group());
        }
        Matcher imports = Pattern.compile("import ([^;]+);").matcher(code);
        while (imports.find()) {
            check(imports.group(1).equals("java.util.Arrays"), "no import " + imports.group(1));
        }
        check(text.chars().allMatch(c -> c == '\n' || c >= 32 && c < 127), "plain letters");
    }
}
