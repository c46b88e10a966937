import java.lang.reflect.Constructor;
import java.lang.reflect.Field;
import java.lang.reflect.Method;
import java.lang.reflect.Modifier;
import java.nio.charset.StandardCharsets;
import java.nio.file.Files;
import java.nio.file.Path;
import java.util.Arrays;
import java.util.TreeSet;
import java.util.regex.Matcher;
import java.util.regex.Pattern;

/** The public face is the document's and no more; the file keeps to what LANGUAGE.md lets be seen. */
public final class FaceTest {
    private static final Check CHECK = new Check();
    private static final String[] FACE = {
        "int type(int)", "int clear()", "int gate()", "int lock(int,int)", "int person(int,int)",
        "int opens(int,int)", "int shuts(int,int)", "int hangs(int,int)", "int tells(int,int,int)",
        "int changes(int,int)", "int tries(int,int)", "int undo()", "int now(int)", "int left(int)",
        "int jam(int)", "int near(int,int)", "int odds(int,int)", "int hears(int,int)", "int forget()",
        "int codes(int)", "int ask()", "int mark(int,int)", "int keep(int)", "int back(int)",
        "int count(int)", "long trace()",
    };
    private static final String[] CONSTANTS = {"BAD=-1", "STATE=-2", "FULL=-3", "NONE=-9", "NO=-1000000"};
    private static final String[] FORBIDDEN = {
        "throw", "throws", "try", "catch", "finally", "synchronized", "assert", "->", "::", "@", "protected",
        "Random", "Thread", "System\\.(?!arraycopy)", "Math\\.\\w+Exact", "var", "native", "volatile", "Object",
    };

    public static void main(String[] args) throws Exception {
        face();
        nested();
        source();
        CHECK.end();
    }

    private static void face() throws Exception {
        TreeSet<String> methods = new TreeSet<>();
        for (Method m : GateChain.class.getDeclaredMethods()) {
            if (!Modifier.isPrivate(m.getModifiers()) && !m.isSynthetic()) {
                StringBuilder s = new StringBuilder(m.getReturnType() + " " + m.getName() + "(");
                for (Class<?> p : m.getParameterTypes()) {
                    s.append(s.charAt(s.length() - 1) == '(' ? "" : ",").append(p);
                }
                methods.add(s.append(")").toString());
                CHECK.due(m.getName() + " is public", Modifier.isPublic(m.getModifiers()) ? 1 : 0, 1);
            }
        }
        CHECK.same("the methods", methods.toString(), new TreeSet<>(Arrays.asList(FACE)).toString());
        TreeSet<String> constants = new TreeSet<>();
        for (Field f : GateChain.class.getDeclaredFields()) {
            if (!Modifier.isPrivate(f.getModifiers()) && !f.isSynthetic()) {
                constants.add(f.getName() + "=" + f.getInt(null));
            }
        }
        CHECK.same("the constants", constants.toString(), new TreeSet<>(Arrays.asList(CONSTANTS)).toString());
        Constructor<?>[] made = GateChain.class.getDeclaredConstructors();
        CHECK.due("constructors", made.length, 1);
        CHECK.due("its parameters", made[0].getParameterCount(), 0);
        CHECK.due("it is public", Modifier.isPublic(made[0].getModifiers()) ? 1 : 0, 1);
        int both = Modifier.PUBLIC | Modifier.FINAL;
        CHECK.due("public and final", GateChain.class.getModifiers() & both, both);
    }

    private static void nested() {
        TreeSet<String> names = new TreeSet<>();
        for (String s : FACE) {
            names.add(s.substring(s.indexOf(' ') + 1, s.indexOf('(')));
        }
        Class<?>[] inside = GateChain.class.getDeclaredClasses();
        CHECK.due("at most twelve classes", inside.length < 12 ? 1 : 0, 1);
        for (Class<?> c : inside) {
            CHECK.due(c + " is static", Modifier.isStatic(c.getModifiers()) ? 1 : 0, 1);
            for (Method m : c.getDeclaredMethods()) {
                CHECK.due(c + "'s " + m.getName() + " bears a public name", names.contains(m.getName()) ? 1 : 0, 0);
                CHECK.due(m.getName() + " has seven parameters at most", m.getParameterCount() <= 7 ? 1 : 0, 1);
            }
            fields(c);
        }
        fields(GateChain.class);
    }

    private static void fields(Class<?> c) {
        int own = 0;
        for (Field f : c.getDeclaredFields()) {
            if (Modifier.isStatic(f.getModifiers())) {
                CHECK.due(f + " is final", Modifier.isFinal(f.getModifiers()) ? 1 : 0, 1);
            } else {
                own++;
            }
        }
        CHECK.due(c + " has some twenty fields at most", own <= 20 ? 1 : 0, 1);
    }

    private static void source() throws Exception {
        String file = System.getProperty("gatechain.source", "src/main/java/GateChain.java");
        String all = new String(Files.readAllBytes(Path.of(file)), StandardCharsets.UTF_8);
        String code = all.replaceAll("(?s)/\\*.*?\\*/", "").replaceAll("//[^\n]*", "");
        for (String word : FORBIDDEN) {
            boolean isWord = Character.isLetter(word.charAt(0));
            Matcher m = Pattern.compile(isWord ? "\\b" + word + "(?!\\w)" : word).matcher(code);
            CHECK.due("the file has " + word, m.find() ? 1 : 0, 0);
        }
        Matcher imports = Pattern.compile("import ([^;]+);").matcher(code);
        while (imports.find()) {
            String name = imports.group(1);
            boolean fine = name.matches("java\\.util\\.(Arrays|ArrayList|List|Iterator)");
            CHECK.due("import " + name + " is of the list", fine ? 1 : 0, 1);
        }
        CHECK.due("no package line", code.contains("package ") ? 1 : 0, 0);
    }
}
