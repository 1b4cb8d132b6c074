import java.io.IOException;
import java.lang.reflect.Constructor;
import java.lang.reflect.Field;
import java.lang.reflect.Method;
import java.lang.reflect.Modifier;
import java.nio.file.Files;
import java.nio.file.Path;
import java.util.Set;
import java.util.TreeSet;
import java.util.regex.Matcher;
import java.util.regex.Pattern;

/** The public face is the document's and no more, and the file keeps to what LANGUAGE.md lets a scan see. */
public final class FaceTest {
    private static final Path PROGRAM = Path.of("src/main/java/PictureHeap.java");
    private static final Set<String> FACE = Set.of(
        "int camera()", "int place()", "boolean way(int,int,int)", "int picture(int,int,int,int)",
        "boolean gap(int)", "int near(int,int,int)", "int ahead(int,int)", "int off(int,int,int)",
        "int quarrel()", "boolean untie(int)", "int idle(int)", "int range(int,boolean)",
        "int between(int,int,boolean)", "int order(int,int)", "int unsure()", "int known()", "int put()",
        "int offset(int)", "int row(int)", "int time(int)", "int days()", "int day(int,int)", "int bursts()",
        "int longest()", "int doubles()", "int can(int)", "int found()", "int strange()", "int count(int)",
        "int trouble()");
    private static final String[] RULED_OUT = {
        "->", "::", "\\btry\\b", "\\bcatch\\b", "\\bfinally\\b", "\\bsynchronized\\b", "\\bassert\\b",
        "\\bprotected\\b", "static\\s*\\{", "Exact\\b", "\\bdouble\\b", "\\bfloat\\b", "\\bvar\\b", "\\bnew Object\\b",
        "\\bSystem\\.(?!arraycopy)", "\\bThread\\b", "\\bRandom\\b", "\\bhashCode\\b", "\\btoString\\b", "^package "};
    private static int wrong = 0;

    private static void must(boolean holds, String what) {
        if (!holds) {
            wrong++;
            System.out.println(what);
        }
    }

    private static String signature(Method m) {
        StringBuilder s = new StringBuilder(m.getReturnType().getSimpleName()).append(' ').append(m.getName()).append('(');
        for (int i = 0; i < m.getParameterCount(); i++) {
            s.append(i == 0 ? "" : ",").append(m.getParameterTypes()[i].getSimpleName());
        }
        return s.append(')').toString();
    }

    private static void face() throws ReflectiveOperationException {
        Class<?> c = PictureHeap.class;
        must(Modifier.isPublic(c.getModifiers()) && Modifier.isFinal(c.getModifiers()), "not public and final");
        Set<String> seen = new TreeSet<>();
        Set<String> names = new TreeSet<>();
        for (Method m : c.getDeclaredMethods()) {
            if (!Modifier.isPrivate(m.getModifiers())) {
                seen.add(signature(m));
                names.add(m.getName());
                must(Modifier.isPublic(m.getModifiers()) && !Modifier.isStatic(m.getModifiers()), m + " is not as due");
            }
        }
        must(seen.equals(FACE), "the face is " + seen);
        for (Method m : c.getDeclaredMethods()) {
            must(!Modifier.isPrivate(m.getModifiers()) || !names.contains(m.getName()), "private " + m.getName());
        }
        for (Field f : c.getDeclaredFields()) {
            boolean constant = f.getName().equals("NONE") || f.getName().equals("UNKNOWN");
            must(constant ? Modifier.isPublic(f.getModifiers()) : Modifier.isPrivate(f.getModifiers()), f + "");
            must(!Modifier.isStatic(f.getModifiers()) || Modifier.isFinal(f.getModifiers()), f + " may change");
        }
        for (Constructor<?> k : c.getDeclaredConstructors()) {
            must(Modifier.isPublic(k.getModifiers()) && k.getParameterCount() == 0, k + " is not as due");
        }
        must(PictureHeap.NONE == -1 && PictureHeap.UNKNOWN == -1000000, "a constant is not as due");
        Class<?>[] thrown = c.getMethod("row", int.class).getExceptionTypes();
        must(thrown.length == 1 && thrown[0] == java.util.NoSuchElementException.class, "row() tells not what it throws");
    }

    private static void classesInside() {
        Class<?>[] inside = PictureHeap.class.getDeclaredClasses();
        must(inside.length <= 11, inside.length + " classes inside");
        for (Class<?> c : inside) {
            must(Modifier.isStatic(c.getModifiers()) && !Modifier.isPublic(c.getModifiers()), c + " is not as due");
            must(c.getDeclaredFields().length <= 20, c + " has too many fields");
            for (Method m : c.getDeclaredMethods()) {
                must(m.getParameterCount() <= 7, m + " takes too much");
            }
        }
    }

    private static void language() throws IOException {
        String text = Files.readString(PROGRAM);
        for (int i = 0; i < text.length(); i++) {
            must(text.charAt(i) < 128, "a sign beyond 127 at " + i);
        }
        String code = text.replaceAll("(?s)/\\*.*?\\*/", "").replaceAll("//.*", "");
        for (String out : RULED_OUT) {
            Matcher m = Pattern.compile(out, Pattern.MULTILINE).matcher(code);
            must(!m.find(), "the file holds " + out);
        }
        Matcher imports = Pattern.compile("import ([^;]+);").matcher(code);
        while (imports.find()) {
            must(Set.of("java.util.Arrays", "java.util.NoSuchElementException").contains(imports.group(1)), imports.group());
        }
        Matcher thrown = Pattern.compile("throw new (\\w+)").matcher(code);
        while (thrown.find()) {
            must(thrown.group(1).equals("NoSuchElementException"), thrown.group());
        }
        methodsStayShort(code);
    }

    private static void methodsStayShort(String code) {
        int start = 0;
        String[] lines = code.split("\n");
        for (int i = 0; i < lines.length; i++) {
            if (lines[i].matches("( {4}| {8})\\w.*\\) .*\\{")) {
                start = i;
            }
            if (lines[i].matches("( {4}| {8})\\}")) {
                must(i - start <= 60, "too long: " + lines[start]);
            }
        }
    }

    public static void main(String[] args) throws Exception {
        face();
        classesInside();
        language();
        System.out.println(wrong == 0 ? "the face and the file are as due" : wrong + " things are not as due");
        if (wrong != 0) {
            System.exit(1);
        }
    }
}
