import java.lang.reflect.Field;
import java.lang.reflect.Method;
import java.lang.reflect.Modifier;
import java.nio.charset.StandardCharsets;
import java.nio.file.Files;
import java.nio.file.Path;
import java.util.ArrayList;
import java.util.Arrays;
import java.util.List;
import java.util.Set;
import java.util.TreeSet;
import java.util.regex.Matcher;
import java.util.regex.Pattern;

/** The document's face, and those rules of LANGUAGE.md that can be seen from the outside or in the text. */
public final class FaceTests {
    static int wrong;

    static void check(boolean is, String what) {
        if (!is) {
            wrong++;
            System.out.println(what);
        }
    }

    static final String FACE = "feed(int,int,int,int,int)int end(int)boolean cluster()int law()int fault()int "
        + "node(int,int)int shift(int,int)int hears(int,int)boolean rounds(int)int add(int)int power(int,boolean)int "
        + "spoil(int,int,int)int set(int,int)int tune(boolean,int)int mid()int spread()int agreed()boolean "
        + "cliques()int settles(int)int widest(int)int leads(boolean)int narrow()int tight()int spare()int "
        + "order(int)int read(boolean)int when()int blame()int guilty()int probe()int pairs(int)int share(int,int)int "
        + "rests(int)int odds(int,int,int)int most(int)int byState(int)int twins()int ahead(int,int,boolean)int "
        + "trial(int,boolean)int span(int,boolean)int led(int,boolean)int log(int,int)int seed(int)int undo()boolean "
        + "image()void back()boolean count(int)int";

    static void face() {
        Set<String> got = new TreeSet<>();
        Set<String> names = new TreeSet<>();
        for (Method m : SlotCluster.class.getDeclaredMethods()) {
            if (Modifier.isPublic(m.getModifiers())) {
                List<String> types = new ArrayList<>();
                for (Class<?> t : m.getParameterTypes()) {
                    types.add(t.getName());
                }
                got.add(m.getName() + "(" + String.join(",", types) + ")" + m.getReturnType().getName());
                names.add(m.getName());
            } else {
                check(Modifier.isPrivate(m.getModifiers()), m + " is neither public nor private");
            }
        }
        check(got.equals(new TreeSet<>(Arrays.asList(FACE.split(" ")))), "the face is " + got);
        check(SlotCluster.class.getConstructors().length == 1, "constructors");
        check(Modifier.isFinal(SlotCluster.class.getModifiers()), "not final");
        for (Field f : SlotCluster.class.getDeclaredFields()) {
            boolean isNone = f.getName().equals("NONE") && Modifier.isPublic(f.getModifiers());
            check(isNone || Modifier.isPrivate(f.getModifiers()), f + " is not private");
            check(!Modifier.isStatic(f.getModifiers()) || Modifier.isFinal(f.getModifiers()), f + " is not final");
        }
        for (Class<?> inner : SlotCluster.class.getDeclaredClasses()) {
            check(Modifier.isStatic(inner.getModifiers()), inner + " is not static");
            int fields = 0;
            for (Field f : inner.getDeclaredFields()) {
                fields += Modifier.isStatic(f.getModifiers()) ? 0 : 1;
            }
            check(fields <= 20, inner + " has " + fields + " fields");
        }
        for (Class<?> c : SlotCluster.class.getDeclaredClasses()) {
            for (Method m : c.getDeclaredMethods()) {
                check(!names.contains(m.getName()), m + " bears the name of a public one");
            }
        }
        for (Method m : SlotCluster.class.getDeclaredMethods()) {
            check(Modifier.isPublic(m.getModifiers()) || !names.contains(m.getName()), m + " bears a public name");
            check(m.getParameterCount() <= 7, m + " takes too much");
        }
    }

    static void text() throws Exception {
        String s = Files.readString(Path.of("src/main/java/SlotCluster.java"), StandardCharsets.UTF_8);
        s = Pattern.compile("/\\*.*?\\*/|//[^\n]*", Pattern.DOTALL).matcher(s).replaceAll("");
        String code = Pattern.compile("\"[^\"\n]*\"").matcher(s).replaceAll("\"\"");
        String[] forbidden = {"->", "::", "\\bcatch\\b", "\\btry\\b", "\\bfinally\\b", "\\bassert\\b",
            "\\bsynchronized\\b", "Exact\\b", "\\bdouble\\b", "\\bfloat\\b", "\\bvar\\b", "\\bpackage\\b",
            "\\bprotected\\b", "System\\.(?!arraycopy\\b)", "\\bArrays\\b", "\\bstatic\\s*\\{", "\"\\s*\\+", "\\+\\s*\"",
            "\\bwhile\\b", "\\bInteger\\.(?!bitCount\\b)", "\\bMath\\.(?!(min|max|abs)\\b)", "[^\\x00-\\x7f]"};
        for (String f : forbidden) {
            Matcher m = Pattern.compile(f).matcher(code);
            check(!m.find(), "the source has " + f);
        }
        Matcher m = Pattern.compile("^import (.*);$", Pattern.MULTILINE).matcher(s);
        while (m.find()) {
            check(m.group(1).equals("java.util.NoSuchElementException"), "imports " + m.group(1));
        }
        int classes = code.split("\\bclass \\w+").length - 1;
        check(classes <= 12, classes + " classes");
        String[] lines = s.split("\n");
        int begin = 0;
        for (int i = 0; i < lines.length; i++) {
            if (lines[i].matches("\\s*(public|private|static|final|\\s)*\\w+(\\[\\])? ?\\w*\\(.*\\{") && !lines[i].contains(" if ")) {
                begin = i;
            }
            check(i - begin < 60 || !lines[i].trim().equals("}"), "a long method at line " + i);
        }
    }

    public static void main(String[] args) throws Exception {
        face();
        text();
        System.out.println(wrong == 0 ? "the face and the source are as due" : wrong + " faults");
        if (wrong != 0) {
            System.exit(1);
        }
    }
}
