import java.io.IOException;
import java.lang.reflect.Constructor;
import java.lang.reflect.Field;
import java.lang.reflect.Method;
import java.lang.reflect.Modifier;
import java.nio.file.Files;
import java.nio.file.Path;
import java.util.Set;
import java.util.TreeSet;
import java.util.regex.Matcher;
import java.util.regex.Pattern;

/** The public face, and those rules of ../shared/LANGUAGE.md that can be seen in the text of the class. */
public final class LanguageTest {
    private static final Due due = new Due();
    private static final String FACE = "int hanger(int) int of(int,int) int set(int,int,int) int turn(int,int) int as(int,int)"
            + " int price(int) int at(int) int hang(int,int) int face(int) int shift(int,int) int take(int,int) int now(int)"
            + " int tangled(int) int catches(int,int) int comes(int,int) int falls(int,int) int heaps() int greatest()"
            + " int manner(int) int first() int spot(int) int facing() int clears(int) int untangle() int saves()"
            + " int feels(int) int kind(int) int feed(int,int) int wipe() int rail() int sheet(int,int,int)"
            + " long write(int,int,long) int copy(int,int,int,int,int) int lays(int) int book(int) int read(int)"
            + " int image() int undo() int tear() int count(int) int status(int)";

    public static void main(String[] args) throws IOException {
        face();
        members(HangerRail.class);
        String source = Files.readString(Path.of("src/main/java/HangerRail.java"));
        words(source);
        methodsAreShort(source);
        callsMakeNothing(source);
        due.end();
    }

    private static void face() {
        Set<String> have = new TreeSet<>();
        for (Method m : HangerRail.class.getDeclaredMethods()) {
            if (Modifier.isPublic(m.getModifiers())) {
                StringBuilder types = new StringBuilder();
                for (Class<?> t : m.getParameterTypes()) {
                    types.append(types.length() == 0 ? "" : ",").append(t.getName());
                }
                have.add(m.getReturnType().getName() + " " + m.getName() + "(" + types + ")");
            }
        }
        Set<String> want = new TreeSet<>();
        Matcher m = Pattern.compile("(int|long) \\w+\\([^)]*\\)").matcher(FACE);
        while (m.find()) {
            want.add(m.group());
        }
        due.is("the face has 41 calls", want.size(), 41);
        same("face " + have, have.equals(want));
        same("public and final", Modifier.isPublic(HangerRail.class.getModifiers()) && Modifier.isFinal(HangerRail.class.getModifiers()));
        due.is("one constructor", HangerRail.class.getConstructors().length, 1);
    }

    private static void members(Class<?> main) {
        Set<String> face = new TreeSet<>();
        for (Method m : main.getMethods()) {
            face.add(m.getName());
        }
        for (Field f : main.getDeclaredFields()) {
            same("private field " + f.getName(), Modifier.isPrivate(f.getModifiers()));
            same("static fields are final: " + f.getName(), !Modifier.isStatic(f.getModifiers()) || Modifier.isFinal(f.getModifiers()));
        }
        for (Method m : main.getDeclaredMethods()) {
            same("public or private " + m.getName(), Modifier.isPublic(m.getModifiers()) || Modifier.isPrivate(m.getModifiers()));
            same("no private namesake of " + m.getName(), Modifier.isPublic(m.getModifiers()) || !face.contains(m.getName()));
        }
        for (Constructor<?> c : main.getDeclaredConstructors()) {
            same("public constructor", Modifier.isPublic(c.getModifiers()));
        }
        int classes = 1;
        for (Class<?> inside : main.getDeclaredClasses()) {
            classes++;
            same("static " + inside, Modifier.isStatic(inside.getModifiers()) || inside.isInterface());
            due.is("fields of " + inside, inside.getDeclaredFields().length > 20 ? 1 : 0, 0);
            for (Method m : inside.getDeclaredMethods()) {
                same("no namesake inside of " + m.getName(), !face.contains(m.getName()));
                same("seven parameters of " + m.getName(), m.getParameterCount() <= 7);
            }
        }
        same("twelve classes", classes <= 12);
    }

    private static void words(String source) {
        String text = source.replaceAll("(?s)/\\*.*?\\*/", " ").replaceAll("//[^\n]*", " ").replaceAll("\"[^\"\n]*\"", "\"\"");
        for (String word : new String[] {"throw", "throws", "try", "catch", "finally", "synchronized", "assert", "import",
            "package", "Object", "volatile", "native", "protected", "var"}) {
            same("no " + word, !Pattern.compile("\\b" + word + "\\b").matcher(text).find());
        }
        same("no lambda, no arrow", !text.contains("->"));
        same("no method reference", !text.contains("::"));
        same("no static block", !Pattern.compile("\\bstatic\\s*\\{").matcher(text).find());
        same("no Exact", !text.contains("Exact"));
        Matcher m = Pattern.compile("\\bSystem\\.\\w+").matcher(text);
        while (m.find()) {
            same(m.group(), m.group().equals("System.arraycopy"));
        }
        for (char c : source.toCharArray()) {
            if (c > 126) {
                same("sign " + (int) c, false);
            }
        }
    }

    /** Rule 11: some sixty lines at most, from a head to the brace that stands right below its first letter. */
    private static void methodsAreShort(String source) {
        Matcher m = Pattern.compile("(?m)^( {4,8})(?! )([\\w\\[\\]. ]+ \\w+\\([^)\\n]*\\)) \\{\\n(?s:(.*?))\\n\\1\\}$").matcher(source);
        int methods = 0;
        while (m.find()) {
            methods++;
            same("sixty lines of " + m.group(2), m.group(3).lines().count() <= 60);
        }
        same("the methods were found", methods > 80);
    }

    /** Rule 12 and the one room: all rows are made with the object, none by a call. */
    private static void callsMakeNothing(String source) {
        int made = 0;
        for (String line : source.split("\n")) {
            if (Pattern.compile("\\bnew \\w+[\\[(]").matcher(line).find()) {
                made++;
                boolean field = Pattern.matches(" +(private )?final .* = new .*", line);
                same("made with the object: " + line.strip(), field || line.strip().equals("sheets[s] = new Sheet();"));
            }
        }
        same("what is made was found", made > 10);
    }

    private static void same(String what, boolean holds) {
        due.is(what, holds ? 1 : 0, 1);
    }
}
