import java.lang.reflect.Constructor;
import java.lang.reflect.Field;
import java.lang.reflect.Method;
import java.lang.reflect.Modifier;
import java.nio.file.Files;
import java.nio.file.Path;
import java.util.Arrays;
import java.util.List;
import java.util.TreeSet;
import java.util.regex.Matcher;
import java.util.regex.Pattern;

/** The public face is the document's to the letter, and the source keeps off what LANGUAGE.md rules out. */
public final class FaceTest {
    private static final String FACE = "int feed(int,int);int wipe();int world();int placeOf(int,int);"
        + "int change(int,int,int);int step(int);int tie(int,int,int);int tieOf(int,int);int cut(int,int);"
        + "int hold(int,boolean);int push(int,int);int pushOf(int,int);int clear();int run(int,int);"
        + "int runOf(int,int,int);int when(int);int settles();int stand(int);int late(int);int fewest(int);"
        + "int cheapest(int);int most(int,int);int must();int order(int,int,int);int stop(int,int);int near(int);"
        + "int look();int edge(int,int);long likely();int century(int);int seed(int);int game(int,int);"
        + "int first(int);int judge(int);int spot(int,int);int as(int,int);int sheet(int,int,int);"
        + "int write(int,int,int);int copy(int,int,int,int,int);int image();int undo();int tear();int count(int);"
        + "int status(int)";
    private static int wrong = 0;

    public static void main(String[] args) throws Exception {
        members();
        inside();
        source(Files.readString(Path.of("src/main/java/MeltPins.java")));
        System.out.println(wrong == 0 ? "the face and the language are kept" : wrong + " wrong");
        if (wrong != 0) System.exit(1);
    }

    private static void due(boolean fits, String what) {
        if (!fits) {
            wrong++;
            System.out.println("not so: " + what);
        }
    }

    private static String sign(Method m) {
        StringBuilder s = new StringBuilder(m.getReturnType() + " " + m.getName() + "(");
        for (Class<?> c : m.getParameterTypes()) s.append(s.charAt(s.length() - 1) == '(' ? "" : ",").append(c);
        return s.append(")").toString();
    }

    private static void members() {
        Class<?> c = MeltPins.class;
        due(Modifier.isFinal(c.getModifiers()) && Modifier.isPublic(c.getModifiers()), "public final class");
        TreeSet<String> open = new TreeSet<>();
        for (Method m : c.getDeclaredMethods()) if (!Modifier.isPrivate(m.getModifiers())) open.add(sign(m));
        due(open.equals(new TreeSet<>(Arrays.asList(FACE.split(";")))), "the methods " + open);
        for (Field f : c.getDeclaredFields()) due(Modifier.isPrivate(f.getModifiers()), f + " is private");
        Constructor<?>[] made = c.getDeclaredConstructors();
        due(made.length == 1 && made[0].getParameterCount() == 0 && Modifier.isPublic(made[0].getModifiers()), "one constructor");
    }

    private static void inside() {
        TreeSet<String> open = new TreeSet<>();
        for (Method m : MeltPins.class.getDeclaredMethods()) {
            if (Modifier.isPublic(m.getModifiers())) open.add(m.getName());
        }
        Class<?>[] all = Arrays.copyOf(MeltPins.class.getDeclaredClasses(), MeltPins.class.getDeclaredClasses().length + 1);
        all[all.length - 1] = MeltPins.class;
        due(all.length <= 12, "twelve classes at most");
        for (Class<?> c : all) {
            due(c == MeltPins.class || Modifier.isStatic(c.getModifiers()), c + " is static");
            for (Method m : c.getDeclaredMethods()) {
                due(!Modifier.isPrivate(m.getModifiers()) || !open.contains(m.getName()), m + " bears a public name");
                due(m.getParameterCount() <= 7, m + " takes seven at most");
            }
            int fields = 0;
            for (Field f : c.getDeclaredFields()) {
                if (Modifier.isStatic(f.getModifiers())) due(Modifier.isFinal(f.getModifiers()), f + " is final");
                else fields++;
            }
            due(fields <= 20, c + " has twenty fields at most");
        }
    }

    private static void source(String text) {
        for (String word : List.of("throw", "try", "catch", "synchronized", "assert", "lambda", "protected")) {
            due(!Pattern.compile("\\b" + word + "\\b").matcher(text).find(), "no " + word);
        }
        due(!text.contains("->") && !text.contains("::"), "no lambda, no method reference");
        due(!text.contains("Exact("), "no Exact");
        Matcher imports = Pattern.compile("import (.*);").matcher(text);
        while (imports.find()) due(imports.group(1).equals("java.util.Arrays"), imports.group(1) + " is listed");
        String[] lines = text.split("\n");
        int start = -1;
        for (int i = 0; i < lines.length; i++) {
            if (lines[i].matches(" {4,8}(public|private) .*\\) \\{")) start = i;
            if (start >= 0 && lines[i].matches(" {4,8}\\}")) {
                due(i - start < 60, lines[start].trim() + " is short");
                start = -1;
            }
        }
    }
}
