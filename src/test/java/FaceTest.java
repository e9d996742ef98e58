import java.lang.management.ManagementFactory;
import java.lang.reflect.Constructor;
import java.lang.reflect.Field;
import java.lang.reflect.Method;
import java.lang.reflect.Modifier;
import java.nio.file.Files;
import java.nio.file.Path;
import java.util.Arrays;
import java.util.TreeSet;

/** The public face, and those rules of LANGUAGE.md that can be looked at from outside. */
public final class FaceTest {
    private static final String FACE = """
            feed(int,long) garden() place(int,int) sees(int,int) far(int,int) hider(int,int) times(int,int)
            set(int,int) order(int,long) cover(int,int,int) run(int,int) round(int) mind(int,int) of(int,int)
            found(int) table(int,int) mayGo() allSeen() fewest() game(int,int,int,int) taken(int,int,int)
            summer(int,int) odds(int,int,int) bestOrder(int,int,int,int) bestRule(int,int) row(int) judge()
            image() on() count(int)""";

    public static void main(String[] args) throws Exception {
        face();
        members();
        source();
        noObjectsInCalls();
        Check.end("FaceTest");
    }

    private static String told(Method method) {
        StringBuilder text = new StringBuilder(method.getName()).append('(');
        for (Class<?> type : method.getParameterTypes()) {
            text.append(text.charAt(text.length() - 1) == '(' ? "" : ",").append(type.getName());
        }
        return text.append(')').toString();
    }

    private static void face() {
        TreeSet<String> due = new TreeSet<>(Arrays.asList(FACE.split("\\s+")));
        TreeSet<String> is = new TreeSet<>();
        for (Method method : InTheGarden.class.getDeclaredMethods()) {
            if (!Modifier.isPrivate(method.getModifiers())) {
                is.add(told(method));
                Check.isTrue(method + " is public, answers int", Modifier.isPublic(method.getModifiers())
                        && !Modifier.isStatic(method.getModifiers()) && method.getReturnType() == int.class);
            }
        }
        Check.isTrue("face is " + is, is.equals(due));
        int modifiers = InTheGarden.class.getModifiers();
        Check.isTrue("public final", Modifier.isPublic(modifiers) && Modifier.isFinal(modifiers));
        Constructor<?>[] made = InTheGarden.class.getDeclaredConstructors();
        Check.isTrue("one constructor", made.length == 1 && made[0].getParameterCount() == 0
                && Modifier.isPublic(made[0].getModifiers()));
    }

    private static void members() {
        TreeSet<String> names = new TreeSet<>();
        for (String one : FACE.split("\\s+")) {
            names.add(one.substring(0, one.indexOf('(')));
        }
        for (Field field : InTheGarden.class.getDeclaredFields()) {
            Check.isTrue(field + " is private", Modifier.isPrivate(field.getModifiers()));
        }
        fieldsOf(InTheGarden.class);
        Check.isTrue("twelve classes at most", InTheGarden.class.getDeclaredClasses().length < 12);
        for (Class<?> inside : InTheGarden.class.getDeclaredClasses()) {
            Check.isTrue(inside + " is private, static", Modifier.isPrivate(inside.getModifiers())
                    && Modifier.isStatic(inside.getModifiers()));
            fieldsOf(inside);
            for (Method method : inside.getDeclaredMethods()) {
                Check.isTrue(method + " bears no name of the face", !names.contains(method.getName()));
                Check.isTrue(method + " takes seven at most", method.getParameterCount() <= 7);
            }
        }
        for (Method method : InTheGarden.class.getDeclaredMethods()) {
            Check.isTrue(method + " bears no name of the face",
                    Modifier.isPublic(method.getModifiers()) || !names.contains(method.getName()));
        }
    }

    private static void fieldsOf(Class<?> type) {
        int own = 0;
        for (Field field : type.getDeclaredFields()) {
            boolean isStatic = Modifier.isStatic(field.getModifiers());
            own += isStatic ? 0 : 1;
            Check.isTrue(field + " is final, if static", !isStatic || Modifier.isFinal(field.getModifiers()));
        }
        Check.isTrue(type + " has twenty fields at most", own <= 20);
    }

    private static void source() throws Exception {
        String text = Files.readString(Path.of("src/main/java/InTheGarden.java"));
        String code = text.replaceAll("(?s)/\\*.*?\\*/", "").replaceAll("//[^\n]*", "");
        for (String word : new String[] {"throw", "throws", "try", "catch", "synchronized", "assert", "goto", "native"}) {
            Check.isTrue("no " + word, !code.matches("(?s).*\\b" + word + "\\b.*"));
        }
        Check.isTrue("no lambda, no method reference", !code.contains("->") && !code.contains("::"));
        Check.isTrue("no name ends in Exact", !code.contains("Exact("));
        for (String line : code.split("\n")) {
            if (line.startsWith("import")) {
                Check.due(line, 0, line.compareTo("import java.util.Arrays;"));
            }
        }
        Check.isTrue("signs are 1 to 127", text.chars().allMatch(c -> c > 0 && c < 128));
        Check.isTrue("no package line", !code.matches("(?s).*\\bpackage\\b.*"));
        int start = 0;
        String[] lines = text.split("\n");
        for (int i = 0; i < lines.length; i++) {
            if (lines[i].matches("( {4}| {8})\\w[^=;]*\\) \\{") && !lines[i].matches(" {8}(if|for|while|switch).*")) {
                start = i;
            } else if (lines[i].matches("( {4}| {8})}") && start > 0) {
                Check.isTrue("sixty lines at most: " + lines[start].trim(), i - start < 60);
                start = 0;
            }
        }
    }

    private static void noObjectsInCalls() {
        InTheGarden x = Check.garden("pp250;pk190;pd105;ph330;w01,5;w12,9;w23,4;w03,20;w34,7;", "v01;v13;v31;v42;h9,5;h4,2;h12,9;h15,1;h7,7;");
        x.order(3, 214);
        com.sun.management.ThreadMXBean room = (com.sun.management.ThreadMXBean) ManagementFactory.getThreadMXBean();
        long me = Thread.currentThread().getId();
        dearCalls(x);
        long before = room.getThreadAllocatedBytes(me);
        for (int i = 0; i < 1000; i++) {
            dearCalls(x);
        }
        long used = room.getThreadAllocatedBytes(me) - before;
        Check.isTrue("no call makes an object: " + used + " bytes", used < 20_000);
    }

    private static void dearCalls(InTheGarden x) {
        x.feed(3, 7);
        x.garden();
        x.round(3);
        x.mind(3, 0);
        x.allSeen();
        x.fewest();
        x.mayGo();
        x.game(4, 60, 0, 0);
        x.bestOrder(4, 5, 9, -1);
        x.bestRule(5, 9);
        x.image();
        x.on();
        x.place(99, 99);
    }
}
