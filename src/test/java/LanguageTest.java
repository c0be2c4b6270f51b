import java.lang.reflect.Field;
import java.lang.reflect.Method;
import java.lang.reflect.Modifier;
import java.nio.file.Files;
import java.nio.file.Path;
import java.util.ArrayList;
import java.util.Arrays;
import java.util.List;
import java.util.TreeSet;

/** What LANGUAGE.md asks of the file, as far as a test can see it: the face, words that may not be, sizes, and the room. */
public final class LanguageTest {
    private static final String FACE = "feed:int:5 end:boolean:1 slope:int:0 fault:int:1 has:int:1 letter:int:3 cell:int:2 stone:int:2 "
            + "house:int:2 owner:int:2 due:int:2 law:int:5 lever:int:2 spring:int:1 goOn:int:1 seed:boolean:1 net:boolean:2 "
            + "wall:boolean:2 dig:int:2 take:int:1 undo:boolean:0 path:int:3 roll:int:3 thaw:int:2 lies:int:2 hit:int:1 "
            + "worst:int:1 men:int:2 crew:int:3 nets:int:1 dowry:int:4 whence:int:2 leans:int:2 quarry:int:2 ropes:int:1 "
            + "image:int:0 octet:int:1 on:boolean:0 status:int:1";

    private static List<Class<?>> classes() {
        List<Class<?>> all = new ArrayList<>();
        all.add(BoulderDowry.class);
        all.addAll(Arrays.asList(BoulderDowry.class.getDeclaredClasses()));
        return all;
    }

    private static void face() {
        TreeSet<String> want = new TreeSet<>(Arrays.asList(FACE.split(" ")));
        TreeSet<String> got = new TreeSet<>();
        TreeSet<String> publicNames = new TreeSet<>();
        for (Method method : BoulderDowry.class.getDeclaredMethods()) {
            int how = method.getModifiers();
            if (Modifier.isPublic(how)) {
                got.add(method.getName() + ":" + method.getReturnType() + ":" + method.getParameterCount());
                publicNames.add(method.getName());
            } else {
                Check.due("private method " + method.getName(), Modifier.isPrivate(how), true);
            }
        }
        Check.due("the face " + got, got.equals(want), true);
        Check.due("the class is public and final", Modifier.isFinal(BoulderDowry.class.getModifiers()), true);
        for (Field field : BoulderDowry.class.getDeclaredFields()) {
            boolean constant = field.getName().equals("NONE") || field.getName().equals("NOTHING");
            Check.due("field " + field.getName(), Modifier.isPrivate(field.getModifiers()), !constant);
        }
        for (Class<?> type : classes()) {
            for (Method method : type.getDeclaredMethods()) {
                boolean own = type == BoulderDowry.class && Modifier.isPublic(method.getModifiers());
                Check.due("no other method is named " + method.getName(), publicNames.contains(method.getName()), own);
            }
        }
    }

    private static void shapes() {
        Check.due("some twelve classes", classes().size() <= 12, true);
        for (Class<?> type : classes()) {
            int fields = 0;
            for (Field field : type.getDeclaredFields()) {
                boolean isStatic = Modifier.isStatic(field.getModifiers());
                fields += isStatic ? 0 : 1;
                Check.due("static fields are final: " + field, !isStatic || Modifier.isFinal(field.getModifiers()), true);
            }
            Check.due("some twenty fields in " + type, fields <= 20, true);
            Check.due("classes inside are static: " + type, type == BoulderDowry.class || Modifier.isStatic(type.getModifiers()), true);
            for (Method method : type.getDeclaredMethods()) {
                Check.due("seven parameters: " + method, method.getParameterCount() <= 7, true);
            }
        }
    }

    private static void words() throws Exception {
        String source = Files.readString(Path.of("src/main/java/BoulderDowry.java"));
        for (int i = 0; i < source.length(); i++) {
            Check.due("signs up to 127", source.charAt(i) < 128, true);
        }
        String code = source.replaceAll("(?s)/\\*.*?\\*/", "").replaceAll("//[^\n]*", "").replaceAll("\"[^\"]*\"", "\"\"");
        for (String bad : "throw try catch finally synchronized assert Exact Random nanoTime currentTimeMillis Thread instanceof".split(" ")) {
            Check.due("the word " + bad, code.matches("(?s).*\\b\\w*" + bad + "\\b.*"), false);
        }
        Check.due("no arrow", code.contains("->"), false);
        Check.due("no method reference", code.contains("::"), false);
        Check.due("no static block", code.matches("(?s).*\\bstatic\\s*\\{.*"), false);
        int length = 0;
        for (String line : code.split("\n")) {
            length = line.matches(" {4}(private|public|static|final|\\w).*\\) \\{| {8}(private|static|\\w).*\\) \\{") ? 0 : length + 1;
            Check.due("some sixty lines: " + line, length <= 75 || !line.matches(" {4}\\}| {8}\\}"), true);
        }
    }

    /** After an object has been made, its calls make nothing more. */
    private static void room() {
        com.sun.management.ThreadMXBean threads =
                (com.sun.management.ThreadMXBean) java.lang.management.ManagementFactory.getThreadMXBean();
        byte[] text = Check.bytes("field 6 5;row 90 88 91 95 99 97;row 80 70 82 85 90 92;row 60 64 50 71 73 80;row 40 45 33 52 60 66;"
                + "row 20 25 11 30 41 50;owner ann;owner bob;land ann at 0 0 to 5 1;land bob at 0 2 to 2 4;"
                + "stone a weight 50 rest 30 at 0 0;stone b weight 20 rest 12 at 3 0;stone c weight 9 rest 15 at 5 0;"
                + "house h worth 90 at 2 3;house i worth 60 at 0 4;wall 900 at 2 2;thaw 10 odds 5;thaw 25 odds 3;thaw 60 odds 1;rope 900;"
                + "due worth+weight/10 when wall=0 and speed>9;");
        BoulderDowry x = new BoulderDowry();
        useAll(x, text);
        long before = threads.getThreadAllocatedBytes(Thread.currentThread().getId());
        x = new BoulderDowry();
        long made = threads.getThreadAllocatedBytes(Thread.currentThread().getId());
        Check.feed(x, text);
        long fed = threads.getThreadAllocatedBytes(Thread.currentThread().getId());
        useAll(x, null);
        long used = threads.getThreadAllocatedBytes(Thread.currentThread().getId());
        Check.due("a new object is small", made - before < 200000, true);
        Check.due("calls make nothing", used - fed < 2000, true);
    }

    private static void useAll(BoulderDowry x, byte[] text) {
        if (text != null) {
            Check.feed(x, text);
        }
        x.slope();
        for (int i = 0; i < 40; i++) {
            x.lever(i % 3, 9);
            x.spring(i);
            x.goOn(2);
            x.net(i % 30, true);
            x.dig(i % 30, 3);
            x.wall(i % 30, 3);
            x.path(i % 3, 99, NONE);
            x.roll(i % 3, 99, 0);
            x.thaw(i % 3, 2);
            x.lies(i % 3, 3);
            x.hit(i % 2);
            x.worst(0);
            x.men(i % 3, 1);
            x.crew(7, 1, NONE);
            x.nets(NONE);
            x.dowry(i % 3, 1, 3, 0);
            x.whence(i % 3, NONE);
            x.quarry(7, NONE);
            x.ropes(4);
            x.law(1, 2, 3, 0, 4);
            x.image();
            x.on();
            for (int k = 0; k < 6; k++) {
                x.undo();
            }
        }
    }

    private static final int NONE = BoulderDowry.NONE;

    public static void main(String[] args) throws Exception {
        face();
        shapes();
        words();
        room();
        Check.finish("LanguageTest");
    }
}
