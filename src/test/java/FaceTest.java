import java.lang.reflect.Constructor;
import java.lang.reflect.Field;
import java.lang.reflect.Method;
import java.lang.reflect.Modifier;
import java.util.Arrays;
import java.util.TreeSet;

/** The public face, and promise 1. */
public final class FaceTest {
    private static final String[] FACE = {
        "int days(int)", "int shop(int,int,int,int)", "int weight(int,int)", "int open(int,boolean)",
        "int sell(int)", "int child(int,int)", "int guess(int,int)", "int childOf(int,int)",
        "int known(int,int,boolean)", "int draw(int,int)", "int drawn(int,int)", "long back(int)",
        "int feed(int,long)", "int rule(int,int)", "int force(int,int)",
        "int test(int,int,int,int,int,int)", "int appeal(int)", "int testOf(int,int,int)",
        "int fact(int,int,int)", "int step(int,int,int)", "int lost()", "int leave(int)",
        "int work(int,int,int)", "int workAt(int,int,boolean,int)", "int letters(int)",
        "int letter(int)", "long helped(int,int)", "long wards(int,int,int,int)",
        "int clerk(int,int,int,int,int)", "int tally(int,int)", "int worst()", "int cost(int,int)",
        "int most(int)", "int count(int)"};

    private static final String BACK_THROWS =
            "[class java.lang.IllegalStateException, class java.lang.IllegalArgumentException]";

    public static void main(String[] args) {
        Check c = new Check();
        face(c);
        aNewObject(c);
        manyCalls(c);
        sideBySide(c);
        c.end();
    }

    private static void face(Check c) {
        Class<?> type = YoungBuyers.class;
        c.isTrue("final and public", Modifier.isFinal(type.getModifiers()) && Modifier.isPublic(type.getModifiers()));
        TreeSet<String> found = new TreeSet<>();
        TreeSet<String> names = new TreeSet<>();
        for (Method m : type.getDeclaredMethods()) {
            if (Modifier.isPrivate(m.getModifiers())) {
                continue;
            }
            found.add(told(m));
            names.add(m.getName());
            c.isTrue(m + " is public", Modifier.isPublic(m.getModifiers()));
            c.isTrue(m + " is of an object", !Modifier.isStatic(m.getModifiers()));
            c.due(m + " throws", Arrays.toString(m.getExceptionTypes()),
                    m.getName().equals("back") ? BACK_THROWS : "[]");
        }
        c.isTrue("the methods of the face: " + found, found.equals(new TreeSet<>(Arrays.asList(FACE))));
        for (Field f : type.getDeclaredFields()) {
            c.isTrue(f + " is private", Modifier.isPrivate(f.getModifiers()));
        }
        c.due("public fields and classes", type.getFields().length + type.getClasses().length, 0);
        c.due("constructors", type.getDeclaredConstructors().length, 1);
        c.due("what it is a kind of", type.getSuperclass() + " " + type.getInterfaces().length,
                "class java.lang.Object 0");
        for (Constructor<?> k : type.getDeclaredConstructors()) {
            c.isTrue(k + " is public", Modifier.isPublic(k.getModifiers()) && k.getParameterCount() == 0);
        }
        for (Class<?> inside : type.getDeclaredClasses()) {
            c.isTrue(inside + " is static, not public", Modifier.isStatic(inside.getModifiers())
                    && !Modifier.isPublic(inside.getModifiers()));
            for (Method m : inside.getDeclaredMethods()) {
                c.isTrue(m + " has a name of its own", !names.contains(m.getName()));
            }
        }
        c.isTrue("at most twelve classes", type.getDeclaredClasses().length <= 11);
    }

    private static String told(Method m) {
        StringBuilder s = new StringBuilder(m.getReturnType() + " " + m.getName() + "(");
        String between = "";
        for (Class<?> p : m.getParameterTypes()) {
            s.append(between).append(p);
            between = ",";
        }
        return s.append(")").toString();
    }

    private static void aNewObject(Check c) {
        YoungBuyers x = new YoungBuyers();
        for (int what = 0; what <= 17; what++) {
            c.due("count(" + what + ") of a new object", x.count(what), 0);
        }
        c.due("lost() of a new object", x.lost(), 0);
        c.due("worst() of a new object", x.worst(), -9);
        c.due("force(0, 0) of a new object", x.force(0, 0), -9);
        c.due("leave(300) of a new object", x.leave(300), 300);
        for (int kind = 0; kind < 5; kind++) {
            c.due("cost of a new object", x.cost(kind, 20), 20);
        }
        c.due("helped(0, 0) of a new object", x.helped(0, 0), 1);
        c.due("helped(0, 1) of a new object", x.helped(0, 1), 1);
        c.due("drawn(0, 0) of a new object", x.drawn(0, 0), -5);
        c.due("childOf(0, 0) of a new object", x.childOf(0, 0), -5);
        c.due("tally(0, 0) of a new object", x.tally(0, 0), 0);
    }

    /** "An object is used for at most 512 calls": up to the last of them it answers as ever. */
    private static void manyCalls(Check c) {
        YoungBuyers x = new YoungBuyers();
        for (int i = 1; i <= 511; i++) {
            c.due("call " + i, i % 2 == 0 ? x.days(1) : x.days(0), i % 2 == 0 ? i / 2 : -4);
        }
        c.due("call 512", x.count(14), 256);
        YoungBuyers y = new YoungBuyers();
        for (int i = 1; i <= 511; i++) {
            c.due("call " + i, y.letter(0), -1);
        }
        c.due("call 512", y.shop(0, 0, 0, 0), 0);
        YoungBuyers z = new YoungBuyers();
        for (int i = 1; i <= 511; i++) {
            z.letter(0);
        }
        c.due("call 512", z.count(11), 511);
    }

    /** An object's answers are its own, whatever is told to another one in between. */
    private static void sideBySide(Check c) {
        YoungBuyers x = new YoungBuyers();
        YoungBuyers y = new YoungBuyers();
        for (int i = 0; i < 40; i++) {
            c.due("a shop of one", x.shop(0, 0, 0, 0), i);
            c.due("no such shop of the other", y.weight(0, 1), -1);
        }
        x.child(0, -5000);
        x.draw(5, 0);
        x.letters(0);
        Check.rule(x, "s", 0, 0);
        x.test(0, 0, 0, 0, 0, 4);
        x.clerk(0, 0, 0, 24, 0);
        x.leave(0);
        x.cost(0, 0);
        Check.feed(x, "a");
        x.days(1);
        for (int what = 0; what <= 17; what++) {
            c.due("count(" + what + ") of the other", y.count(what), what == 11 ? 40 : 0);
        }
        c.due("leave of the other", y.leave(1), 300);
        c.due("cost of the other", y.cost(0, 1), 20);
        c.due("a guess of the other", y.guess(0, 10), -5);
        c.due("a shift of the other", y.shop(0, 0, 0, 0) + y.clerk(1, 0, 0, 1, 0), 1);
    }
}
