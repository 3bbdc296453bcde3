import java.lang.reflect.Constructor;
import java.lang.reflect.Field;
import java.lang.reflect.Method;
import java.lang.reflect.Modifier;
import java.util.Arrays;
import java.util.TreeSet;

/** The public face, and promise 1. */
public final class FaceTest {
    private static final String[] FACE = {
        "int days(int)", "int shop(int,int,int,int)", "int weight(int,int)", "int open(int,boolean)",
        "int sell(int)", "int child(int,int)", "int guess(int,int)", "int childOf(int,int)",
        "int known(int,int,boolean)", "int draw(int,int)", "int drawn(int,int)", "long back(int)",
        "int feed(int,long)", "int rule(int,int)", "int force(int,int)",
        "int test(int,int,int,int,int,int)", "int appeal(int)", "int testOf(int,int,int)",
        "int fact(int,int,int)", "int step(int,int,int)", "int lost()", "int leave(int)",
        "int work(int,int,int)", "int workAt(int,int,boolean,int)", "int letters(int)",
        "int letter(int)", "long helped(int,int)", "long wards(int,int,int,int)",
        "int clerk(int,int,int,int,int)", "int tally(int,int)", "int worst()", "int cost(int,int)",
        "int most(int)", "int count(int)"};

    public static void main(String[] args) {
        Check c = new Check();
        face(c);
        aNewObject(c);
        c.end();
    }

    private static void face(Check c) {
        Class<?> type = YoungBuyers.class;
        c.isTrue("final and public", Modifier.isFinal(type.getModifiers()) && Modifier.isPublic(type.getModifiers()));
        TreeSet<String> found = new TreeSet<>();
        TreeSet<String> names = new TreeSet<>();
        for (Method m : type.getDeclaredMethods()) {
            if (Modifier.isPrivate(m.getModifiers())) {
                continue;
            }
            found.add(told(m));
            names.add(m.getName());
            c.isTrue(m + " is public", Modifier.isPublic(m.getModifiers()));
        }
        c.isTrue("the methods of the face: " + found, found.equals(new TreeSet<>(Arrays.asList(FACE))));
        for (Field f : type.getDeclaredFields()) {
            c.isTrue(f + " is private", Modifier.isPrivate(f.getModifiers()));
        }
        for (Constructor<?> k : type.getDeclaredConstructors()) {
            c.isTrue(k + " is public", Modifier.isPublic(k.getModifiers()) && k.getParameterCount() == 0);
        }
        for (Class<?> inside : type.getDeclaredClasses()) {
            c.isTrue(inside + " is static, not public", Modifier.isStatic(inside.getModifiers())
                    && !Modifier.isPublic(inside.getModifiers()));
            for (Method m : inside.getDeclaredMethods()) {
                c.isTrue(m + " has a name of its own", !names.contains(m.getName()));
            }
        }
        c.isTrue("at most twelve classes", type.getDeclaredClasses().length <= 11);
    }

    private static String told(Method m) {
        StringBuilder s = new StringBuilder(m.getReturnType() + " " + m.getName() + "(");
        String between = "";
        for (Class<?> p : m.getParameterTypes()) {
            s.append(between).append(p);
            between = ",";
        }
        return s.append(")").toString();
    }

    private static void aNewObject(Check c) {
        YoungBuyers x = new YoungBuyers();
        for (int what = 0; what <= 17; what++) {
            c.due("count(" + what + ") of a new object", x.count(what), 0);
        }
        c.due("lost() of a new object", x.lost(), 0);
        c.due("worst() of a new object", x.worst(), -9);
        c.due("force(0, 0) of a new object", x.force(0, 0), -9);
        c.due("leave(300) of a new object", x.leave(300), 300);
        for (int kind = 0; kind < 5; kind++) {
            c.due("cost of a new object", x.cost(kind, 20), 20);
        }
        c.due("helped(0, 0) of a new object", x.helped(0, 0), 1);
        c.due("helped(0, 1) of a new object", x.helped(0, 1), 1);
        c.due("drawn(0, 0) of a new object", x.drawn(0, 0), -5);
        c.due("childOf(0, 0) of a new object", x.childOf(0, 0), -5);
        c.due("tally(0, 0) of a new object", x.tally(0, 0), 0);
    }
}
