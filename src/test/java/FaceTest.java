import java.lang.reflect.Constructor;
import java.lang.reflect.Field;
import java.lang.reflect.Method;
import java.lang.reflect.Modifier;
import java.util.TreeSet;

/** The public face, and promise 1: a new object. */
final class FaceTest {
    private FaceTest() {
    }

    public static void main(String[] args) {
        theFaceIsTheDocuments();
        aNewObjectIsEmpty();
        Check.end();
    }

    private static void theFaceIsTheDocuments() {
        Class<?> face = ReadCaller.class;
        Check.same("the class is public and final", face.getModifiers(), Modifier.PUBLIC | Modifier.FINAL);
        TreeSet<String> members = new TreeSet<>();
        for (Method m : face.getDeclaredMethods()) {
            if (!Modifier.isPrivate(m.getModifiers())) {
                members.add(m.toString());
            }
        }
        for (Field f : face.getDeclaredFields()) {
            if (!Modifier.isPrivate(f.getModifiers())) {
                members.add(f.toString());
            }
        }
        for (Constructor<?> c : face.getDeclaredConstructors()) {
            members.add(c.toString());
        }
        TreeSet<String> due = new TreeSet<>();
        due.add("public static final int ReadCaller.NONE");
        due.add("public ReadCaller()");
        due.add("public boolean ReadCaller.put(int,int,int)");
        due.add("public boolean ReadCaller.clear(int)");
        due.add("public int ReadCaller.size(int)");
        due.add("public int ReadCaller.call(int)");
        due.add("public int ReadCaller.reads()");
        due.add("public int ReadCaller.place(int,int)");
        due.add("public int ReadCaller.step(int,int)");
        due.add("public int ReadCaller.seen(int,int)");
        due.add("public int ReadCaller.links(int,int)");
        due.add("public int ReadCaller.length()");
        due.add("public int ReadCaller.letter(int)");
        Check.same("members", String.join("\n", members), String.join("\n", due));
        Check.same("NONE", ReadCaller.NONE, -1);
    }

    private static void aNewObjectIsEmpty() {
        ReadCaller x = new ReadCaller();
        Check.same("size(0)", x.size(0), 0);
        Check.same("size(1)", x.size(1), 0);
        nothingIsShown(x);
        Check.same("call(0) of empty texts", x.call(0), -1000);
        nothingIsShown(x);
    }

    private static void nothingIsShown(ReadCaller x) {
        Check.same("reads()", x.reads(), 0);
        Check.same("length()", x.length(), 0);
        Check.same("letter(0)", x.letter(0), 0);
        Check.same("place(0, 0)", x.place(0, 0), -1);
        Check.same("place(0, 1)", x.place(0, 1), -1);
        Check.same("step(0, 0)", x.step(0, 0), 0);
        Check.same("seen(0, 0)", x.seen(0, 0), 0);
        Check.same("links(0, 0)", x.links(0, 0), 0);
    }
}
