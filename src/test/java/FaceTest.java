import java.lang.reflect.Constructor;
import java.lang.reflect.Field;
import java.lang.reflect.Method;
import java.lang.reflect.Modifier;
import java.util.Arrays;
import java.util.TreeSet;

/** The public face, its constants, and promise 1: a new object. */
public final class FaceTest {
    private static final String[] METHODS = {
        "int row(int,int,int)", "int set(int,int,int)", "int copy(int,int,int,int,int)", "int drop(int)",
        "int feed(int)", "int rail()", "int fault()", "int lay(int,int)", "int work()", "int gang(int,int)",
        "int read(int,int)", "int bound(int,int)", "int undo()", "int peg(int,int)", "int line(int)",
        "int best(int)", "int wrong(int)", "int moment(int)", "int fits(int,int,int,int)",
        "int tell(int,int,int)", "long chance(int,int,int)", "int drawn(int,int,int)", "int image(int)",
        "int restore(int)", "int kind(int)", "int as(int,int)", "int ask(int,int)", "int trace(int)",
        "int count(int)", "int status()"};
    private static final String[] CONSTANTS = {"NONE", "BAD", "STATE", "FULL"};

    private static String told(Method m) {
        StringBuilder types = new StringBuilder();
        for (Class<?> type : m.getParameterTypes()) {
            types.append(types.length() == 0 ? "" : ",").append(type.getName());
        }
        return m.getReturnType().getName() + " " + m.getName() + "(" + types + ")";
    }

    private static void face(Due due) {
        TreeSet<String> open = new TreeSet<>();
        TreeSet<String> openNames = new TreeSet<>();
        for (Method m : SlewRails.class.getDeclaredMethods()) {
            if (!Modifier.isPrivate(m.getModifiers())) {
                open.add(told(m));
                openNames.add(m.getName());
            }
        }
        for (Method m : SlewRails.class.getDeclaredMethods()) {
            due.holds("private " + m.getName() + " has a name of its own",
                !Modifier.isPrivate(m.getModifiers()) || !openNames.contains(m.getName()));
        }
        due.holds("methods " + open, open.equals(new TreeSet<>(Arrays.asList(METHODS))));
        for (Field f : SlewRails.class.getDeclaredFields()) {
            boolean isConstant = Arrays.asList(CONSTANTS).contains(f.getName());
            due.holds("field " + f.getName(), isConstant
                ? Modifier.isPublic(f.getModifiers()) && Modifier.isFinal(f.getModifiers())
                : Modifier.isPrivate(f.getModifiers()));
            due.holds("static field " + f.getName() + " is final",
                !Modifier.isStatic(f.getModifiers()) || Modifier.isFinal(f.getModifiers()));
        }
        for (Class<?> inside : SlewRails.class.getDeclaredClasses()) {
            due.holds("class " + inside.getName(), Modifier.isStatic(inside.getModifiers())
                && !Modifier.isPublic(inside.getModifiers()) && !Modifier.isProtected(inside.getModifiers()));
        }
        Constructor<?>[] made = SlewRails.class.getDeclaredConstructors();
        due.is("constructors", made.length, 1);
        due.holds("public SlewRails()", Modifier.isPublic(made[0].getModifiers()) && made[0].getParameterCount() == 0);
        due.holds("public final class", Modifier.isPublic(SlewRails.class.getModifiers())
            && Modifier.isFinal(SlewRails.class.getModifiers()));
    }

    private static void newObject(Due due) {
        SlewRails x = new SlewRails();
        for (int what = 0; what <= 5; what++) {
            due.is("new: count(" + what + ")", x.count(what), 0);
        }
        due.is("new: status()", x.status(), 0);
        due.is("new: fault()", x.fault(), 0);
        due.is("new: trace(0)", x.trace(0), SlewRails.NONE);
        due.is("new: peg(0, 0)", x.peg(0, 0), SlewRails.BAD);
        due.is("new: kind(0)", x.kind(0), SlewRails.BAD);
        due.is("new: work()", x.work(), SlewRails.STATE);
        due.is("new: undo()", x.undo(), SlewRails.STATE);
        due.is("new: restore(1)", x.restore(1), SlewRails.STATE);
        for (int row = 0; row < 8; row++) {
            due.is("new: drop(" + row + ")", x.drop(row), -1000011);
        }
    }

    public static void main(String[] args) {
        Due due = new Due("FaceTest");
        due.is("NONE", SlewRails.NONE, -1000000);
        due.is("BAD", SlewRails.BAD, -1000001);
        due.is("STATE", SlewRails.STATE, -1000002);
        due.is("FULL", SlewRails.FULL, -1000003);
        face(due);
        newObject(due);
        due.end();
    }
}
