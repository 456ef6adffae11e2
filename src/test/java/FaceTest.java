import java.lang.reflect.Constructor;
import java.lang.reflect.Field;
import java.lang.reflect.Method;
import java.lang.reflect.Modifier;
import java.util.Arrays;
import java.util.TreeSet;

/** The public face, to the letter, and promise 1. */
public final class FaceTest {
    private static final String[] FACE = {
        "int feed(int,int,int,int,int)", "boolean end(int)", "int fault(int)", "int text(int)", "int rule(int)",
        "int rope(int,int)", "long pull(int,int)", "long shift(int,int)", "long held(int,int)", "long load(int,int)",
        "int worst()", "int wind(int,int,int)", "int winch(int,int)", "int cast(int)", "int renew(int)",
        "int status(int)", "int cause(int)", "int undo()", "int log(int,int)", "int step(int,int,int)",
        "int run(int,int)", "int perform(int)", "int stand(int,int,int,int)", "int fall(int,int,int,int,int)",
        "int ease(int)", "int range(int,boolean)", "long uneven(int)", "int accord(int,int)", "long trim(int,int)",
        "int fewest(int)", "int without(int,int)", "int key()", "int odds(int,int,int,int,int)", "int shares(int,int)",
        "int years(int,long)", "int most(int)", "int image()", "int back()", "int count(int)"};

    private FaceTest() {
    }

    public static void main(String[] args) {
        face();
        newObject();
        Check.finish("FaceTest");
    }

    private static void face() {
        Class<MooringDesk> desk = MooringDesk.class;
        Check.due("public and final", desk.getModifiers(), Modifier.PUBLIC | Modifier.FINAL);
        TreeSet<String> seen = new TreeSet<>();
        TreeSet<String> names = new TreeSet<>();
        for (Method method : desk.getDeclaredMethods()) {
            if (Modifier.isPublic(method.getModifiers())) {
                String params = Arrays.toString(method.getParameterTypes()).replaceAll("[\\[\\] ]", "");
                seen.add(method.getReturnType() + " " + method.getName() + "(" + params + ")");
                names.add(method.getName());
            } else {
                Check.due(method + " is private", Modifier.isPrivate(method.getModifiers()), true);
            }
        }
        Check.due("the face is " + seen, seen.equals(new TreeSet<>(Arrays.asList(FACE))), true);
        for (Method method : desk.getDeclaredMethods()) {
            Check.due(method + " bears a name of its own",
                Modifier.isPublic(method.getModifiers()) || !names.contains(method.getName()), true);
        }
        for (Field field : desk.getDeclaredFields()) {
            boolean isTold = field.getName().equals("NONE") || field.getName().equals("HIDDEN");
            Check.due(field + " is as the face says",
                isTold ? Modifier.isPublic(field.getModifiers()) : Modifier.isPrivate(field.getModifiers()), true);
            Check.due(field + ": what is static is final",
                !Modifier.isStatic(field.getModifiers()) || Modifier.isFinal(field.getModifiers()), true);
        }
        Constructor<?>[] constructors = desk.getDeclaredConstructors();
        Check.due("one constructor", constructors.length, 1);
        Check.due("it is public", Modifier.isPublic(constructors[0].getModifiers()), true);
        Check.due("it takes nothing", constructors[0].getParameterCount(), 0);
        for (Class<?> inside : desk.getDeclaredClasses()) {
            Check.due(inside + " is static", Modifier.isStatic(inside.getModifiers()), true);
            Check.due(inside + " is not public", Modifier.isPublic(inside.getModifiers()), false);
        }
    }

    private static void newObject() {
        MooringDesk desk = new MooringDesk();
        for (int what = 0; what <= 4; what++) {
            Check.due("count " + what, desk.count(what), 0);
            Check.due("status " + what, desk.status(what), 0);
            Check.due("rule " + what, desk.rule(what), MooringDesk.HIDDEN);
        }
        Check.due("cause", desk.cause(0), -1);
        Check.due("most", desk.most(0), MooringDesk.HIDDEN);
        Check.due("a wind", desk.wind(1, 0, 0), -1);
        Check.due("its status", desk.status(0), 1);
        Check.due("its causes", desk.cause(0), 100);
        Check.due("its causes", desk.cause(1), 0);
        Check.due("its causes", desk.cause(2), -1);
        Check.due("a winch", desk.winch(0, 10), -1);
        Check.due("its causes", desk.cause(0), 101);
        Check.due("a cast", desk.cast(0), -1);
        Check.due("its causes", desk.cause(0), 102);
        Check.due("a renew", desk.renew(0), -1);
        Check.due("its causes", desk.cause(0), 103);
        Check.due("its causes", desk.cause(1), 0);
        Check.due("its status", desk.status(0), 4);
        MooringDesk other = new MooringDesk();
        Check.due("another object is new", other.status(0), 0);
    }
}
