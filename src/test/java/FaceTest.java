import java.lang.reflect.Constructor;
import java.lang.reflect.Field;
import java.lang.reflect.Method;
import java.lang.reflect.Modifier;
import java.util.ArrayList;
import java.util.Collections;
import java.util.List;

/** The public face, and nothing beside it (LANGUAGE.md, rules 1 and 5). */
public final class FaceTest {
    private static final String[] FACE = {
        "public double RuleTracer.gathered(int,int,int) throws java.lang.IllegalArgumentException,java.util.NoSuchElementException",
        "public double RuleTracer.record() throws java.util.NoSuchElementException",
        "public double RuleTracer.variable(int,int) throws java.lang.IllegalArgumentException",
        "public int RuleTracer.compile(int) throws java.lang.IllegalArgumentException",
        "public int RuleTracer.count(int)",
        "public int RuleTracer.fire(int,boolean,int,double,double,double) throws java.lang.IllegalArgumentException",
        "public int RuleTracer.many(int,int,int) throws java.lang.IllegalArgumentException,java.util.NoSuchElementException",
        "public int RuleTracer.tick(int) throws java.lang.IllegalArgumentException",
        "public int RuleTracer.turn(int,boolean) throws java.lang.IllegalArgumentException,java.util.NoSuchElementException",
        "public int RuleTracer.type(long) throws java.lang.IllegalArgumentException,java.lang.IllegalStateException",
    };

    public static void main(String[] args) {
        List<String> found = new ArrayList<>();
        List<String> names = new ArrayList<>();
        for (Method m : RuleTracer.class.getDeclaredMethods()) {
            if (!Modifier.isPrivate(m.getModifiers())) {
                found.add(m.toString());
                names.add(m.getName());
            }
        }
        Collections.sort(found);
        Check.same("the methods that are not private", String.join("\n", found), String.join("\n", FACE));
        Constructor<?>[] made = RuleTracer.class.getDeclaredConstructors();
        Check.same("constructors", made.length, 1);
        Check.same("the constructor", made[0].toString(), "public RuleTracer()");
        Check.same("the class", Modifier.toString(RuleTracer.class.getModifiers()), "public final");
        checkFields(RuleTracer.class);
        checkPrivateNames(RuleTracer.class, names);
        for (Class<?> inside : RuleTracer.class.getDeclaredClasses()) {
            int is = inside.getModifiers();
            Check.isTrue(inside + " is static", Modifier.isStatic(is));
            Check.isTrue(inside + " is hidden", !Modifier.isPublic(is) && !Modifier.isProtected(is));
            checkFields(inside);
            checkPrivateNames(inside, names);
        }
        Check.finish("FaceTest");
    }

    private static void checkFields(Class<?> c) {
        for (Field f : c.getDeclaredFields()) {
            int is = f.getModifiers();
            Check.isTrue(f + " is final if static", !Modifier.isStatic(is) || Modifier.isFinal(is));
            Check.isTrue(f + " is no constant of double", !Modifier.isStatic(is) || f.getType() != double.class);
            if (c == RuleTracer.class) {
                Check.isTrue(f + " is private", Modifier.isPrivate(is));
            }
        }
    }

    private static void checkPrivateNames(Class<?> c, List<String> names) {
        for (Method m : c.getDeclaredMethods()) {
            boolean ofFace = c == RuleTracer.class && Modifier.isPublic(m.getModifiers());
            Check.isTrue(m + " bears a name of its own", ofFace || !names.contains(m.getName()));
        }
    }
}
