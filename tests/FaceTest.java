import java.lang.reflect.Constructor;
import java.lang.reflect.Field;
import java.lang.reflect.Method;
import java.lang.reflect.Modifier;
import java.util.Arrays;
import java.util.Set;
import java.util.TreeSet;

/** The public face is the document's, no more and no less. */
public final class FaceTest {
    private static final String[] FACE = {
        "thing(int,int)", "thingIs(int,int)", "as(int,int)", "set(int,int,int)",
        "melt(int,int)", "crucible(int)", "cast(int,int,int)", "years(int)",
        "then(int,int,int)", "seed(int)", "feed(long,int)", "text(int)", "untell(int)",
        "claim(int,int)", "claimIs(int,int)", "share(int,int)", "left(int,int)",
        "paper(int,int,int)", "weigh(int,int,int)", "forget(int)", "by(int,int,int)",
        "fits(int)", "span(int,int,int)", "next()", "most(int,int,int)",
        "voice(int,int,int)", "body(int)", "sheet(int,int,int)", "put(int,int,int)",
        "move(int,int,int,int,int)", "papers(int)", "judge(int,int)", "image()",
        "restore()", "tell(int)", "check()", "count(int)", "told(int)",
    };

    public static void main(String[] args) {
        Due due = new Due();
        Set<String> face = new TreeSet<>();
        Set<String> names = new TreeSet<>();
        for (Method method : OldBronze.class.getDeclaredMethods()) {
            if (Modifier.isPublic(method.getModifiers())) {
                face.add(form(method));
                names.add(method.getName());
                due.is(method + " is an int of an object", isPlain(method) ? 1 : 0, 1);
            }
        }
        due.is("the face is the document's " + face,
                face.equals(new TreeSet<>(Arrays.asList(FACE))) ? 1 : 0, 1);
        for (Method method : OldBronze.class.getDeclaredMethods()) {
            if (!Modifier.isPublic(method.getModifiers())) {
                due.is(method + " is private", isPrivate(method.getModifiers()), 1);
                due.is(method + " has a name of its own",
                        names.contains(method.getName()) ? 1 : 0, 0);
            }
        }
        for (Field field : OldBronze.class.getDeclaredFields()) {
            due.is(field + " is private", isPrivate(field.getModifiers()), 1);
        }
        for (Class<?> inner : OldBronze.class.getDeclaredClasses()) {
            due.is(inner + " is static",
                    Modifier.isStatic(inner.getModifiers())
                            && !Modifier.isPublic(inner.getModifiers()) ? 1 : 0, 1);
            for (Method method : inner.getDeclaredMethods()) {
                due.is(method + " has a name of its own",
                        names.contains(method.getName()) ? 1 : 0, 0);
            }
        }
        Constructor<?>[] constructors = OldBronze.class.getDeclaredConstructors();
        due.is("constructors", constructors.length, 1);
        due.is("the class is public and final",
                OldBronze.class.getModifiers(), Modifier.PUBLIC | Modifier.FINAL);
        due.end();
    }

    private static boolean isPlain(Method method) {
        return method.getReturnType() == int.class && !Modifier.isStatic(method.getModifiers());
    }

    private static int isPrivate(int modifiers) {
        return Modifier.isPrivate(modifiers) ? 1 : 0;
    }

    private static String form(Method method) {
        StringBuilder form = new StringBuilder(method.getName()).append('(');
        for (Class<?> type : method.getParameterTypes()) {
            form.append(form.charAt(form.length() - 1) == '(' ? "" : ",").append(type.getName());
        }
        return form.append(')').toString();
    }
}
