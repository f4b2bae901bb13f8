import java.lang.reflect.Constructor;
import java.lang.reflect.Field;
import java.lang.reflect.Method;
import java.lang.reflect.Modifier;
import java.util.Set;
import java.util.TreeSet;

/** The class shows the document's public face and nothing else. */
public final class FaceTest {
    private static final Set<String> FACE = Set.of(
            "size/0", "seekerLikes/3", "placeLikes/3", "likeAll/4", "fitting/2", "stables/0",
            "stable/1", "blocking/1", "bestFor/1", "worstFor/1", "together/2", "placed/0",
            "leastCost/0", "fairest/0", "better/2");

    public static void main(String[] args) {
        Answers answers = new Answers();
        Class<?> type = StablePairs.class;
        answers.holds("the class is public and final",
                Modifier.isPublic(type.getModifiers()) && Modifier.isFinal(type.getModifiers()));
        Set<String> shown = new TreeSet<>();
        for (Method method : type.getDeclaredMethods()) {
            if (!Modifier.isPrivate(method.getModifiers())) {
                shown.add(method.getName() + "/" + method.getParameterCount());
                answers.holds(method + " is public and of an object", isOffered(method));
                answers.holds(method + " takes and answers int alone", onlyInts(method));
            }
        }
        answers.holds("the methods shown are the document's: " + shown, shown.equals(FACE));
        for (Field field : type.getDeclaredFields()) {
            answers.holds(field + " is private", Modifier.isPrivate(field.getModifiers()));
        }
        Constructor<?>[] constructors = type.getDeclaredConstructors();
        answers.holds("there is one constructor", constructors.length == 1);
        answers.holds(constructors[0] + " is public and takes one int",
                Modifier.isPublic(constructors[0].getModifiers()) && takesOneInt(constructors[0]));
        answers.end();
    }

    /** The other tests stand beside the class, so they would call a method that is not public. */
    private static boolean isOffered(Method method) {
        int modifiers = method.getModifiers();
        return Modifier.isPublic(modifiers) && !Modifier.isStatic(modifiers);
    }

    private static boolean takesOneInt(Constructor<?> constructor) {
        Class<?>[] parameters = constructor.getParameterTypes();
        return parameters.length == 1 && parameters[0] == int.class;
    }

    private static boolean onlyInts(Method method) {
        boolean ints = method.getReturnType() == int.class;
        for (Class<?> parameter : method.getParameterTypes()) {
            ints &= parameter == int.class;
        }
        return ints;
    }
}
