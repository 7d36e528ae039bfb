import java.lang.reflect.Constructor;
import java.lang.reflect.Field;
import java.lang.reflect.Method;
import java.lang.reflect.Modifier;
import java.util.Arrays;
import java.util.HashSet;
import java.util.Set;
import java.util.TreeSet;

/** The class has the document's face, and nothing else that can be seen from outside. */
public final class FaceTest {
    private static final String[] FACE = {
        "boolean wish(int,int)",
        "boolean twins(int,int)",
        "boolean drop(int)",
        "int table(int,int) IllegalArgumentException,IllegalStateException",
        "int game(int,int,int)",
        "int measure(int)",
        "boolean players(int)",
        "int pair() IllegalStateException,NoSuchElementException",
        "int cost(int)",
        "int opponent(int,int)",
        "int colour(int,int)",
        "void book(int,int,int) IllegalArgumentException",
        "boolean out(int)",
        "int standing(int)",
        "int score(int,int)",
        "int tree(int) IllegalArgumentException",
        "int node(int,int,int)",
        "boolean win(int,int,boolean)",
    };
    private static int wrong = 0;

    private static void due(boolean holds, String what) {
        if (!holds) {
            wrong++;
            System.out.println("not as due: " + what);
        }
    }

    private static String names(Class<?>[] types) {
        StringBuilder text = new StringBuilder();
        for (Class<?> type : types) {
            text.append(text.length() == 0 ? "" : ",").append(type.getSimpleName());
        }
        return text.toString();
    }

    private static String written(Method method) {
        String thrown = names(method.getExceptionTypes());
        return method.getReturnType().getSimpleName() + " " + method.getName()
            + "(" + names(method.getParameterTypes()) + ")" + (thrown.isEmpty() ? "" : " " + thrown);
    }

    private static void checkMethods() {
        Set<String> seen = new TreeSet<>();
        Set<String> publicNames = new HashSet<>();
        for (Method method : DrawBureau.class.getDeclaredMethods()) {
            if (Modifier.isPublic(method.getModifiers())) {
                seen.add(written(method));
                publicNames.add(method.getName());
            } else {
                due(Modifier.isPrivate(method.getModifiers()), method + " is private");
            }
        }
        due(seen.equals(new TreeSet<>(Arrays.asList(FACE))), "the public methods: " + seen);
        for (Class<?> inside : DrawBureau.class.getDeclaredClasses()) {
            for (Method method : inside.getDeclaredMethods()) {
                due(!publicNames.contains(method.getName()), method + " bears a name of its own");
            }
        }
    }

    private static void checkFields() {
        for (Field field : DrawBureau.class.getDeclaredFields()) {
            int how = field.getModifiers();
            if (field.getName().equals("NONE")) {
                due(Modifier.isPublic(how) && Modifier.isStatic(how) && Modifier.isFinal(how), "NONE is a constant");
            } else {
                due(Modifier.isPrivate(how), field + " is private");
            }
            due(!Modifier.isStatic(how) || Modifier.isFinal(how), field + " is no static state");
        }
        due(DrawBureau.NONE == -1, "NONE is -1");
    }

    private static void checkClasses() {
        due(Modifier.isPublic(DrawBureau.class.getModifiers()), "the class is public");
        due(Modifier.isFinal(DrawBureau.class.getModifiers()), "the class is final");
        Constructor<?>[] made = DrawBureau.class.getDeclaredConstructors();
        due(made.length == 1 && Modifier.isPublic(made[0].getModifiers())
            && made[0].getParameterCount() == 0 && made[0].getExceptionTypes().length == 0, "the one constructor");
        Class<?>[] inside = DrawBureau.class.getDeclaredClasses();
        due(inside.length < 12, "at most twelve classes");
        for (Class<?> one : inside) {
            due(Modifier.isStatic(one.getModifiers()), one + " is static");
            due(!Modifier.isPublic(one.getModifiers()) && !Modifier.isProtected(one.getModifiers()), one + " is hidden");
        }
    }

    public static void main(String[] args) {
        checkMethods();
        checkFields();
        checkClasses();
        System.out.println(wrong == 0 ? "the face is as due" : wrong + " are not as due");
        if (wrong != 0) {
            System.exit(1);
        }
    }
}
