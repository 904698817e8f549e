import java.lang.reflect.Constructor;
import java.lang.reflect.Field;
import java.lang.reflect.Member;
import java.lang.reflect.Method;
import java.lang.reflect.Modifier;
import java.util.ArrayList;
import java.util.List;
import java.util.Set;
import java.util.TreeSet;

/** The public face, and wild arguments in any state. */
public final class FaceTest extends Checks {
    private static final String[] METHODS = {"step(int,int)", "drop()", "sound()", "state(int)", "clash(int)",
        "clashOf(int)", "groups()", "cut(int)", "memories()", "pace(int,boolean,int,int)", "span(int)",
        "law(int,boolean,int,boolean)", "repeal(int)", "breach()", "home(int)", "way(int,int)", "stops(int)",
        "explains(int)", "count(int)"};

    public static void main(String[] args) throws Exception {
        constants();
        methods();
        constructors();
        classesInside();
        wildArguments();
        end("FaceTest");
    }

    private static boolean isHidden(Member member) {
        return Modifier.isPrivate(member.getModifiers()) || member.isSynthetic();
    }

    private static void constants() throws Exception {
        due("NONE", AirSteps.NONE, -1);
        due("BAD", AirSteps.BAD, -2);
        due("NOT", AirSteps.NOT, -3);
        due("FULL", AirSteps.FULL, -4);
        Set<String> seen = new TreeSet<>();
        for (Field field : AirSteps.class.getDeclaredFields()) {
            if (Modifier.isStatic(field.getModifiers())) {
                due("final: " + field.getName(), Modifier.isFinal(field.getModifiers()), true);
            }
            if (isHidden(field)) continue;
            due("public static final int: " + field.getName(),
                Modifier.toString(field.getModifiers()) + " " + field.getType(), "public static final int");
            seen.add(field.getName());
        }
        due("the constants", seen.toString(), "[BAD, FULL, NONE, NOT]");
        due("the class is", Modifier.toString(AirSteps.class.getModifiers()), "public final");
    }

    private static void methods() {
        Set<String> seen = new TreeSet<>();
        List<String> hidden = new ArrayList<>();
        Set<String> names = new TreeSet<>();
        for (Method method : AirSteps.class.getDeclaredMethods()) {
            if (isHidden(method)) {
                hidden.add(method.getName());
                continue;
            }
            names.add(method.getName());
            StringBuilder text = new StringBuilder(method.getName()).append('(');
            for (Class<?> type : method.getParameterTypes()) {
                text.append(text.charAt(text.length() - 1) == '(' ? "" : ",").append(type.getName());
            }
            seen.add(text.append(')').toString());
            due("public int: " + text,
                Modifier.toString(method.getModifiers()) + " " + method.getReturnType(), "public int");
        }
        due("the methods", seen, new TreeSet<>(List.of(METHODS)));
        for (String name : hidden) due("a hidden method has a public name: " + name, names.contains(name), false);
    }

    private static void constructors() {
        int open = 0;
        for (Constructor<?> constructor : AirSteps.class.getDeclaredConstructors()) {
            if (isHidden(constructor)) continue;
            open++;
            due("parameters of the constructor", constructor.getParameterCount(), 0);
            due("the constructor is", Modifier.toString(constructor.getModifiers()), "public");
        }
        due("constructors", open, 1);
    }

    private static void classesInside() {
        for (Class<?> inside : AirSteps.class.getDeclaredClasses()) {
            int m = inside.getModifiers();
            due("static: " + inside.getName(), Modifier.isStatic(m), true);
            due("hidden: " + inside.getName(), Modifier.isPublic(m) || Modifier.isProtected(m), false);
        }
    }

    private static void wildArguments() {
        int[] wild = {MIN, -65, -12, -1, 0, 1, 5, 6, 11, 12, 15, 16, 17, 31, 63, 64, 127, 4096,
            MAX};
        for (int kind = 0; kind < 4; kind++) {
            for (int a : wild) {
                for (int b : wild) callAll(inState(kind), a, b);
            }
        }
    }

    private static AirSteps inState(int kind) {
        AirSteps x = new AirSteps();
        for (int k = 0; kind > 0 && k < 16; k++) {
            if (k % 2 == 0) x.step(63, 0);
            else x.step(0, 63);
        }
        for (int i = 0; kind > 1 && i < 12; i++) x.law(i % 6, i < 6, (i + 1) % 6, true);
        if (kind > 2) x.drop();
        return x;
    }

    private static void callAll(AirSteps x, int a, int b) {
        x.sound();
        x.groups();
        x.memories();
        x.breach();
        x.state(a);
        x.clash(a);
        x.clashOf(a);
        x.cut(a);
        x.span(a);
        x.stops(a);
        x.explains(a);
        x.count(a);
        x.home(a);
        x.way(a, b);
        x.pace(a, true, b, a);
        x.pace(1, false, a, b);
        x.law(a, true, b, false);
        x.repeal(a);
        x.step(a, b);
        x.drop();
        x.home(b);
    }
}
