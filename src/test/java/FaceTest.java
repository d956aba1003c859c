import java.lang.reflect.Constructor;
import java.lang.reflect.Field;
import java.lang.reflect.Member;
import java.lang.reflect.Method;
import java.lang.reflect.Modifier;
import java.util.ArrayList;
import java.util.List;
import java.util.Set;
import java.util.TreeSet;

/** 'The public face': what the document lists is there, as it stands there, and nothing else is (LANGUAGE.md, rules 1, 2, 5, 11). */
public final class FaceTest {
    private static final Set<String> DUE = new TreeSet<>(List.of(
        "int feed(int,int,int,int,int)", "int end(int)", "int text(int,int)", "int fault(int)", "int city(int,int)",
        "int deed(int,int,int)", "int stop(int,int)", "int state(int,int,int,int)", "int hears(int,int,int)", "int enough(int)",
        "int fresh(int,int,int,int)", "int gather(int,int,int,int,boolean)", "int chase(int,int,int)",
        "int programme(int,int,int)", "int part(int,int,boolean)", "int line(int)", "int trial(int,int)", "int thieves(int,int)",
        "int fact(int,int,int)", "int seen(int,int,int)", "int drawn(int,int,int,int)", "int steps(int,int,int)",
        "int blocks(int,boolean)", "int cordon(int,int,int)", "int square(int,boolean)", "int silent(int)", "int round(int,int)",
        "int count(int)", "boolean image(int)", "boolean again(int)"));

    public static void main(String[] args) {
        Check c = new Check();
        c.due("public and final", CityChords.class.getModifiers(), Modifier.PUBLIC | Modifier.FINAL);
        c.due("no package", CityChords.class.getPackageName().isEmpty(), true);
        c.due("NONE", CityChords.NONE, -1);
        constructors(c);
        methods(c);
        fields(c);
        inside(c);
        c.close();
    }

    private static void constructors(Check c) {
        Constructor<?>[] all = CityChords.class.getDeclaredConstructors();
        c.due("one constructor", all.length, 1);
        c.due("it is public", all[0].getModifiers(), Modifier.PUBLIC);
        c.due("it takes nothing", all[0].getParameterCount(), 0);
    }

    private static void methods(Check c) {
        Set<String> names = new TreeSet<>();
        Set<String> there = new TreeSet<>();
        for (Method method : CityChords.class.getDeclaredMethods()) {
            if (Modifier.isPrivate(method.getModifiers()) || method.isSynthetic()) {
                continue;
            }
            c.due(method + " is public alone", method.getModifiers(), Modifier.PUBLIC);
            there.add(sign(method));
            names.add(method.getName());
        }
        for (String its : DUE) {
            c.due("there is " + its, there.contains(its), true);
        }
        for (String its : there) {
            c.due("the document has " + its, DUE.contains(its), true);
        }
        for (Class<?> one : everyClass()) {
            for (Method method : one.getDeclaredMethods()) {
                boolean its = Modifier.isPrivate(method.getModifiers()) && names.contains(method.getName());
                c.due(method + " bears the name of a public one", its, false);
                c.due(method + " takes seven parameters at most", method.getParameterCount() <= 7, true);
            }
        }
    }

    private static String sign(Method method) {
        StringBuilder all = new StringBuilder(method.getReturnType() + " " + method.getName() + "(");
        for (Class<?> type : method.getParameterTypes()) {
            all.append(all.charAt(all.length() - 1) == '(' ? "" : ",").append(type);
        }
        return all.append(')').toString();
    }

    private static void fields(Check c) {
        for (Field field : CityChords.class.getDeclaredFields()) {
            boolean isNone = field.getName().equals("NONE");
            c.due(field + " is private but NONE", isPrivate(field), !isNone);
        }
        for (Class<?> one : everyClass()) {
            int its = 0;
            for (Field field : one.getDeclaredFields()) {
                int modifiers = field.getModifiers();
                its += Modifier.isStatic(modifiers) ? 0 : 1;
                c.due(field + " is final, if static", !Modifier.isStatic(modifiers) || Modifier.isFinal(modifiers), true);
            }
            c.due(one + " has some twenty fields at most", its <= 20, true);
        }
    }

    private static void inside(Check c) {
        c.due("twelve classes at most", everyClass().size() <= 12, true);
        for (Class<?> one : CityChords.class.getDeclaredClasses()) {
            int modifiers = one.getModifiers();
            c.due(one + " is static", Modifier.isStatic(modifiers), true);
            c.due(one + " is not public", Modifier.isPublic(modifiers) || Modifier.isProtected(modifiers), false);
            c.due(one + " has no classes inside", one.getDeclaredClasses().length, 0);
            c.due(one + " has Object above it", one.getSuperclass() == Object.class, true);
            for (Constructor<?> its : one.getDeclaredConstructors()) {
                c.due(its + " is private", isPrivate(its) || its.isSynthetic(), true);
            }
        }
    }

    private static boolean isPrivate(Member member) {
        return Modifier.isPrivate(member.getModifiers());
    }

    private static List<Class<?>> everyClass() {
        List<Class<?>> all = new ArrayList<>(List.of(CityChords.class.getDeclaredClasses()));
        all.add(CityChords.class);
        return all;
    }
}
