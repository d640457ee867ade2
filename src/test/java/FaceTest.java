import java.lang.reflect.Constructor;
import java.lang.reflect.Field;
import java.lang.reflect.Method;
import java.lang.reflect.Modifier;
import java.util.Set;
import java.util.TreeSet;

/** Promise 1 and the public face: just the members that the document lists, and a new object. */
final class FaceTest {
    private static final String[] FACE = {
        "stair(int,int)", "of(int,int,int)", "set(int,int)", "change(int,int)", "person(int,int,int)",
        "told(int,int)", "strike(int)", "type(long,int)", "people()", "count(int)",
        "fate(int,int)", "at(int,int)", "on(int,int,int,int)", "all(int)",
        "ways(int)", "best(int,int)", "thrift(int,int)", "costs(int)", "rules()", "stood(int,int,int,int)",
        "image()", "restore()",
        "film(int,int,int,int)", "sheet(int,int,int)", "drop(int)", "item(int,int,int,int)",
        "copy(int,int,int,int,int)"
    };

    public static void main(String[] args) {
        Check c = new Check("FaceTest");
        methods(c);
        constants(c);
        newObject(c);
        c.end();
    }

    private static void methods(Check c) {
        Set<String> due = new TreeSet<>(Set.of(FACE));
        Set<String> names = new TreeSet<>();
        for (String call : FACE) {
            names.add(call.substring(0, call.indexOf('(')));
        }
        Set<String> got = new TreeSet<>();
        for (Method m : StairsThatGo.class.getDeclaredMethods()) {
            if (Modifier.isPrivate(m.getModifiers())) {
                c.holds("no private method is named " + m.getName(), !names.contains(m.getName()));
                continue;
            }
            StringBuilder call = new StringBuilder(m.getName()).append('(');
            for (Class<?> type : m.getParameterTypes()) {
                call.append(call.charAt(call.length() - 1) == '(' ? "" : ",").append(type.getName());
            }
            got.add(call.append(')').toString());
            c.holds(m + " is a public int of an object",
                m.getReturnType() == int.class && m.getModifiers() == Modifier.PUBLIC);
        }
        c.holds("methods " + got, due.equals(got));
        Constructor<?>[] makers = StairsThatGo.class.getDeclaredConstructors();
        c.holds("one public constructor", makers.length == 1
            && Modifier.isPublic(makers[0].getModifiers()) && makers[0].getParameterCount() == 0);
        c.holds("public and final", StairsThatGo.class.getModifiers() == (Modifier.PUBLIC | Modifier.FINAL));
        for (Class<?> inside : StairsThatGo.class.getDeclaredClasses()) {
            int m = inside.getModifiers();
            c.holds(inside + " is static and hidden",
                Modifier.isStatic(m) && !Modifier.isPublic(m) && !Modifier.isProtected(m));
        }
    }

    private static void constants(Check c) {
        c.due("BAD", StairsThatGo.BAD, -1);
        c.due("NOT", StairsThatGo.NOT, -2);
        c.due("FULL", StairsThatGo.FULL, -3);
        c.due("NONE", StairsThatGo.NONE, -4);
        c.due("NULL", StairsThatGo.NULL, -11);
        c.due("CAST", StairsThatGo.CAST, -12);
        c.due("INDEX", StairsThatGo.INDEX, -13);
        c.due("SIZE", StairsThatGo.SIZE, -14);
        int open = 0;
        for (Field f : StairsThatGo.class.getDeclaredFields()) {
            if (!Modifier.isPrivate(f.getModifiers())) {
                open++;
                c.holds(f + " is a constant",
                    f.getModifiers() == (Modifier.PUBLIC | Modifier.STATIC | Modifier.FINAL));
            }
            c.holds(f + " is final if static",
                !Modifier.isStatic(f.getModifiers()) || Modifier.isFinal(f.getModifiers()));
        }
        c.due("constants", open, 8);
    }

    private static void newObject(Check c) {
        StairsThatGo x = new StairsThatGo();
        c.due("count(0)", x.count(0), 0);
        c.due("count(1)", x.count(1), 0);
        c.due("count(2)", x.count(2), 0);
        c.due("set(0, 0)", x.set(0, 0), 1);
        c.due("set(1, 1)", x.set(1, 1), 4);
        c.due("set(2, 1)", x.set(2, 1), 2);
        c.due("set(3, 2)", x.set(3, 2), 12);
        c.due("set(4, 1)", x.set(4, 1), 3);
        c.due("set(5, 0)", x.set(5, 0), 2);
        c.due("set(6, 0)", x.set(6, 0), 5);
        c.due("change(0, 0)", x.change(0, 0), 0);
        c.due("restore()", x.restore(), -4);
        for (int what = 0; what <= 6; what++) {
            c.due("all(" + what + ")", x.all(what), 0);
        }
        for (int what = 0; what <= 4; what++) {
            c.due("at(99, " + what + ")", x.at(99, what), 0);
        }
        for (int sheet = 0; sheet < 4; sheet++) {
            c.due("drop(" + sheet + ")", x.drop(sheet), -11);
        }
        c.due("people() of an empty tape", x.people(), -20);
        // one object's calls leave another alone
        StairsThatGo y = new StairsThatGo();
        y.stair(3, 1);
        y.person(0, 0, 0);
        c.due("count(0) of the other", x.count(0), 0);
        c.due("count(1) of the other", x.count(1), 0);
    }
}
