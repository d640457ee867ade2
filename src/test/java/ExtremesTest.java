import java.lang.reflect.Method;
import java.util.ArrayList;
import java.util.List;

/** Every call with every mix of outermost numbers: nothing is thrown, and the answer is the model's. */
final class ExtremesTest {
    private static final int[] MANY = {Integer.MIN_VALUE, -1, 0, 1, 2, 3, 4, 8, 9, 10, 11, 13, 14, 17, 27, 99, 100,
        Integer.MAX_VALUE};
    private static final int[] SOME = {Integer.MIN_VALUE, -1, 0, 1, 2, 4, 16, 17, Integer.MAX_VALUE};
    private static final int[] FEW = {Integer.MIN_VALUE, -1, 0, 1, 3, 5, 16, Integer.MAX_VALUE};
    private static final long[] WORDS = {Long.MIN_VALUE, -1L, 0L, 31L, 53L, Check.word("5us;5us;"), Check.word("9ds"),
        Long.MAX_VALUE};
    private static final String[] CALLS = {"of", "set", "change", "told", "count", "type", "people", "fate", "at", "on",
        "all", "ways", "best", "thrift", "costs", "rules", "film", "stood", "copy", "item", "sheet", "copy", "drop",
        "image", "strike", "restore", "person", "stair", "fate", "all", "restore"};

    private final Check c;
    private final StairsThatGo x = new StairsThatGo();
    private final Model m = new Model();
    private Method onClass;
    private Method onModel;

    private ExtremesTest(Check c) {
        this.c = c;
    }

    public static void main(String[] args) throws ReflectiveOperationException {
        Check c = new Check("ExtremesTest");
        new ExtremesTest(c).inState(0);
        new ExtremesTest(c).inState(1);
        c.end();
    }

    private void inState(int state) throws ReflectiveOperationException {
        if (state == 1) {
            c.due("stair", x.stair(4, 1), m.stair(4, 1));
            for (int p = 0; p < 3; p++) {
                c.due("person", x.person(p, p % 2, p), m.person(p, p % 2, p));
            }
            c.due("sheet", x.sheet(0, 0, 16), m.sheet(0, 0, 16));
            c.due("sheet", x.sheet(1, 0, 5), m.sheet(1, 0, 5));
            c.due("sheet", x.sheet(3, 1, 0), m.sheet(3, 1, 0));
        }
        for (String name : CALLS) {
            for (Method call : StairsThatGo.class.getMethods()) {
                if (call.getName().equals(name)) {
                    onClass = call;
                    onModel = Model.class.getDeclaredMethod(name, call.getParameterTypes());
                    mix(new ArrayList<>());
                }
            }
        }
    }

    private void mix(List<Object> arguments) throws ReflectiveOperationException {
        int k = arguments.size();
        int n = onClass.getParameterCount();
        if (k == n) {
            Object want = onModel.invoke(m, arguments.toArray());
            Object got;
            try {
                got = onClass.invoke(x, arguments.toArray());
            } catch (ReflectiveOperationException thrown) {
                thrown.getCause().printStackTrace(System.out);
                got = Integer.MIN_VALUE;
            }
            c.due(onClass.getName() + arguments, (Integer) got, (Integer) want);
            return;
        }
        boolean isLong = onClass.getParameterTypes()[k] == long.class;
        int[] values = n <= 2 ? MANY : n <= 4 ? SOME : FEW;
        for (int i = 0; i < (isLong ? WORDS.length : values.length); i++) {
            arguments.add(isLong ? (Object) WORDS[i] : (Object) values[i]);
            mix(arguments);
            arguments.remove(k);
        }
    }
}
