import java.lang.reflect.Constructor;
import java.lang.reflect.Field;
import java.lang.reflect.Method;
import java.lang.reflect.Modifier;
import java.util.Arrays;
import java.util.TreeSet;

/** The face of the class, and that no call throws what the document does not name. */
public final class FaceTests {
    private static final String BAD = "IllegalArgumentException";
    private static final String STATE = "IllegalStateException";
    private static final String INDEX = "IndexOutOfBoundsException";

    private static final String[] METHODS = {
        "int load() " + BAD + " " + STATE,
        "int die(int) " + INDEX + " " + BAD + " " + STATE,
        "int order(int,int,int,int) " + BAD + " " + STATE,
        "int link(int,int) " + INDEX + " " + BAD + " " + STATE,
        "int unlink(int) " + INDEX + " " + STATE,
        "int shift(int,int) " + INDEX + " " + BAD + " " + STATE,
        "int set(int,int) " + INDEX + " " + BAD + " " + STATE,
        "int promise()",
        "int release()",
        "int addPlayer() " + STATE,
        "int roll(int,int) " + INDEX + " " + BAD + " " + STATE,
        "int append(int) " + BAD + " " + STATE,
        "int clearBuffer()",
        "int firstError(boolean)",
        "int undo() " + STATE,
        "int square(int,int) " + INDEX + " " + BAD,
        "int linkOf(int,int) " + INDEX + " " + BAD,
        "int face(int,int) " + INDEX + " " + BAD,
        "int player(int,int) " + INDEX + " " + BAD,
        "int count(int) " + BAD,
        "int setting(int) " + INDEX,
        "int after(int,int) " + INDEX + " " + BAD,
        "long mean(int,int) " + INDEX + " " + BAD,
        "long chance(int,int,int) " + INDEX + " " + BAD,
        "int shortest(int,int) " + INDEX + " " + BAD,
        "long ifLinked(int,int,int) " + INDEX + " " + BAD,
        "int bestLink(int,int) " + BAD,
        "int bestSide(int) " + INDEX,
        "double meanLength()",
        "long digest()",
    };

    public static void main(String[] args) throws ReflectiveOperationException {
        methodsAreThoseOfTheDocument();
        othersArePrivate();
        noArgumentBreaksACall();
        Check.end();
    }

    private static void methodsAreThoseOfTheDocument() {
        TreeSet<String> found = new TreeSet<>();
        TreeSet<String> names = new TreeSet<>();
        for (Method method : LadderMakers.class.getDeclaredMethods()) {
            if (Modifier.isPublic(method.getModifiers())) {
                found.add(faceOf(method));
                names.add(method.getName());
            }
        }
        TreeSet<String> due = new TreeSet<>(Arrays.asList(METHODS));
        Check.isTrue("the methods " + found + " are " + due, found.equals(due));
        Class<?> type = LadderMakers.class;
        Check.isTrue("public final", type.getModifiers() == (Modifier.PUBLIC | Modifier.FINAL));
        for (Method method : type.getDeclaredMethods()) {
            boolean isPublic = Modifier.isPublic(method.getModifiers());
            Check.isTrue(method + " is public, or private with a name of its own",
                    isPublic || Modifier.isPrivate(method.getModifiers())
                            && !names.contains(method.getName()));
        }
    }

    private static String faceOf(Method method) {
        StringBuilder text = new StringBuilder();
        text.append(method.getReturnType()).append(' ').append(method.getName()).append('(');
        Class<?>[] types = method.getParameterTypes();
        for (int i = 0; i < types.length; i++) {
            text.append(i == 0 ? "" : ",").append(types[i]);
        }
        text.append(')');
        for (Class<?> thrown : method.getExceptionTypes()) {
            text.append(' ').append(thrown.getSimpleName());
        }
        return text.toString();
    }

    private static void othersArePrivate() {
        for (Field field : LadderMakers.class.getDeclaredFields()) {
            boolean isConstant = field.getName().equals("NONE")
                    && field.getModifiers() == (Modifier.PUBLIC | Modifier.STATIC | Modifier.FINAL);
            boolean isPrivate = Modifier.isPrivate(field.getModifiers());
            boolean isFinal = Modifier.isFinal(field.getModifiers());
            boolean isStatic = Modifier.isStatic(field.getModifiers());
            Check.isTrue(field + " is NONE or private", isConstant || isPrivate);
            Check.isTrue(field + " is final if it is static", isFinal || !isStatic);
        }
        Constructor<?>[] constructors = LadderMakers.class.getDeclaredConstructors();
        Check.due("constructors", constructors.length, 1);
        Check.due("is public", constructors[0].getModifiers(), Modifier.PUBLIC);
        for (Class<?> inside : LadderMakers.class.getDeclaredClasses()) {
            Check.isTrue(inside + " is private and static",
                    Modifier.isPrivate(inside.getModifiers())
                            && Modifier.isStatic(inside.getModifiers()));
        }
    }

    private static void noArgumentBreaksACall() throws ReflectiveOperationException {
        int[] values = {Integer.MIN_VALUE, Integer.MIN_VALUE + 1, -1000000000, -41, -2, -1, 0, 1, 2, 3,
            5, 6, 7, 8, 9, 13, 40, 41, 126, 1 << 16, 1000000000, Integer.MAX_VALUE - 1,
            Integer.MAX_VALUE};
        Method[] methods = LadderMakers.class.getDeclaredMethods();
        for (LadderMakers x : objects()) {
            for (Method method : methods) {
                if (Modifier.isPublic(method.getModifiers()) && method.getParameterCount() < 4) {
                    tryAll(x, method, values, new Object[method.getParameterCount()], 0);
                }
            }
        }
    }

    private static LadderMakers[] objects() {
        LadderMakers full = Makers.withBoard("40:1>0,2>0,3>0,4>0,5>0,6>0,7>0,8>0,9>0,39>40");
        full.addPlayer();
        full.promise();
        LadderMakers small = Makers.withBoardAndDie("8:1>2,3>4,5>6,7>8", "9");
        small.set(0, 1);
        small.addPlayer();
        LadderMakers typed = new LadderMakers();
        typed.order(0, 1, 2, 0);
        Makers.type(typed, "8:1>40,1>2,1>2,1>2,1>2,1>2,1>2,1>2,1>2,1>2,1>2,1>2,1>2,1>2");
        return new LadderMakers[] {new LadderMakers(), full, small, typed};
    }

    private static void tryAll(LadderMakers x, Method method, int[] values, Object[] arguments,
            int place) throws ReflectiveOperationException {
        if (place == arguments.length) {
            tryOne(x, method, arguments);
            return;
        }
        for (int value : values) {
            boolean isFlag = method.getParameterTypes()[place] == boolean.class;
            arguments[place] = isFlag ? (Object) (value > 0) : (Object) value;
            tryAll(x, method, values, arguments, place + 1);
        }
    }

    private static void tryOne(LadderMakers x, Method method, Object[] arguments)
            throws ReflectiveOperationException {
        try {
            method.invoke(x, arguments);
        } catch (java.lang.reflect.InvocationTargetException thrown) {
            Class<?> kind = thrown.getCause().getClass();
            Check.isTrue(method.getName() + Arrays.toString(arguments) + " may throw " + kind,
                    Arrays.asList(method.getExceptionTypes()).contains(kind));
        }
    }
}
