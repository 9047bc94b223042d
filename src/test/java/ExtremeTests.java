import java.lang.reflect.InvocationTargetException;
import java.lang.reflect.Method;
import java.util.Comparator;
import java.util.Arrays;
import java.util.NoSuchElementException;
import java.util.Random;

/** Every call of the face with the most unlikely numbers, in many states: nothing but lamp() throws. */
public final class ExtremeTests {
    private static final int[] NUMBERS = {Integer.MIN_VALUE, Integer.MIN_VALUE + 1, -33, -32, -31, -3, -2, -1, 0, 1, 2, 3, 4,
        5, 6, 7, 9, 10, 11, 13, 14, 15, 16, 23, 24, 25, 31, 32, 33, 63, 64, 99, 100, 199, 200, 201, 699, 700, 1023, 1024,
        8191, 16383, 16384, 65536, Integer.MAX_VALUE - 1, Integer.MAX_VALUE};
    private static final Checks C = new Checks();

    public static void main(String[] args) throws Exception {
        Method[] all = BellPulls.class.getDeclaredMethods();
        Method[] face = Arrays.stream(all).filter(m -> (m.getModifiers() & 1) != 0)
                .sorted(Comparator.comparing(Method::getName)).toArray(Method[]::new);
        String full = "lamp a;lamp b;lamp c;lamp d;lamp e;lamp f;lamp g;lamp h;lamp i;lamp j;lamp k;lamp l;lamp m;lamp n;"
                + "pull a 1 a b c d e f g h i j k l m n;pull b 2 n;pull c 3 m;pull d 4 a;pull e 5 n m;pull f 6 c;pull g 7;"
                + "pull h 8 a n;pull i 9 g h;pull j 99 a b;lit a;lit n;ring j 0;ring j 0;ring a 2;mend 2;burn 40;seed 99999;"
                + "law toll 9999 * 9999 * worn;law stick worn > 3;law fate age * 9 - out / (shown - 2);";
        String[] texts = {"", Checks.HOUSE, full, "lamp a;", "pull p 1;"};
        for (int seed = 0; seed < 150; seed++) {
            Random random = new Random(seed);
            BellPulls x = Checks.of(texts[seed % texts.length]);
            for (int call = 0; call < 480; call++) {
                one(x, face[random.nextInt(face.length)], random);
            }
        }
        C.end("ExtremeTests");
    }

    private static void one(BellPulls x, Method m, Random random) throws Exception {
        Object[] given = new Object[m.getParameterCount()];
        for (int i = 0; i < given.length; i++) {
            boolean number = m.getParameterTypes()[i] == int.class;
            given[i] = number ? (Object) NUMBERS[random.nextInt(NUMBERS.length)] : (Object) random.nextBoolean();
        }
        if (m.getName().equals("text") && random.nextInt(20) > 0) {
            return;
        }
        int wrong = 0;
        try {
            m.invoke(x, given);
        } catch (InvocationTargetException e) {
            Throwable t = e.getCause();
            boolean due = t.getClass() == IndexOutOfBoundsException.class || t.getClass() == NoSuchElementException.class;
            wrong = due && m.getName().equals("lamp") ? 0 : 1;
        }
        C.due(m.getName() + Arrays.toString(given) + " throws", wrong, 0);
    }
}
