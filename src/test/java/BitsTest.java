import java.lang.reflect.Method;
import java.util.Random;

// The bits that the class makes by itself, beside those of the library: also of numbers that no known run reaches.
public final class BitsTest {
    private static final int TRIES = 200_000;

    private static Method find(String name, Class<?> type) {
        for (Method method : TapeHouse.class.getDeclaredMethods()) {
            if (method.getName().equals(name) && method.getParameterCount() == 1 && method.getParameterTypes()[0] == type) return method;
        }
        return null;
    }

    public static void main(String[] args) throws Exception {
        Method ofFloat = find("bitsOfFloat", float.class);
        Method ofDouble = find("bitsOfDouble", double.class);
        if (ofFloat == null || ofDouble == null) {
            System.out.println("the class makes its bits otherwise: nothing to look at");
            return;
        }
        ofFloat.setAccessible(true);
        ofDouble.setAccessible(true);
        int[] edges = {0, 1, 2, 0x7fffff, 0x800000, 0x800001, 0xffffff, 0x1000000, 0x3f7fffff, 0x3f800000, 0x3f800001, 0x3fffffff, 0x40000000, 0x7f7fffff};
        Random chance = new Random(1);
        int wrong = 0;
        for (int i = 0; i < TRIES; i++) {
            int bits = i < edges.length ? edges[i] : i % 9 == 0 ? chance.nextInt(0x800000) : chance.nextInt(0x7f800000);
            if (i % 2 == 1 && bits != 0) bits |= 1 << 31;
            float level = Float.intBitsToFloat(bits);
            if ((int) ofFloat.invoke(null, level) != bits) {
                wrong++;
                System.out.println("the bits of the float " + level + " are not as due");
            }
            double sum = i % 3 == 0 ? level : level * chance.nextDouble() + level;
            if ((long) ofDouble.invoke(null, sum) != Double.doubleToLongBits(sum)) {
                wrong++;
                System.out.println("the bits of the double " + sum + " are not as due");
            }
        }
        System.out.println(wrong == 0 ? "the bits are as due" : wrong + " bits are not as due");
        if (wrong != 0) System.exit(1);
    }
}
