import java.lang.reflect.InvocationTargetException;
import java.lang.reflect.Method;
import java.lang.reflect.Modifier;
import java.util.ArrayList;
import java.util.Comparator;
import java.util.List;
import java.util.NoSuchElementException;

/** Every call of the face with numbers far out of bounds: nothing is ever thrown but by house. */
public final class StrangeCalls {
    private static final int[] NUMBERS = {Integer.MIN_VALUE, Integer.MIN_VALUE + 1, -1000000, -2, -1, 0, 1, 2, 3, 4, 5, 11,
        12, 16, 20, 30, 31, 32, 33, 60, 64, 99, 240, 9999, 10000, 0x40000000, Integer.MAX_VALUE - 1, Integer.MAX_VALUE};
    private static final String[] TEXTS = {"d", "d;d;w", "va1h23m1;d;d;d;d;w;wa2b3;wa1b2;wa0b3o1",
        "d;dw9b1;dk9;dp9;de9;d;d;d;d;d;d;d;w;wa1b2;wa2b3;wa3b4;wa4b5;wa5b6;wa6b7;wa7b8;wa8b9;wa9b10;wa10b11;wa11b0",
        "y:h", "y:!(w=1|e<2&k>[p+t])?b*u/0;y:9999*9999", "y:[[[[[[1]]]]]]-w", "v;v", "y:[[[[[[[", "d;wa9b9"};
    private static long x = 1;
    private static int calls = 0;
    private static int wrong = 0;

    private static int roll(int k) {
        x = x * 6364136223846793005L + 1442695040888963407L;
        return (int) ((x >>> 33) % k);
    }

    private static int number() {
        return roll(2) == 0 ? roll(14) - 1 : NUMBERS[roll(NUMBERS.length)];
    }

    private static void feed(OneJoy joy, String text) {
        for (int i = 0; i < text.length(); i++) {
            joy.feed(text.charAt(i), 0, 0, 0, 0);
        }
    }

    private static void call(OneJoy joy, Method method) {
        Class<?>[] types = method.getParameterTypes();
        Object[] args = new Object[types.length];
        StringBuilder told = new StringBuilder(method.getName());
        for (int i = 0; i < types.length; i++) {
            args[i] = types[i] == boolean.class ? (Object) (roll(2) == 0)
                : types[i] == long.class ? (Object) ((long) number() * number()) : (Object) number();
            told.append(' ').append(args[i]);
        }
        calls++;
        try {
            method.invoke(joy, args);
        } catch (InvocationTargetException e) {
            boolean due = method.getName().equals("house") && e.getCause() instanceof NoSuchElementException;
            if (!due) {
                wrong++;
                System.out.println(told + " threw " + e.getCause());
            }
        } catch (IllegalAccessException e) {
            wrong++;
            System.out.println(told + " is not to be called");
        }
    }

    public static void main(String[] args) {
        List<Method> face = new ArrayList<>();
        for (Method method : OneJoy.class.getDeclaredMethods()) {
            if (Modifier.isPublic(method.getModifiers())) {
                face.add(method);
            }
        }
        face.sort(Comparator.comparing(Method::getName));
        if (face.size() != 42) {
            wrong++;
            System.out.println("the face has " + face.size() + " methods, due are 42");
        }
        for (int run = 0; run < 400 && wrong == 0; run++) {
            OneJoy joy = new OneJoy();
            for (int i = 0; i < 512; i++) {
                if (roll(12) == 0) {
                    joy.end(0);
                    feed(joy, TEXTS[roll(TEXTS.length)]);
                    joy.text(roll(2));
                }
                call(joy, face.get(roll(face.size())));
            }
        }
        System.out.println(calls + " strange calls, " + wrong + " wrong");
        if (wrong != 0) {
            System.exit(1);
        }
    }
}
