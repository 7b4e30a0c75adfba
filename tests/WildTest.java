import java.lang.reflect.InvocationTargetException;
import java.lang.reflect.Method;
import java.lang.reflect.Modifier;
import java.util.ArrayList;
import java.util.Comparator;
import java.util.List;
import java.util.NoSuchElementException;
import java.util.Random;

/** Whatever the arguments, no call throws but day(), which throws what the document names. */
public final class WildTest {
    private static final int[] WILD = {Integer.MIN_VALUE, Integer.MIN_VALUE + 1, -1000, -2, -1, 0, 1, 2, 3, 7, 8, 9, 12,
        13, 14, 28, 29, 30, 31, 32, 59, 60, 61, 99, 100, 255, 256, 999, 1000, 2000, 9998, 9999, 10000, 3652430, 4000000,
        4000001, 0x35343A2B, 0x6B312D39, 0x3F3B3F3B, 1 << 30, Integer.MAX_VALUE - 1, Integer.MAX_VALUE};
    private static final String[] TEXTS = {"7:4+@1.1.1-30:1-@9999.12.1-30:4+", "7:4+@9999.12.31-30:4+", "0:1+",
        "k1-1,y400:99,y1:0,m1=12:99,o7", "k1-9999,m1=2:0,m2=1:5,o12,s99,r99,b99,l99", "s1", "y399:1,y400:1,k9999-9999"};

    public static void main(String[] args) throws IllegalAccessException {
        Due.part("no call throws by itself");
        List<Method> methods = new ArrayList<>();
        for (Method method : DayBoy.class.getDeclaredMethods()) {
            if (Modifier.isPublic(method.getModifiers())) {
                methods.add(method);
            }
        }
        methods.sort(Comparator.comparing(Method::getName));
        Random random = new Random(512);
        for (int run = 0; run < 150; run++) {
            DayBoy x = run == 0 ? new DayBoy() : made(random);
            for (int call = 0; call < 400; call++) {
                callOne(x, methods.get(random.nextInt(methods.size())), random);
            }
        }
        Due.end();
    }

    private static DayBoy made(Random random) {
        DayBoy x = new DayBoy();
        for (int i = random.nextInt(8); i >= 0; i--) {
            String text = TEXTS[random.nextInt(TEXTS.length)];
            Due.take(x, text.charAt(1) == ':' ? 0 : 1, text);
        }
        Due.take(x, 2, "1.1.1;?;9999.12.31;0.0.0;9999.9999.9999;?;1.1.31");
        return x;
    }

    private static void callOne(DayBoy x, Method method, Random random) throws IllegalAccessException {
        Class<?>[] types = method.getParameterTypes();
        Object[] given = new Object[types.length];
        StringBuilder call = new StringBuilder(method.getName());
        boolean tame = random.nextBoolean();
        for (int i = 0; i < given.length; i++) {
            int wild = tame && random.nextInt(6) > 0 ? random.nextInt(13) : WILD[random.nextInt(WILD.length)];
            given[i] = types[i] == long.class ? (Object) (wild * 0x9E3779B97F4A7C15L) : (Object) wild;
            call.append(' ').append(given[i]);
        }
        try {
            method.invoke(x, given);
        } catch (InvocationTargetException thrown) {
            boolean named = method.getName().equals("day") && thrown.getCause().getClass() == NoSuchElementException.class;
            Due.holds(call + " throws " + thrown.getCause(), named);
        }
    }
}
