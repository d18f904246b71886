import java.lang.reflect.InvocationTargetException;
import java.lang.reflect.Method;
import java.lang.reflect.Modifier;
import java.nio.charset.StandardCharsets;
import java.util.ArrayList;
import java.util.Arrays;
import java.util.Comparator;
import java.util.List;
import java.util.NoSuchElementException;
import java.util.Random;

/** Any calls in any order, with any arguments: nothing but what the document says is ever thrown. */
public final class AnyCallTests extends Check {
    private static final String[] PIECES = {
        "turn 8;", "turn 48;", "rub 9;", "weight a 0 2 arm 3 out 5 from 4 to 6;", "float b 1 9 from 6 to 2;", "fed c 7 99;",
        "magnet d 3 7 at 1 shut 2 to 5;", "spring e 2 1 from 1 to 1;", "each ", "some ", "all ", "not ", "(", ")", "1=1", " or ",
        " and ", "right>left", "in 0 hears turn goes 9;", "in 3 hears fed goes 4;", "\0\1", "\2\3\4\5\6\7", "abcdefgh", "1234", "?"};
    private static final int[] EDGES = {
        Integer.MIN_VALUE, Integer.MAX_VALUE, -2, -1, 0, 1, 7, 8, 23, 24, 31, 32, 47, 48, 199, 200, 640, 9999, 100000, 100001};

    private static int anyNumber(Random r) {
        return r.nextInt(3) == 0 ? EDGES[r.nextInt(EDGES.length)] : r.nextInt(r.nextBoolean() ? 6 : 32);
    }

    private static void putAnything(Random r, ForeverOffice x) {
        StringBuilder text = new StringBuilder();
        for (int i = r.nextInt(12); i >= 0; i--) {
            text.append(PIECES[r.nextInt(PIECES.length)]);
        }
        byte[] bytes = text.toString().getBytes(StandardCharsets.ISO_8859_1);
        int before = x.count(4);
        feed(x, bytes);
        x.end(before + bytes.length);
    }

    public static void main(String[] args) throws IllegalAccessException {
        Random r = new Random(7L);
        List<Method> face = new ArrayList<>();
        for (Method method : ForeverOffice.class.getDeclaredMethods()) {
            if (Modifier.isPublic(method.getModifiers())) {
                face.add(method);
            }
        }
        face.sort(Comparator.comparing(Method::getName));
        for (int round = 0; round < 400; round++) {
            ForeverOffice x = new ForeverOffice();
            for (int i = 0; i < 300; i++) {
                if (r.nextInt(4) == 0) {
                    putAnything(r, x);
                }
                Method method = face.get(r.nextInt(face.size()));
                Object[] arguments = new Object[method.getParameterCount()];
                for (int j = 0; j < arguments.length; j++) {
                    arguments[j] = anyNumber(r);
                }
                try {
                    method.invoke(x, arguments);
                } catch (InvocationTargetException e) {
                    boolean told = method.getExceptionTypes().length == 1 && e.getCause().getClass() == NoSuchElementException.class;
                    due(method.getName() + Arrays.toString(arguments) + " throws " + e.getCause() + " as told", told, true);
                }
            }
        }
        tell("AnyCallTests");
    }
}
