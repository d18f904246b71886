import java.io.IOException;
import java.lang.reflect.Constructor;
import java.lang.reflect.Field;
import java.lang.reflect.Method;
import java.lang.reflect.Modifier;
import java.nio.file.Files;
import java.nio.file.Path;
import java.util.ArrayList;
import java.util.Arrays;
import java.util.Collections;
import java.util.HashSet;
import java.util.List;
import java.util.NoSuchElementException;
import java.util.Set;

/** The document's face, and what of LANGUAGE.md can be seen from outside or in the source's words. */
public final class FaceTests extends Check {
    private static final String[] FACE = {
        "int feed 5", "boolean end 1", "int drawing 0", "int fault 0", "int place 2 throws", "int energy 2 throws",
        "int gives 3 throws", "int sum 2 throws", "int run 3", "int ran 1", "int stands 1", "int stand 1", "int claim 0",
        "int holds 0", "int where 0", "int value 2 throws", "int goes 1", "int least 1", "int needs 1", "int hidden 2",
        "int hiddenAt 2", "int looks 0", "int lookSet 0", "boolean keep 1", "int same 1", "int feeding 4",
        "int inventor 0", "int right 1", "int answer 0", "int answerAt 1", "int count 1"};
    private static final String[] RULED_OUT = {
        "catch", "try", "finally", "synchronized", "assert", "->", "::", "var ", "System.out", "instanceof", "Exact("};

    private static void due(String what, boolean so) {
        due(what, so, true);
    }

    private static void checkFace() {
        List<String> face = new ArrayList<>();
        Set<String> names = new HashSet<>();
        for (Method method : ForeverOffice.class.getDeclaredMethods()) {
            if (Modifier.isPublic(method.getModifiers())) {
                boolean throwing = Arrays.equals(method.getExceptionTypes(), new Class<?>[] {NoSuchElementException.class});
                face.add(method.getReturnType() + " " + method.getName() + " " + method.getParameterCount() + (throwing ? " throws" : ""));
                names.add(method.getName());
                for (Class<?> type : method.getParameterTypes()) {
                    due(method.getName() + " takes ints", type == int.class);
                }
            }
        }
        List<String> want = new ArrayList<>(Arrays.asList(FACE));
        Collections.sort(face);
        Collections.sort(want);
        due("the face is " + face, face.equals(want));
        for (Method method : ForeverOffice.class.getDeclaredMethods()) {
            boolean open = Modifier.isPublic(method.getModifiers());
            due(method.getName() + " is public or private", open || Modifier.isPrivate(method.getModifiers()));
            due(method.getName() + " bears a name of its own", open || !names.contains(method.getName()));
        }
        Constructor<?>[] constructors = ForeverOffice.class.getDeclaredConstructors();
        due("one public constructor", constructors.length == 1 && Modifier.isPublic(constructors[0].getModifiers())
            && constructors[0].getParameterCount() == 0);
        due("the class is public and final", Modifier.isPublic(ForeverOffice.class.getModifiers())
            && Modifier.isFinal(ForeverOffice.class.getModifiers()));
        due("NONE", ForeverOffice.NONE == -1);
    }

    private static void checkClass(Class<?> type) {
        int own = 0;
        for (Field field : type.getDeclaredFields()) {
            int modifiers = field.getModifiers();
            boolean fixed = Modifier.isStatic(modifiers);
            own += fixed ? 0 : 1;
            due(field + " is final", !fixed || Modifier.isFinal(modifiers));
            boolean open = type == ForeverOffice.class && !Modifier.isPrivate(modifiers);
            due(field + " is no other open field", !open || field.getName().equals("NONE"));
        }
        due(type + " has few fields", own <= 20);
        for (Method method : type.getDeclaredMethods()) {
            due(method + " takes seven at most", method.getParameterCount() <= 7);
        }
    }

    private static void checkSource() throws IOException {
        String source = Files.readString(Path.of("src/main/java/ForeverOffice.java"));
        String code = source.replaceAll("(?s)/\\*.*?\\*/|//[^\n]*|\"[^\"\n]*\"", "");
        for (String word : RULED_OUT) {
            due("no " + word, !code.matches("(?s).*(?<![a-zA-Z])" + java.util.regex.Pattern.quote(word) + "(?![a-zA-Z]).*"));
        }
        due("one import alone", code.split("\nimport ", -1).length + (code.startsWith("import ") ? 1 : 0) == 2);
        due("signs 1 to 127 alone", source.chars().allMatch(c -> c > 0 && c < 128));
        int begun = 0;
        String[] lines = source.split("\n");
        for (int i = 0; i < lines.length; i++) {
            if (lines[i].matches(" {4}( {4})?[a-zA-Z].*\\) (throws NoSuchElementException )?\\{")) {
                begun = i;
            }
            if (lines[i].matches(" {4}( {4})?\\}")) {
                due("the method at line " + (begun + 1) + " is short", begun == 0 || i - begun < 60);
                begun = 0;
            }
        }
    }

    public static void main(String[] args) throws IOException {
        checkFace();
        checkClass(ForeverOffice.class);
        Class<?>[] inside = ForeverOffice.class.getDeclaredClasses();
        due("twelve classes at most", inside.length < 12);
        for (Class<?> type : inside) {
            due(type + " is static", Modifier.isStatic(type.getModifiers()));
            due(type + " is no open class", !Modifier.isPublic(type.getModifiers()) && !Modifier.isProtected(type.getModifiers()));
            checkClass(type);
        }
        checkSource();
        tell("FaceTests");
    }
}
