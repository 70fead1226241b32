import java.io.IOException;
import java.lang.reflect.Field;
import java.lang.reflect.Method;
import java.lang.reflect.Modifier;
import java.nio.file.Files;
import java.nio.file.Path;
import java.util.Arrays;
import java.util.TreeSet;
import java.util.regex.Matcher;
import java.util.regex.Pattern;

/** The face of the class is that of the document, and its source keeps to what LANGUAGE.md leaves. */
final class FaceTest {
    private static final String[] METHODS = {
        "int addRoll(int,int)", "int weaken(int,int,int)", "int roll(int,int)",
        "int addPallet(int,int,int,int,int)", "int drop(int)", "int waiting(int,int)", "int set(int,int)",
        "int undo()", "int count(int)", "int type(int)", "int clearText()", "int fault()", "int load()",
        "int step(int,int)", "int write()", "int textAt(int)", "int wrap()", "int ifWrap(int)",
        "int done(int,int)", "int zone(int,int,int)", "int total(int)", "long weight()", "int planned(int)",
        "int riseFor(int)", "int tensionFor(int)", "int supply()"};
    private static final String[] CONSTANTS = {"INVALID_ARGUMENT", "LIMIT_REACHED", "NOT_FOUND", "NOT_POSSIBLE"};
    private static final String FORBIDDEN = "\\b(throw|throws|try|catch|finally|synchronized|assert|import|package"
        + "|native|volatile|protected|Exact|System\\.out|Object|Thread|random|MAX_VALUE|MIN_VALUE)\\b|->|::|\" \\+|\\+ \"";

    private FaceTest() {
    }

    static void run() {
        Checks.promise(1);
        TreeSet<String> methods = new TreeSet<>();
        TreeSet<String> names = new TreeSet<>();
        TreeSet<String> privateNames = new TreeSet<>();
        for (Method method : PalletWrapper.class.getDeclaredMethods()) {
            if (Modifier.isPrivate(method.getModifiers())) {
                privateNames.add(method.getName());
            } else {
                names.add(method.getName());
                String arguments = Arrays.toString(method.getParameterTypes()).replaceAll("[\\[\\] ]", "");
                methods.add(method.getReturnType() + " " + method.getName() + "(" + arguments + ")");
            }
        }
        Checks.due("the methods of the class", methods.toString(), new TreeSet<>(Arrays.asList(METHODS)).toString());
        privateNames.retainAll(names);
        Checks.due("private methods with a public one's name", privateNames.toString(), "[]");
        TreeSet<String> constants = new TreeSet<>();
        for (Field field : PalletWrapper.class.getDeclaredFields()) {
            if (!Modifier.isPrivate(field.getModifiers())) {
                constants.add(field.getName());
            }
        }
        Checks.due("the constants", constants.toString(), Arrays.toString(CONSTANTS));
        Checks.due("the constructors", PalletWrapper.class.getDeclaredConstructors().length, 1);
        Checks.due("the class is final", Modifier.isFinal(PalletWrapper.class.getModifiers()) ? 1 : 0, 1);
        source();
    }

    private static void source() {
        String source;
        try {
            source = Files.readString(Path.of("src/main/java/PalletWrapper.java"));
        } catch (IOException unread) {
            Checks.due("the source is read", unread.toString(), "");
            return;
        }
        String code = source.replaceAll("(?s)/\\*.*?\\*/", "").replaceAll("//[^\n]*", "");
        TreeSet<String> found = new TreeSet<>();
        Matcher matcher = Pattern.compile(FORBIDDEN).matcher(code);
        while (matcher.find()) {
            found.add(matcher.group());
        }
        Checks.due("what the source must not have", found.toString(), "[]");
    }
}
