import java.lang.reflect.Constructor;
import java.lang.reflect.Field;
import java.lang.reflect.Method;
import java.lang.reflect.Modifier;
import java.nio.file.Files;
import java.nio.file.Path;
import java.util.Arrays;
import java.util.TreeSet;

/** The public face, to the letter, and those rules of the language that can be seen in the text. */
public final class FaceTest {
    private static final String FACE =
            "int feed(int,int,int,int,int);int end(int);int bells(int);int method(int);int notation(int);"
            + "int cut(int,int);int called(int,int,int,int);int part(int,int);int lead(int,int,int,int);"
            + "int judge(int);long leadHead(int,int);int course(int);int falseness(int,long);int trace(int,int);"
            + "long change(long,int);int number(long);long ofNumber(int);long product(long,long);"
            + "long inverse(long);int order(long);int touch(int,int);int clear();int ring();int on(int);"
            + "long at(int);int round();int falseAt();int proof();int proofAt(int);int forge(int,int);"
            + "boolean check();int ringer(int,boolean);long heard(int);boolean fits(long,long);int music(long);"
            + "int allow(int,int);int search(int,int,long,int);int goOn(int);int found(int);int count(int)";

    private static final String[] FORBIDDEN = {
        "throw", "try", "catch", "finally", "synchronized", "assert", "protected", "volatile", "->", "::", "Exact",
        "System.out", "Random", "currentTime", "nanoTime", "Thread", "hashCode", "toString", "Override", "@"
    };

    public static void main(String[] args) throws Exception {
        Due due = new Due("FaceTest");
        Class<?> face = RingingChamber.class;
        due.is("public and final", face.getModifiers(), Modifier.PUBLIC | Modifier.FINAL);
        TreeSet<String> told = new TreeSet<>(Arrays.asList(FACE.split(";")));
        TreeSet<String> there = new TreeSet<>();
        TreeSet<String> names = new TreeSet<>();
        for (Method method : face.getDeclaredMethods()) {
            if (Modifier.isPublic(method.getModifiers())) {
                there.add(sign(method));
                names.add(method.getName());
            }
        }
        due.is("the methods " + there, there.equals(told), true);
        mustHideTheRest(due, face, names);
        mustKeepToTheLanguage(due);
        due.close();
    }

    private static String sign(Method method) {
        StringBuilder sign = new StringBuilder(method.getReturnType().getName());
        sign.append(' ').append(method.getName()).append('(');
        for (Class<?> type : method.getParameterTypes()) {
            sign.append(sign.charAt(sign.length() - 1) == '(' ? "" : ",").append(type.getName());
        }
        return sign.append(')').toString();
    }

    private static void mustHideTheRest(Due due, Class<?> face, TreeSet<String> names) {
        for (Constructor<?> constructor : face.getDeclaredConstructors()) {
            due.is("constructor", Modifier.isPublic(constructor.getModifiers()), true);
            due.is("its parameters", constructor.getParameterCount(), 0);
        }
        for (Method method : face.getDeclaredMethods()) {
            if (!Modifier.isPublic(method.getModifiers())) {
                due.is(method + " private", Modifier.isPrivate(method.getModifiers()), true);
                due.is(method + " bears a public name", names.contains(method.getName()), false);
            }
        }
        for (Field field : face.getDeclaredFields()) {
            due.is(field + " private", Modifier.isPrivate(field.getModifiers()), true);
        }
        due.is("some twelve classes inside", face.getDeclaredClasses().length <= 12, true);
        for (Class<?> inside : face.getDeclaredClasses()) {
            mustBeFit(due, inside, names);
        }
    }

    private static void mustBeFit(Due due, Class<?> inside, TreeSet<String> names) {
        due.is(inside + " static", Modifier.isStatic(inside.getModifiers()), true);
        due.is(inside + " public", Modifier.isPublic(inside.getModifiers()), false);
        int fields = 0;
        for (Field field : inside.getDeclaredFields()) {
            boolean isStatic = Modifier.isStatic(field.getModifiers());
            fields += isStatic ? 0 : 1;
            due.is(field + " static but not final", isStatic && !Modifier.isFinal(field.getModifiers()), false);
        }
        due.is(inside + " fields", fields <= 20, true);
        for (Method method : inside.getDeclaredMethods()) {
            due.is(method + " bears a public name", names.contains(method.getName()), false);
            due.is(method + " parameters", method.getParameterCount() <= 7, true);
        }
    }

    private static void mustKeepToTheLanguage(Due due) throws Exception {
        String text = Files.readString(Path.of("src/main/java/RingingChamber.java"));
        String code = text.replaceAll("(?s)/\\*.*?\\*/", "").replaceAll("//[^\n]*", "");
        for (String word : FORBIDDEN) {
            boolean isWord = Character.isLetter(word.charAt(0));
            boolean there = isWord
                    ? code.matches("(?s).*\\b" + word.replace(".", "\\.") + "\\b.*")
                    : code.contains(word);
            due.is("'" + word + "' in the text", there, false);
        }
        due.is("the imports", code.replaceAll("(?s)public final class.*", "").trim().equals("import java.util.Arrays;"), true);
    }
}
