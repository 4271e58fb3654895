import java.io.IOException;
import java.lang.reflect.Constructor;
import java.lang.reflect.Field;
import java.lang.reflect.Method;
import java.lang.reflect.Modifier;
import java.nio.file.Files;
import java.nio.file.Path;
import java.util.ArrayList;
import java.util.Arrays;
import java.util.HashSet;
import java.util.List;
import java.util.Set;
import java.util.TreeSet;
import java.util.regex.Matcher;
import java.util.regex.Pattern;

/** The public face is the document's and no more, and the file keeps to those rules of the language that a text can be asked for. */
public final class FaceTest {
    private static final String[] FACE = {
        "int feed(int,int,int,int,int)", "int bench(int)", "int fault()", "int where()", "int about(int)", "int plate(int)",
        "int common(int,int)", "int which(int)", "int apart(int)", "int odd(int)", "int light(int)", "int shutter(int)",
        "int noise(int)", "int lost(int)", "int look(int)", "int logged(int,int)", "int scan()", "int blinds()",
        "int reading(int)", "int net(int)", "long back(int,boolean)", "int odds()", "long more(boolean)",
        "long error(int,boolean)", "long errors(boolean)", "int worst()", "long share(boolean)", "long grains(boolean)",
        "int better()", "int alone(int)", "long alones()", "int closer()", "int suspects()", "int suspect(int)",
        "int supposed(int,int)", "int mask(int)", "int rank()", "int told()", "long solved(int,boolean)",
        "long factor(int,int,boolean)", "long shareBy(int,boolean)", "int fewer()", "int agree()", "int tour()",
        "int tourAt(int)", "int sign(int,int,int)", "int shine(int,int)", "int stick(int,int)", "int lose(int)",
        "boolean undo()", "int stuck(int) throws java.util.NoSuchElementException", "int size(int)", "int trouble()"
    };
    private static int wrong = 0;

    public static void main(String[] args) throws IOException {
        checkFace();
        checkInside();
        checkText();
        System.out.println(wrong == 0 ? "the face is as due" : wrong + " things are not as due");
        if (wrong != 0) {
            System.exit(1);
        }
    }

    private static void check(boolean good, String what) {
        if (!good) {
            wrong++;
            System.out.println(what);
        }
    }

    private static String told(Method m) {
        String types = Arrays.stream(m.getParameterTypes()).map(Class::getName).reduce((a, b) -> a + "," + b).orElse("");
        String thrown = Arrays.stream(m.getExceptionTypes()).map(t -> " throws " + t.getName()).reduce("", String::concat);
        return m.getReturnType().getName() + " " + m.getName() + "(" + types + ")" + thrown;
    }

    private static void checkFace() {
        Class<?> c = WeighingPlates.class;
        check(c.getModifiers() == (Modifier.PUBLIC | Modifier.FINAL), "the class isn't public and final");
        Set<String> found = new TreeSet<>();
        Set<String> names = new HashSet<>();
        for (Method m : c.getDeclaredMethods()) {
            if (Modifier.isPublic(m.getModifiers())) {
                check(!Modifier.isStatic(m.getModifiers()), m + " is static");
                found.add(told(m));
                names.add(m.getName());
            }
        }
        check(found.equals(new TreeSet<>(Arrays.asList(FACE))), "the face is " + found);
        for (Method m : c.getDeclaredMethods()) {
            boolean shown = Modifier.isPublic(m.getModifiers());
            check(shown || Modifier.isPrivate(m.getModifiers()), m + " can be seen");
            check(shown || !names.contains(m.getName()), m + " bears a public name");
        }
        for (Field f : c.getDeclaredFields()) {
            boolean none = f.getName().equals("NONE");
            check(none ? f.getModifiers() == (Modifier.PUBLIC | Modifier.STATIC | Modifier.FINAL)
                    : Modifier.isPrivate(f.getModifiers()), f + " is not as due");
        }
        Constructor<?>[] makers = c.getDeclaredConstructors();
        check(makers.length == 1 && Modifier.isPublic(makers[0].getModifiers()) && makers[0].getParameterCount() == 0,
                "the constructor is not as due");
        check(WeighingPlates.NONE == -1, "NONE");
    }

    private static void checkInside() {
        Class<?>[] inside = WeighingPlates.class.getDeclaredClasses();
        check(inside.length <= 12, "too many classes");
        List<Class<?>> all = new ArrayList<>(Arrays.asList(inside));
        all.add(WeighingPlates.class);
        for (Class<?> c : all) {
            int fields = 0;
            for (Field f : c.getDeclaredFields()) {
                boolean fixed = Modifier.isStatic(f.getModifiers());
                check(!fixed || Modifier.isFinal(f.getModifiers()), f + " is state that is static");
                fields += fixed ? 0 : 1;
            }
            check(fields <= 20, c + " has many fields");
            for (Method m : c.getDeclaredMethods()) {
                check(m.getParameterCount() <= 7, m + " takes many parameters");
            }
        }
        for (Class<?> c : inside) {
            int shown = c.getModifiers() & (Modifier.PUBLIC | Modifier.PROTECTED);
            check(Modifier.isStatic(c.getModifiers()) && shown == 0, c + " is not as due");
        }
    }

    private static void checkText() throws IOException {
        String source = System.getProperty("source", "src/main/java/WeighingPlates.java");
        String text = Files.readString(Path.of(source));
        String bare = text.replaceAll("(?s)/\\*.*?\\*/", "").replaceAll("//[^\n]*", "").replaceAll("\"[^\"]*\"", "\"\"");
        String[] words = {"try", "catch", "finally", "synchronized", "assert", "package", "var", "instanceof", "double", "float",
            "equals", "hashCode", "toString", "Object", "System", "Exact", "lambda"};
        for (String word : words) {
            check(!Pattern.compile("\\b" + word + "\\b").matcher(bare).find(), "the word " + word);
        }
        check(!bare.contains("->") && !bare.contains("::"), "a lambda or a method reference");
        check(!Pattern.compile("static\\s*\\{").matcher(bare).find(), "a static block");
        Matcher imports = Pattern.compile("import ([^;]*);").matcher(bare);
        while (imports.find()) {
            check(imports.group(1).equals("java.util.NoSuchElementException"), "import " + imports.group(1));
        }
        for (char sign : text.toCharArray()) {
            check(sign == '\n' || sign >= 32 && sign < 127, "a sign of number " + (int) sign);
        }
        checkLengths(text);
    }

    /** A method starts at a line that ends with a brace and is no statement, and ends at the brace below its first sign. */
    private static void checkLengths(String text) {
        String[] lines = text.split("\n");
        for (int i = 0; i < lines.length; i++) {
            Matcher head = Pattern.compile("^( {4}| {8})[a-z].*\\) (throws \\w+ )?\\{$").matcher(lines[i]);
            if (head.matches() && !lines[i].trim().matches("(if|for|while|switch|else|do)\\b.*")) {
                int end = i;
                while (end < lines.length - 1 && !lines[end].equals(head.group(1) + "}")) {
                    end++;
                }
                check(end - i < 60, "a long method: " + lines[i].trim());
            }
        }
    }
}
