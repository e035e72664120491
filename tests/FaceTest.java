import java.lang.reflect.Constructor;
import java.lang.reflect.Field;
import java.lang.reflect.Method;
import java.lang.reflect.Modifier;
import java.nio.file.Files;
import java.nio.file.Path;
import java.util.ArrayList;
import java.util.Arrays;
import java.util.List;
import java.util.Set;
import java.util.TreeSet;
import java.util.regex.Matcher;
import java.util.regex.Pattern;

/** The public face is the document's, and the program keeps to what LANGUAGE.md can be held to by reading. */
public final class FaceTest {
    private static final String FACE = """
            int feed(int,int,int,int,int)
            int world(int) IllegalArgumentException
            int fault(int)
            long line(int) NoSuchElementException
            long through(int) NoSuchElementException
            int joined(int,int) NoSuchElementException
            long near(int) NoSuchElementException
            long across(long) IllegalArgumentException
            long spanned(long) IllegalArgumentException
            long hyper(int,int) NoSuchElementException
            boolean regular(int,int) NoSuchElementException
            int own(int,boolean) IllegalArgumentException
            int law()
            int order(boolean)
            int meets(long,int) NoSuchElementException IllegalArgumentException
            int even(long) IllegalArgumentException
            int evens(int)
            int tight(long) IllegalArgumentException
            long ovoid()
            int ovoids()
            long spread()
            int spreads()
            long cap()
            int triads(int)
            int walks(int) IllegalArgumentException
            int far(int,int) NoSuchElementException
            int widest()
            int ring()
            int parts()
            int rank(int) IllegalArgumentException
            int code(int) IllegalArgumentException
            long turnings()
            long orbit(int) NoSuchElementException
            int like(int) NoSuchElementException IllegalStateException
            int add(long) IllegalArgumentException
            long drop(int) NoSuchElementException
            int dual()
            int left(int) NoSuchElementException
            boolean undo()
            boolean again()
            int perform(int) NoSuchElementException IllegalStateException
            void tray(int,int,int) NoSuchElementException IllegalArgumentException
            long write(int,int,long) NoSuchElementException IllegalStateException IndexOutOfBoundsException
            int pour(int) NoSuchElementException IllegalStateException
            void image(int) NoSuchElementException
            void restore(int) NoSuchElementException IllegalStateException
            int count(int)
            """;

    public static void main(String[] args) throws Exception {
        face();
        hidden();
        words();
        Check.end("FaceTest");
    }

    private static void face() {
        Set<String> want = new TreeSet<>(Arrays.asList(FACE.strip().split("\n")));
        Set<String> got = new TreeSet<>();
        for (Method m : NoThrees.class.getDeclaredMethods()) {
            if (!Modifier.isPrivate(m.getModifiers())) {
                StringBuilder told = new StringBuilder(m.getReturnType().getName() + " " + m.getName() + "(");
                List<String> kinds = new ArrayList<>();
                for (Class<?> c : m.getParameterTypes()) {
                    kinds.add(c.getName());
                }
                told.append(String.join(",", kinds)).append(')');
                for (Class<?> c : m.getExceptionTypes()) {
                    told.append(' ').append(c.getSimpleName());
                }
                got.add(told.toString());
                Check.due(m + " is public", true, Modifier.isPublic(m.getModifiers()) && !Modifier.isStatic(m.getModifiers()));
            }
        }
        for (String call : want) {
            Check.due(call + " is there", true, got.contains(call));
        }
        for (String call : got) {
            Check.due(call + " is told", true, want.contains(call));
        }
        int mods = NoThrees.class.getModifiers();
        Check.due("public and final", true, Modifier.isPublic(mods) && Modifier.isFinal(mods));
        Constructor<?>[] made = NoThrees.class.getDeclaredConstructors();
        Check.due("one constructor", 1, made.length);
        Check.due("of no parameters", 0, made[0].getParameterCount());
        Check.due("public", true, Modifier.isPublic(made[0].getModifiers()));
    }

    private static void hidden() throws Exception {
        Set<String> names = new TreeSet<>();
        for (String call : FACE.strip().split("\n")) {
            names.add(call.substring(call.indexOf(' ') + 1, call.indexOf('(')));
        }
        for (String name : new String[] {"NONE", "SPENT"}) {
            Field f = NoThrees.class.getField(name);
            int want = Modifier.PUBLIC | Modifier.STATIC | Modifier.FINAL;
            Check.due(name + " is public, static and final", want, f.getModifiers());
            Check.due(name + " is an int", true, f.getType() == int.class);
            Check.due(name, name.equals("NONE") ? -1 : -2, f.getInt(null));
        }
        for (Field f : NoThrees.class.getDeclaredFields()) {
            boolean constant = f.getName().equals("NONE") || f.getName().equals("SPENT");
            Check.due(f + " is hidden", !constant, Modifier.isPrivate(f.getModifiers()));
        }
        Class<?>[] inside = NoThrees.class.getDeclaredClasses();
        Check.due("some twelve classes: " + (inside.length + 1), true, inside.length < 14);
        hidden(NoThrees.class, names);
        for (Class<?> c : inside) {
            boolean isOpen = Modifier.isPublic(c.getModifiers()) || Modifier.isProtected(c.getModifiers());
            Check.due(c + " is static", true, Modifier.isStatic(c.getModifiers()) && !isOpen);
            hidden(c, names);
        }
    }

    private static void hidden(Class<?> c, Set<String> names) {
        int fields = 0;
        for (Field f : c.getDeclaredFields()) {
            Check.due(f + " static is final", true, !Modifier.isStatic(f.getModifiers()) || Modifier.isFinal(f.getModifiers()));
            fields += Modifier.isStatic(f.getModifiers()) ? 0 : 1;
        }
        Check.due(c + " has some twenty fields: " + fields, true, fields <= 24);
        for (Method m : c.getDeclaredMethods()) {
            Check.due(m + " bears no public name", false, Modifier.isPrivate(m.getModifiers()) && names.contains(m.getName()));
            Check.due(m + " has seven parameters at most", true, m.getParameterCount() <= 7);
            boolean isObjects = List.of("equals", "hashCode", "toString").contains(m.getName());
            Check.due(m + " is not told", false, isObjects && !c.isRecord());
        }
    }

    private static void words() throws Exception {
        String text = Files.readString(Path.of("src/main/java/NoThrees.java"));
        for (int i = 0; i < text.length(); i++) {
            Check.due("sign " + i, true, text.charAt(i) < 128);
        }
        String bare = text.replaceAll("(?s)/\\*.*?\\*/", "").replaceAll("//[^\n]*", "").replaceAll("\"[^\"\n]*\"", "\"\"");
        for (String word : new String[] {"\\bfinally\\b", "\\bsynchronized\\b", "\\bassert\\b", "\\bpackage\\b", "::", "\\) *->",
            "(?<!case )(?<!default )\\b[a-z]\\w* *->", "\\bRandom\\b", "\\bThread\\b", "System\\.(?!arraycopy)", "Exact\\(", "static *\\{",
            "\\bextends +\\w*(Exception|Error)\\b", "try *\\(", "getMessage", "\\bnative\\b", "\\bvolatile\\b", "\\bprotected\\b",
            "catch *\\([^)]*\\b(ArrayIndexOutOfBounds|NullPointer|ClassCast|NegativeArraySize|ArrayStore|Throwable|Error)"}) {
            Matcher m = Pattern.compile(word).matcher(bare);
            boolean found = m.find();
            Check.due("without " + word + (found ? ": " + m.group() : ""), false, found);
        }
        libraries(bare);
        lengths(text);
    }

    private static void libraries(String bare) {
        Set<String> may = Set.of("java.util.Arrays", "java.util.ArrayList", "java.util.List", "java.util.Iterator",
                "java.util.NoSuchElementException");
        Matcher imports = Pattern.compile("import ([^;]*);").matcher(bare);
        while (imports.find()) {
            Check.due(imports.group(1) + " may be imported", true, may.contains(imports.group(1)));
        }
        Matcher arrays = Pattern.compile("\\bArrays\\.(\\w+)").matcher(bare.replace("java.util.Arrays", ""));
        while (arrays.find()) {
            Check.due(arrays.group() + " may be used", true, Set.of("copyOf", "copyOfRange", "fill").contains(arrays.group(1)));
        }
    }

    private static void lengths(String text) {
        int length = 0;
        for (String line : text.split("\n")) {
            boolean begins = line.matches("( {4}| {8})[a-zA-Z].*\\(.*\\{") && !line.contains(" class ");
            length = begins ? 1 : length + 1;
            if (line.equals("    }") || line.equals("        }")) {
                Check.due("a method ends after " + length + " lines: " + line, true, length <= 66 || length > 200);
            }
        }
    }
}
