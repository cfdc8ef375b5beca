import java.lang.reflect.Constructor;
import java.lang.reflect.Field;
import java.lang.reflect.Method;
import java.lang.reflect.Modifier;
import java.nio.file.Files;
import java.nio.file.Path;
import java.util.ArrayList;
import java.util.Arrays;
import java.util.List;
import java.util.TreeSet;
import java.util.regex.Matcher;
import java.util.regex.Pattern;

/** The face that the document lists, and those rules of LANGUAGE.md that a look at the source can tell. */
public final class BellYardsRules {
    private static final String[] FACE = {
        "int pass(int)", "int parish(int)", "int moved(int,int)", "int bell(int,int,int,int)", "int read(int)",
        "int tone(int,int,int)", "int about(int,int)", "int become(int,int)", "int was(int,int)", "int type(int)",
        "int wipe()", "int fault()", "int letter(int,int)", "int why(int,int)", "int kept(int,int)",
        "int list(int,int)", "int gained(int,int)", "int find(int,int,int,int)", "int forget()", "int could(int)",
        "int next(int)", "int laying(int)", "int laid(int)", "int tune(int,int)", "int peal(int,int)",
        "int step(int,int)", "int batch(int,int,int,int,int)", "int sets(int,int)", "int held(int,int)",
        "int melts(int,int)", "int shorts(int,int)", "int send(int,int,int)", "int sent(int)",
        "int claim(int,int,int,int)", "int rank(int,int)", "int whose(int,int)", "int lands(int,int)",
        "int sheet(int,int,int)", "int lose(int)", "int put(int,int,int,int)", "int get(int,int,int)",
        "int copy(int,int,int,int,int)", "int write(int,int)", "int count(int)", "long digest()"};
    private static int wrong = 0;

    private static void tell(boolean well, String what) {
        if (!well) {
            wrong++;
            System.out.println(what);
        }
    }

    public static void main(String[] args) throws Exception {
        theFace();
        nestedClasses();
        theSource(Files.readString(Path.of("src/main/java/BellYards.java")));
        System.out.println(wrong == 0 ? "the rules are kept" : wrong + " rules are broken");
        if (wrong != 0) {
            System.exit(1);
        }
    }

    private static void theFace() {
        Class<?> c = BellYards.class;
        tell(Modifier.isPublic(c.getModifiers()) && Modifier.isFinal(c.getModifiers()), "the class: public, final");
        TreeSet<String> seen = new TreeSet<>();
        TreeSet<String> names = new TreeSet<>();
        for (Method m : c.getDeclaredMethods()) {
            if (!Modifier.isPrivate(m.getModifiers())) {
                String types = Arrays.toString(m.getParameterTypes()).replaceAll("[\\[\\] ]", "");
                seen.add(m.getReturnType() + " " + m.getName() + "(" + types + ")");
                names.add(m.getName());
            }
        }
        tell(seen.equals(new TreeSet<>(Arrays.asList(FACE))), "the methods are not the document's: " + seen);
        for (Class<?> each : allClasses()) {
            for (Method m : each.getDeclaredMethods()) {
                tell(each == c && !Modifier.isPrivate(m.getModifiers()) || !names.contains(m.getName()),
                    "a name of the face is used again: " + each + " " + m.getName());
            }
        }
        Constructor<?>[] made = c.getDeclaredConstructors();
        tell(made.length == 1 && Modifier.isPublic(made[0].getModifiers()) && made[0].getParameterCount() == 0,
            "the constructor");
        TreeSet<String> constants = new TreeSet<>();
        for (Field f : c.getDeclaredFields()) {
            if (!Modifier.isPrivate(f.getModifiers())) {
                constants.add(f.getName());
            }
        }
        tell(constants.equals(new TreeSet<>(List.of("NONE", "BAD", "NOT", "FULL"))), "the constants: " + constants);
    }

    private static List<Class<?>> allClasses() {
        List<Class<?>> all = new ArrayList<>(Arrays.asList(BellYards.class.getDeclaredClasses()));
        all.add(BellYards.class);
        return all;
    }

    private static void nestedClasses() {
        tell(allClasses().size() <= 12, "more than twelve classes");
        for (Class<?> each : allClasses()) {
            int fields = 0;
            for (Field f : each.getDeclaredFields()) {
                boolean isStatic = Modifier.isStatic(f.getModifiers());
                fields += isStatic ? 0 : 1;
                tell(!isStatic || Modifier.isFinal(f.getModifiers()), "static and not final: " + f);
            }
            tell(fields <= 20, "more than twenty fields: " + each);
            for (Method m : each.getDeclaredMethods()) {
                tell(m.getParameterCount() <= 7, "more than seven parameters: " + m);
            }
            tell(each == BellYards.class || Modifier.isStatic(each.getModifiers()), "not static: " + each);
        }
    }

    private static void theSource(String source) {
        String code = source.replaceAll("(?s)/\\*.*?\\*/", "").replaceAll("//[^\n]*", "");
        String[] forbidden = {"throw", "throws", "try", "catch", "finally", "synchronized", "assert", "package",
            "double", "float", "new Object", "Random", "Thread", "Override", "hashCode", "toString", "Exception",
            "MAX_VALUE", "MIN_VALUE", "Exact"};
        for (String word : forbidden) {
            tell(!Pattern.compile("\\b" + word + "\\b").matcher(code).find(), "the source has " + word);
        }
        tell(!code.contains("->") && !code.contains("::"), "a lambda or a method reference");
        tell(!code.contains("while (true)") && !code.contains("for (;;)"), "a loop without an end");
        Matcher imports = Pattern.compile("import ([^;]*);").matcher(code);
        while (imports.find()) {
            tell(imports.group(1).equals("java.util.Arrays"), "an import: " + imports.group(1));
        }
        Matcher library = Pattern.compile("\\b(Math|Integer|Long|Arrays|System)\\.(\\w+)").matcher(code);
        List<String> listed = List.of("abs", "min", "max", "floorMod", "bitCount", "numberOfTrailingZeros", "fill",
            "arraycopy");
        while (library.find()) {
            tell(listed.contains(library.group(2)), "of the library: " + library.group());
        }
        for (int i = 0; i < source.length(); i++) {
            tell(source.charAt(i) < 128, "a sign beyond 127 at " + i);
        }
        methodLengths(code);
    }

    private static void methodLengths(String code) {
        int depthOfMethod = -1;
        int begun = 0;
        String[] lines = code.split("\n");
        for (int i = 0; i < lines.length; i++) {
            int indent = lines[i].length() - lines[i].stripLeading().length();
            boolean opens = lines[i].endsWith(") {") && !lines[i].matches("\\s*(if|for|while|switch|\\}).*");
            if (depthOfMethod < 0 && opens && indent > 0) {
                depthOfMethod = indent;
                begun = i;
            } else if (indent == depthOfMethod && lines[i].strip().equals("}")) {
                tell(i - begun <= 60, "more than sixty lines: " + lines[begun].strip());
                depthOfMethod = -1;
            }
        }
    }
}
