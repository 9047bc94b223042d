import java.lang.reflect.Constructor;
import java.lang.reflect.Field;
import java.lang.reflect.Method;
import java.lang.reflect.Modifier;
import java.nio.file.Files;
import java.nio.file.Path;
import java.util.ArrayList;
import java.util.Arrays;
import java.util.HashSet;
import java.util.List;
import java.util.Set;
import java.util.regex.Matcher;
import java.util.regex.Pattern;

/** What of LANGUAGE.md can be seen from outside or from the source's own lines. */
public final class LanguageTests {
    private static final Checks C = new Checks();
    private static final String[] FACE = {
        "int feed(int,int,int,int,int)", "int text(int)", "int fault(int)", "int named(int,int)", "int lamp(int,int)",
        "int pull(int,int)", "int evening(int)", "long law(int,int)", "int ring(int)", "int tie(int,int)",
        "boolean mend()", "int go(int)", "int ahead(int,int)", "int dark(int)", "int ways(int)", "int fewest(int)",
        "int cheapest(int,int)", "int must(int,int)", "int rank()", "int basis()", "int sumOf(int)", "int silent(int)",
        "int darkest(int)", "int twins(int)", "int fixed()", "int knot(int)", "int apart(int,int)", "int evenings(int)",
        "int game(int)", "long holds(int,int)", "int note(int,int,boolean)", "int strike(int)", "boolean known(int)",
        "int fits()", "int rang(int)", "int ask()", "int chance(int,int,int)", "int tried(int,int,int)", "int undo()",
        "int keep()", "int back()", "int count(int)"};

    public static void main(String[] args) throws Exception {
        face();
        inside();
        source(Files.readString(Path.of(args[0])));
        C.end("LanguageTests");
    }

    private static String signature(Method m) {
        StringBuilder b = new StringBuilder(m.getReturnType().getSimpleName()).append(' ').append(m.getName()).append('(');
        for (int i = 0; i < m.getParameterCount(); i++) {
            b.append(i == 0 ? "" : ",").append(m.getParameterTypes()[i].getSimpleName());
        }
        return b.append(')').toString();
    }

    private static void face() {
        C.due("rule 1: public and final", Modifier.isPublic(BellPulls.class.getModifiers())
                && Modifier.isFinal(BellPulls.class.getModifiers()), true);
        Set<String> due = new HashSet<>(Arrays.asList(FACE));
        Set<String> found = new HashSet<>();
        for (Method m : BellPulls.class.getDeclaredMethods()) {
            if (Modifier.isPublic(m.getModifiers())) {
                found.add(signature(m));
            } else {
                C.due("rule 1: private: " + m, Modifier.isPrivate(m.getModifiers()), true);
            }
        }
        C.due("rule 1: the methods of the face " + found, found.equals(due), true);
        for (Field f : BellPulls.class.getDeclaredFields()) {
            boolean isNone = f.getName().equals("NONE") && Modifier.isPublic(f.getModifiers());
            C.due("rule 1: " + f, isNone || Modifier.isPrivate(f.getModifiers()), true);
        }
        Constructor<?>[] made = BellPulls.class.getDeclaredConstructors();
        C.due("one constructor", made.length, 1);
        C.due("public", Modifier.isPublic(made[0].getModifiers()), true);
        C.due("NONE", BellPulls.NONE, -1);
    }

    private static void inside() {
        Set<String> names = new HashSet<>();
        for (Method m : BellPulls.class.getMethods()) {
            names.add(m.getName());
        }
        List<Class<?>> all = new ArrayList<>(Arrays.asList(BellPulls.class.getDeclaredClasses()));
        C.due("rule 11: classes", all.size() < 12, true);
        all.add(BellPulls.class);
        for (Class<?> one : all) {
            int fields = 0;
            for (Field f : one.getDeclaredFields()) {
                boolean fixed = Modifier.isStatic(f.getModifiers());
                fields += fixed ? 0 : 1;
                C.due("rule 5: " + f, !fixed || Modifier.isFinal(f.getModifiers()), true);
            }
            C.due("rule 11: fields of " + one, fields <= 20, true);
            for (Method m : one.getDeclaredMethods()) {
                boolean ofFace = one == BellPulls.class && Modifier.isPublic(m.getModifiers());
                C.due("rule 1: the name of " + m, ofFace || !names.contains(m.getName()), true);
                C.due("rule 11: " + m, m.getParameterCount() <= 7, true);
            }
            C.due("rule 2: " + one, one == BellPulls.class || Modifier.isStatic(one.getModifiers()), true);
        }
    }

    private static void source(String source) {
        String bare = source.replaceAll("(?s)/\\*.*?\\*/", "").replaceAll("//[^\n]*", "");
        for (String sign : new String[] {"->", "::", "Exact", "synchronized", "assert", "finally", "catch", "instanceof",
            "getMessage", "System.out", "random", "nanoTime", "package ", "String.valueOf", "hashCode", "\" +", "+ \""}) {
            C.due("no " + sign, bare.contains(sign), false);
        }
        for (int i = 0; i < source.length(); i++) {
            if (source.charAt(i) > 126) {
                C.due("a sign beyond 126 at " + i, 1, 0);
            }
        }
        Matcher imports = Pattern.compile("import ([^;]*);").matcher(bare);
        while (imports.find()) {
            C.due("import " + imports.group(1), imports.group(1).equals("java.util.NoSuchElementException"), true);
        }
        Matcher makes = Pattern.compile("\n([^\n]*)\\bnew (\\w+)").matcher(bare);
        while (makes.find()) {
            boolean once = makes.group(1).matches(" *private .*= *") || makes.group(1).matches(" *final .*= *");
            boolean thrown = makes.group(1).trim().equals("throw");
            C.due("a row made by a call: " + makes.group(), once || thrown, true);
        }
        lengths(bare.split("\n"));
    }

    /** A method begins at a line that ends with ') {' or 'throws .. {', four or eight blanks in. */
    private static void lengths(String[] lines) {
        for (int i = 0; i < lines.length; i++) {
            Matcher head = Pattern.compile("( {4}| {8})(?!if|for|while|switch)\\w.*\\).* \\{").matcher(lines[i]);
            if (!head.matches()) {
                continue;
            }
            int end = i;
            while (end < lines.length - 1 && !lines[end].equals(head.group(1) + "}")) {
                end++;
            }
            C.due("rule 11: lines of " + lines[i].trim(), end - i <= 60, true);
        }
    }
}
