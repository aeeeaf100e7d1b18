import java.io.IOException;
import java.lang.reflect.Constructor;
import java.lang.reflect.Field;
import java.lang.reflect.Method;
import java.lang.reflect.Modifier;
import java.nio.charset.StandardCharsets;
import java.nio.file.Files;
import java.nio.file.Paths;
import java.util.Arrays;
import java.util.HashSet;
import java.util.Set;
import java.util.TreeSet;
import java.util.regex.Matcher;
import java.util.regex.Pattern;

/** The face of the document, and what can be seen of LANGUAGE.md in the source and by reflection. */
public final class LanguageTest {
    private static final Check CHECK = new Check();
    private static final String FACE = "feed(int,int,int,int,int)int back(int)int read()int place()int bank(int)int "
            + "bridge(int,int)int man(int,int)int wish(int,int)int toll(int,int)int cross(int,int)int pair(int,int,int)int "
            + "hire(int,int)boolean walk(int,int)int hours(int)int rule(int)int undo()boolean homes()int where(int,int)int "
            + "last(int,int)int coins(int)int homeBy(int)int allHome()int odds(int,int,int)int waiting(int,int)int "
            + "follow(int,int)int way(int,int,int)int reach(int,int)int orders(int,int)int orderAt(int,int,int)int "
            + "wishers(int,int)int wisherAt(int,int,int)int rings(int,int,int)int gain(int,int,int,int)int "
            + "worth(int,int,int)int rests(int,int,int)int best(int,int,boolean)int prices(int,int,int,int)int "
            + "see(int,int)int say(int,int)boolean forget()int fits(int)int sure(int,int)int trust(int)int "
            + "hold(int)boolean restore(int)boolean count(int)int";

    public static void main(String[] args) throws IOException {
        face();
        inside();
        source(args.length > 0 ? args[0] : "src/main/java/WishBridges.java");
        CHECK.end("LanguageTest");
    }

    private static void face() {
        Class<?> c = WishBridges.class;
        CHECK.due("final", Modifier.isFinal(c.getModifiers()), true);
        Set<String> want = new TreeSet<>(Arrays.asList(FACE.split(" ")));
        Set<String> got = new TreeSet<>();
        for (Method m : c.getDeclaredMethods()) {
            if (!Modifier.isPrivate(m.getModifiers())) {
                StringBuilder s = new StringBuilder(m.getName()).append('(');
                for (Class<?> p : m.getParameterTypes()) {
                    s.append(s.charAt(s.length() - 1) == '(' ? "" : ",").append(p.getName());
                }
                got.add(s.append(')').append(m.getReturnType().getName()).toString());
            }
        }
        CHECK.due("the face " + got, got.equals(want), true);
        for (Field f : c.getDeclaredFields()) {
            CHECK.due("field " + f.getName(), !Modifier.isPrivate(f.getModifiers()), f.getName().equals("NONE"));
        }
        CHECK.due("constructors", c.getDeclaredConstructors().length, 1);
        Constructor<?> made = c.getDeclaredConstructors()[0];
        CHECK.due("its parameters", made.getParameterCount(), 0);
        CHECK.due("it is public", Modifier.isPublic(made.getModifiers()), true);
        CHECK.due("NONE", WishBridges.NONE, -1);
    }

    private static void inside() {
        Set<String> names = new HashSet<>();
        for (String s : FACE.split(" ")) {
            names.add(s.substring(0, s.indexOf('(')));
        }
        Class<?>[] all = WishBridges.class.getDeclaredClasses();
        CHECK.due("classes", all.length + 1 <= 12, true);
        for (Class<?> c : all) {
            CHECK.due(c + " static", Modifier.isStatic(c.getModifiers()), true);
            int fields = 0;
            for (Field f : c.getDeclaredFields()) {
                boolean fixed = Modifier.isStatic(f.getModifiers());
                CHECK.due(f + " final", !fixed || Modifier.isFinal(f.getModifiers()), true);
                fields += fixed ? 0 : 1;
            }
            CHECK.due(c + " fields " + fields, fields <= 20, true);
            for (Method m : c.getDeclaredMethods()) {
                CHECK.due(m + " has a name of its own", names.contains(m.getName()), false);
                CHECK.due(m + " parameters", m.getParameterCount() <= 7, true);
            }
        }
    }

    private static void source(String path) throws IOException {
        String s = new String(Files.readAllBytes(Paths.get(path)), StandardCharsets.ISO_8859_1);
        String code = s.replaceAll("(?s)/\\*.*?\\*/", " ").replaceAll("//[^\n]*", " ").replaceAll("\"[^\"\n]*\"", "\"\"")
                .replaceAll("'(\\\\.|[^'\\\\])'", "0");
        String[] banned = {"\\bthrow\\b", "\\btry\\b", "\\bcatch\\b", "\\bassert\\b", "\\bsynchronized\\b", "->", "::",
            "Exact\\b", "\\bpackage\\b", "\"\\s*\\+", "\\+\\s*\"", "\\bSystem\\.(?!arraycopy)", "\\bRandom\\b", "\\bnew Thread",
            "\\bstatic\\s*\\{", "\\.hashCode", "\\.toString", "\\bHashMap\\b", "\\bObject\\b", "\\bfloat\\b", "\\bdouble\\b",
            "\\bwhile\\b"};
        for (String b : banned) {
            Matcher m = Pattern.compile(b).matcher(code);
            CHECK.due("in the source: " + b, m.find(), false);
        }
        for (int i = 0; i < s.length(); i++) {
            if (s.charAt(i) > 127) {
                CHECK.due("sign at " + i, s.charAt(i), 0);
            }
        }
        longMethods(code);
    }

    private static void longMethods(String code) {
        Matcher m = Pattern.compile("(?m)^( {8}| {4})(?! )[\\w\\[\\] ]+\\([^;=]*?\\) \\{$(?s)(.*?)^\\1\\}$").matcher(code);
        int methods = 0;
        while (m.find()) {
            methods++;
            int lines = m.group(2).split("\n").length;
            CHECK.due("lines of " + m.group().split("\n")[0].trim(), lines <= 60, true);
        }
        CHECK.due("methods found: " + methods, methods > 150, true);
    }
}
