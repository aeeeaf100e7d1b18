import java.io.IOException;
import java.io.InputStream;
import java.util.ArrayList;
import java.util.Arrays;
import java.util.HashSet;
import java.util.LinkedHashMap;
import java.util.LinkedHashSet;
import java.util.List;
import java.util.Map;
import java.util.Set;

/** What LANGUAGE.md asks and only the compiled class shows for sure: who calls whom, how deep, and who makes objects. */
public final class BytecodeTest {
    private static final Check CHECK = new Check();
    private static final int DEEPEST = 8;
    private static final Set<String> LIBRARY = new HashSet<>(Arrays.asList("java/lang/Object.<init>",
            "java/lang/String.length", "java/lang/String.charAt", "java/lang/Math.max", "java/lang/Math.min",
            "java/lang/Math.floorMod", "java/lang/Integer.bitCount", "java/lang/System.arraycopy", "java/util/Arrays.fill"));
    private static final Map<String, Set<String>> CALLS = new LinkedHashMap<>();

    public static void main(String[] args) throws IOException {
        List<Class<?>> all = new ArrayList<>(Arrays.asList(WishBridges.class.getDeclaredClasses()));
        all.add(WishBridges.class);
        for (Class<?> c : all) {
            String file = c.getName() + ".class";
            try (InputStream in = BytecodeTest.class.getResourceAsStream("/" + file)) {
                for (ClassFile.Body body : new ClassFile(in).bodies) {
                    look(body);
                }
            }
        }
        CHECK.due("methods found: " + CALLS.size(), CALLS.size() > 200, true);
        depths();
        CHECK.end("BytecodeTest");
    }

    private static void look(ClassFile.Body body) {
        boolean constructor = body.name.endsWith(".<init>");
        CHECK.due(body.name + " throws", body.throwing, 0);
        CHECK.due(body.name + " catches", body.catching, 0);
        CHECK.due(body.name + " makes lambdas or joins texts", body.dynamic, 0);
        CHECK.due(body.name + " makes objects", !constructor && body.making > 0, false);
        Set<String> own = CALLS.computeIfAbsent(body.name, k -> new LinkedHashSet<>());
        for (String call : body.calls) {
            if (call.startsWith("WishBridges")) {
                own.add(call);
            } else {
                CHECK.due(body.name + " calls " + call, LIBRARY.contains(call), true);
            }
        }
    }

    private static void depths() {
        for (String name : CALLS.keySet()) {
            List<String> chain = deepest(name, new ArrayList<>());
            CHECK.due(chain.size() + " deep: " + chain, chain.size() <= DEEPEST, true);
        }
    }

    /** The longest chain of calls from here on. */
    private static List<String> deepest(String name, List<String> above) {
        if (above.contains(name)) {
            CHECK.due("calls itself: " + above + " " + name, 1, 0);
            return new ArrayList<>();
        }
        CHECK.due(name + " is known", CALLS.containsKey(name), true);
        List<String> here = new ArrayList<>(above);
        here.add(name);
        List<String> longest = new ArrayList<>();
        for (String call : CALLS.getOrDefault(name, new HashSet<>())) {
            List<String> chain = deepest(call, here);
            longest = chain.size() > longest.size() ? chain : longest;
        }
        longest.add(0, name);
        return longest;
    }
}
