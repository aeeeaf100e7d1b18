import java.util.ArrayList;
import java.util.List;
import java.util.Random;

/** Makes texts by a seed: sound ones, and ones with something amiss. */
final class TextMaker {
    private static final String[] VARS = {"hour", "last", "times", "purse", "home", "who", "here", "waited"};
    private static final String[] ALL = {"bank", "path", "bridge", "man", "wishes", "toll", "goes", "gain", "fancy",
        "dawn", "pilgrims", "hire", "seed", "if", "then", "else", "hour", "last", "times", "purse", "home", "who",
        "here", "waited", ";", "=", "+", "-", "*", "/", "<", "(", ")", "a", "b", "m", "x", "0", "1", "7", "24", "100",
        "1000", "12345", "longnamed", "longname", "A", ".", "\u0000", "\u00e9", "man m a b 5 ;", "bank q ;", "( ( ("};
    private final Random random;
    private final List<String> tokens = new ArrayList<>();
    private int banks;
    private int bridges;
    private int men;

    TextMaker(Random random) {
        this.random = random;
    }

    private void put(String words) {
        for (String w : words.split(" ")) {
            tokens.add(w);
        }
    }

    private int pick(int n) {
        return random.nextInt(n);
    }

    private String bank() {
        return "a" + (char) ('a' + pick(banks));
    }

    private void unit(int depth) {
        int k = pick(depth > 2 ? 6 : 8);
        if (k < 3) {
            put("" + (pick(3) == 0 ? pick(10000) : pick(8)));
        } else if (k < 6) {
            put(VARS[pick(8)]);
        } else {
            put("(");
            sum(depth + 1);
            put(")");
        }
    }

    private void sum(int depth) {
        unit(depth);
        int more = pick(3);
        for (int i = 0; i < more; i++) {
            put("" + "+-*/".charAt(pick(4)));
            unit(depth);
        }
    }

    private void law() {
        put("=");
        int ifs = pick(3) == 0 ? pick(4) + 1 : pick(2);
        for (int i = 0; i < ifs; i++) {
            put("if");
            sum(1);
            put("<");
            sum(1);
            put("then");
            sum(1);
            put("else");
        }
        sum(1);
        put(";");
    }

    /** The TOKENS of a text without FAULT, if there are not too many. */
    List<String> sound() {
        tokens.clear();
        banks = 1 + pick(6);
        bridges = 0;
        men = 0;
        for (int b = 0; b < banks; b++) {
            put("bank a" + (char) ('a' + b) + " ;");
        }
        int paths = banks > 1 ? pick(6) : 0;
        for (int i = 0; i < paths; i++) {
            int from = pick(banks);
            int to = (from + 1 + pick(banks - 1)) % banks;
            put("path a" + (char) ('a' + from) + " a" + (char) ('a' + to) + " " + (1 + pick(9)) + " ;");
        }
        // Most of them at one BANK, so that there are ROWS.
        String hub = bank();
        int bridgeCount = 1 + pick(4);
        for (; bridges < bridgeCount; bridges++) {
            String foot = pick(2) == 0 ? hub : bank();
            put("bridge x" + (char) ('a' + bridges) + " " + foot + (pick(3) == 0 ? "" : " " + bank()) + " ;");
        }
        int manCount = pick(8);
        for (; men < manCount; men++) {
            String at = pick(3) > 0 ? hub : bank();
            put("man m" + (char) ('a' + men) + " " + at + " " + bank() + " " + pick(pick(2) == 0 ? 1000 : 12) + " ;");
        }
        extras();
        return tokens;
    }

    private void extras() {
        for (int m = 0; m < men; m++) {
            int k = pick(4);
            if (k == 0) {
                put("wishes m" + (char) ('a' + m));
                law();
            } else if (k == 1) {
                put("wishes m" + (char) ('a' + m) + " = " + pick(banks) + " + hour * " + pick(2) + " ;");
            }
        }
        for (int b = 0; b < bridges; b++) {
            if (pick(2) == 0) {
                put("toll x" + (char) ('a' + b));
                law();
            }
        }
        for (String s : new String[] {"goes", "gain", "fancy"}) {
            if (pick(2) == 0) {
                put(s);
                law();
            } else if (s.equals("goes") && pick(2) == 0) {
                put("goes = 1 ;");
            } else if (s.equals("fancy")) {
                put("fancy = 3 - ( last - who - " + pick(4) + " ) * ( last - who ) ;");
            }
        }
        if (pick(3) == 0) {
            put("dawn " + pick(24) + " ;");
        }
        if (pick(3) == 0) {
            put("pilgrims " + pick(101) + " ;");
        }
        if (pick(3) == 0) {
            put("hire " + pick(100) + " ;");
        }
        if (pick(2) == 0) {
            put("seed " + pick(10000) + " ;");
        }
    }

    /** Something left out, put in, changed, doubled, or cut off. */
    List<String> amiss() {
        List<String> list = new ArrayList<>(sound());
        if (pick(2) == 0) {
            return likeForLike(list);
        }
        int changes = 1 + pick(3);
        for (int i = 0; i < changes && !list.isEmpty(); i++) {
            int at = pick(list.size());
            switch (pick(6)) {
                case 0: list.remove(at); break;
                case 1: list.add(at, ALL[pick(ALL.length)]); break;
                case 2: list.set(at, ALL[pick(ALL.length)]); break;
                case 3: list.set(at, list.get(pick(list.size()))); break;
                case 4: list.addAll(list.subList(0, at)); break;
                default: list = new ArrayList<>(list.subList(0, at));
            }
        }
        return list;
    }

    /** NAMES and INTS changed for others: FAULTS 3 to 5. */
    private List<String> likeForLike(List<String> list) {
        for (int i = 0; i < list.size(); i++) {
            char c = list.get(i).charAt(0);
            boolean name = list.get(i).length() == 2 && "amx".indexOf(c) >= 0;
            if (name && pick(40) == 0) {
                list.set(i, "" + "aamx".charAt(pick(4)) + (char) ('a' + pick(6)));
            } else if (Character.isDigit(c) && pick(30) == 0) {
                list.set(i, "" + pick(pick(2) == 0 ? 12 : 1200));
            }
        }
        return list;
    }

    /** With blanks where they must be and where they like. */
    String join(List<String> list) {
        StringBuilder s = new StringBuilder();
        boolean tight = pick(2) == 0;
        for (String t : list) {
            char c = t.charAt(0);
            char before = s.length() == 0 ? ' ' : s.charAt(s.length() - 1);
            boolean must = Character.isLetterOrDigit(c) && Character.isLetterOrDigit(before) && pick(200) > 0;
            if (must || !tight && pick(3) == 0) {
                s.append(" \t\n\r".charAt(pick(4) * (tight ? 0 : 1)));
            }
            s.append(t);
        }
        return s.length() > 2000 ? s.substring(0, 2000) : s.toString();
    }
}
