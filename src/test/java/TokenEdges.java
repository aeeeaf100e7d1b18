import java.util.Arrays;
import java.util.HashSet;
import java.util.Set;

/** SYNTAX: with which TOKENS a text goes on behind what was read, and that it does with no other one. */
final class TokenEdges {
    private static final String TELLS = "bank path bridge man wishes toll goes gain fancy dawn pilgrims hire seed";
    private static final String VARS = "hour last times purse home who here waited";
    private static final String UNIT = "5 ( " + VARS;
    private static final String JOINS = "+ - * /";
    private static final String TOKENS = TELLS + " if then else " + VARS + " q 5 ; = + - * / < ( )";
    private static final String TOWN = "bank a;bank b;bridge x a;man m a a 1;";

    private final Sentences s;

    TokenEdges(Sentences s) {
        this.s = s;
    }

    void run() {
        s.part("## Terms", "LAST of a BRIDGE: the BANK");
        s.of("1 SYNTAX: a TOKEN, or what is none, with which no text goes on.");
        tells();
        laws();
        sums();
    }

    /** Behind a beginning of a text it goes on with these TOKENS only. */
    private void goesOn(String head, String with) {
        Set<String> fit = new HashSet<>(Arrays.asList(with.split(" ")));
        String ahead = TOWN + head + " ";
        for (String token : TOKENS.split(" ")) {
            String text = ahead + token;
            if (fit.contains(token)) {
                WishBridges x = new WishBridges();
                boolean syntax = Check.read(x, text) == 1 && x.place() < text.length();
                s.no("SYNTAX ahead of the end of " + text, syntax);
            } else {
                s.text(ahead + "#" + token, 1);
            }
        }
        s.text(ahead + "#.", 1);
        s.text(ahead + "#abcdefghi", 1);
        s.text(ahead + "#12345", 1);
    }

    private void tells() {
        goesOn("", TELLS);
        goesOn("bank p;", TELLS);
        for (String sort : new String[] {"bank", "path", "bridge", "man", "wishes", "toll"}) {
            goesOn(sort, "q");
        }
        goesOn("bank p", ";");
        goesOn("path a", "q");
        goesOn("path a b", "5");
        goesOn("path a b 1", ";");
        goesOn("bridge y", "q");
        goesOn("bridge y a", "q ;");
        goesOn("bridge y a b", ";");
        goesOn("man n", "q");
        goesOn("man n a", "q");
        goesOn("man n a b", "5");
        goesOn("man n a b 1", ";");
        for (String number : new String[] {"dawn", "pilgrims", "hire", "seed"}) {
            goesOn(number, "5");
            goesOn(number + " 1", ";");
        }
    }

    private void laws() {
        for (String law : new String[] {"wishes m", "toll x", "goes", "gain", "fancy"}) {
            goesOn(law, "=");
            goesOn(law + " =", "if " + UNIT);
            goesOn(law + " = if", UNIT);
            goesOn(law + " = if 1", "< " + JOINS);
            goesOn(law + " = if 1 <", UNIT);
            goesOn(law + " = if 1 < 2", "then " + JOINS);
            goesOn(law + " = if 1 < 2 then", UNIT);
            goesOn(law + " = if 1 < 2 then 3", "else " + JOINS);
            goesOn(law + " = if 1 < 2 then 3 else", "if " + UNIT);
            goesOn(law + " = if 1 < 2 then 3 else 4", "; " + JOINS);
            goesOn(law + " = 1", "; " + JOINS);
            goesOn(law + " = 1 ;", TELLS);
        }
    }

    private void sums() {
        for (String sign : JOINS.split(" ")) {
            goesOn("goes = 1 " + sign, UNIT);
            goesOn("goes = 1 " + sign + " 2", "; " + JOINS);
        }
        for (String var : VARS.split(" ")) {
            goesOn("goes = " + var, "; " + JOINS);
        }
        goesOn("goes = (", UNIT);
        goesOn("goes = ( 1", ") " + JOINS);
        goesOn("goes = ( 1 +", UNIT);
        goesOn("goes = ( 1 )", "; " + JOINS);
        goesOn("goes = ( ( 1 )", ") " + JOINS);
        goesOn("goes = ( ( 1 ) )", "; " + JOINS);
        goesOn("goes = if ( 1 )", "< " + JOINS);
        goesOn("goes = if ( 1", ") " + JOINS);
        goesOn("goes = if 1 < ( 2", ") " + JOINS);
        goesOn("goes = if 1 < 2 then ( 3", ") " + JOINS);
        goesOn("goes = if 1 < 2 then 3 else if 4 < 5 then 6 else", "if " + UNIT);
    }
}
