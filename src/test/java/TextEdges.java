/** The Terms, I: what a text may be, how much of it, and its FAULTS. */
final class TextEdges {
    private static final String[] WORDS = ("bank path bridge man wishes toll goes gain fancy dawn pilgrims hire seed if then "
            + "else hour last times purse home who here waited").split(" ");
    private static final String BLANKS = "\t\n\r ";
    private static final String SIX = "bank a;bank b;bank c;bank d;bank e;bank f;";

    private final Sentences s;

    TextEdges(Sentences s) {
        this.s = s;
    }

    void run() {
        s.part("## Terms", "LAST of a BRIDGE: the BANK");
        bytes();
        blanks();
        names();
        ints();
        signs();
        noTokens();
        tells();
        laws();
        sums();
        sorts();
        lastOnesTold();
        numbers();
        places();
        syntax();
        room();
        twice();
        unknown();
        wrong();
        whatAFaultLeaves();
        whatATextLeaves();
    }

    private static String many(String part, int n) {
        StringBuilder out = new StringBuilder();
        for (int i = 0; i < n; i++) {
            out.append(part);
        }
        return out.toString();
    }

    private void bytes() {
        s.of("A TEXT has 2,000 bytes at most.");
        String full = many(" ", 1993) + "bank a;";
        WishBridges x = Check.told(full);
        s.due("banks of a text of 2,000 bytes", x.count(0), 1);
        s.text(many(" ", 1994) + "bank a#", 1);
        s.text(many(" ", 1999) + "#;", 1);
        Check.feed(x, full);
        s.due("twenty bytes more", x.feed(0x20202020, 0x20202020, 0x20202020, 0x20202020, 0x20202020), -1);
        s.due("read()", x.read(), 0);
        s.due("banks", x.count(0), 1);
    }

    private void blanks() {
        s.of("TOKENS, the longest that can be, with blanks (9, 10, 13, 32) between or not:");
        s.text("#banka;", 1);
        s.text("#bankbank a;", 1);
        s.text("bank ab;", 0);
        s.text("bank a #b;", 1);
        s.text("bank a;bank b;path a b3;", 0);
        s.text("bank a;bank b;path a b 3 #3;", 1);
        s.text("goes=if 1<2then 3else 4;", 0);
        s.text("goes=if 1<2 #thenelse 4;", 1);
        s.text("\t\r\n bank\t\r\n a\t\r\n ;\t\r\n ", 0);
        s.text("bank a;bank b;", 0);
        for (int c = 0; c < 256; c++) {
            String between = "bank" + (char) c + "q;";
            boolean letter = c >= 'a' && c <= 'z';
            WishBridges x = new WishBridges();
            boolean blank = BLANKS.indexOf(c) >= 0;
            s.due("read() with byte " + c + " between", Check.read(x, between), blank ? 0 : 1);
            s.due("place() with byte " + c + " between", x.place(), blank ? -1 : letter ? 0 : 4);
        }
    }

    private void names() {
        s.of("NAMES (letters a .. z, 8 at most, none of the words in quotes)");
        for (int c = 0; c < 256; c++) {
            boolean letter = c >= 'a' && c <= 'z';
            boolean blank = BLANKS.indexOf(c) >= 0;
            WishBridges x = new WishBridges();
            s.due("read() with byte " + c + " as a NAME", Check.read(x, "bank " + (char) c + ";"), letter ? 0 : 1);
            s.due("place() with byte " + c + " as a NAME", x.place(), letter ? -1 : blank ? 6 : 5);
        }
        for (int n = 1; n <= 12; n++) {
            s.text("bank " + (n > 8 ? "#" : "") + many("z", n) + ";", n > 8 ? 1 : 0);
        }
        for (String word : WORDS) {
            s.text("bank #" + word + ";", 1);
            s.text("bank a;man #" + word + " a a 1;", 1);
            s.text("bank a;bridge #" + word + " a;", 1);
            s.text("bank " + (word.length() > 7 ? "#" : "") + word + "x;", word.length() > 7 ? 1 : 0);
            s.text("bank x" + word.substring(1) + ";", 0);
        }
        // Two long NAMES that differ in one letter are two.
        s.text("bank zzzzzzzz;bank zzzzzzzy;bank yzzzzzzz;", 0);
        s.text("bank zzzzzzzz;bank #zzzzzzzz;", 3);
        s.text("bank a;bank aa;", 0);
        s.text("bank b;bank a;bank ba;bank ab;bank aba;bank bab;", 0);
    }

    private void ints() {
        s.of("INTS (1 to 4 digits)");
        s.text("seed 0;", 0);
        s.text("seed 9999;", 0);
        s.text("seed 0000;", 0);
        s.text("seed #00000;", 1);
        s.text("seed #10000;", 1);
        s.text("seed #99999999999999999999;", 1);
        s.text("goes=9999;", 0);
        s.text("goes=1+#12345;", 1);
        s.text("seed 1#:;", 1);
        s.text("seed #/;", 1);
        s.due("0042 is 42", lawValue("0042"), 42);
        s.due("0123456789 digit by digit", lawValue("0123-0100+0045-0040+0006+0007+0008+0009"), 58);
        s.due("9999", lawValue("9999/101"), 99);
        // What went off the tape is of no TOKEN.
        for (String text : new String[] {"seed 12345", "seed 1234;", "bank abcdefghi", "bank abcdefgh;", many(" ", 1990) + "seed 12345"}) {
            WishBridges x = new WishBridges();
            Check.feed(x, text);
            x.back(1);
            s.due("read() of a byte less than " + text.trim(), x.read(), 1);
            s.due("place() by a byte less than " + text.trim(), x.place(), text.length() - 1);
        }
    }

    /** TOLL of a BRIDGE by a LAW. */
    private static int lawValue(String law) {
        return Check.told("bank a;bridge x a;man m a a 0;toll x=" + law + ";").toll(0, 0);
    }

    private void signs() {
        s.of("SIGNS ; = + - * / < ( ) .");
        s.text("goes=if(1+2)*3<9/3-0then(0)else(1);", 0);
        s.due("+", lawValue("7+2"), 9);
        s.due("-", lawValue("7-2"), 5);
        s.due("*", lawValue("7*2"), 14);
        s.due("/", lawValue("7/2"), 3);
        s.due("( )", lawValue("7*(2+3)"), 35);
        s.due("<", lawValue("if 1<2 then 3 else 4"), 3);
    }

    private void noTokens() {
        s.of("A longer one, all else, is no TOKEN.");
        s.text("bank #abcdefghi;", 1);
        s.text("bank a;bank b;path a b #00001;", 1);
        for (char c : ".,:!>[]{}&|%^~_?\"'`@$\\ABZ\u0000\u0001\u0008\u000b\u000c\u001f\u007f\u0080\u00a0\u00ff".toCharArray()) {
            s.text("bank a;#" + c, 1);
            s.text("#" + c + "bank a;", 1);
        }
    }

    /** A sound text: cut off behind each TOKEN but the last one, and with something else for each, it has a FAULT. */
    private void form(String ahead, String tell) {
        s.text(ahead + tell, 0);
        String[] tokens = tell.split(" ");
        String head = ahead;
        for (int i = 0; i < tokens.length; i++) {
            s.text(head + "#. " + tell, 1);
            s.text(head + "#" + (tokens[i].equals("=") ? "; " : "= "), 1);
            head += tokens[i] + " ";
            if (i < tokens.length - 1) {
                s.text(head + "#", 1);
            }
        }
    }

    private void tells() {
        s.of("text: {TELL}.");
        s.text("", 0);
        s.text(" \t\r\n", 0);
        s.text("seed 1;seed 2;", 0);
        s.text("#;", 1);
        s.text("seed 1;#;", 1);
        s.text("#a", 1);
        s.text("#5", 1);
        for (String word : "if then else hour last times purse home who here waited".split(" ")) {
            s.text("#" + word, 1);
        }
        String town = "bank p;bank q;man n p q 1;bridge y p;";
        s.of("TELL: 'bank' NAME ';' |");
        form("", "bank a ;");
        s.text("bank a #1;", 1);
        s.of("'path' NAME NAME INT ';' |");
        form(town, "path p q 5 ;");
        s.text(town + "path p q #q 5;", 1);
        s.text(town + "path p q 5 #5;", 1);
        s.of("'bridge' NAME NAME [NAME] ';' |");
        form(town, "bridge x p ;");
        form(town, "bridge x p q ;");
        s.text(town + "bridge x p q #p;", 1);
        s.text(town + "bridge x #1;", 1);
        s.of("'man' NAME NAME NAME INT ';' |");
        form(town, "man m p q 5 ;");
        s.text(town + "man m p #5;", 1);
        s.text(town + "man m p q #q 5;", 1);
        s.of("'wishes' NAME LAW ';' | 'toll' NAME LAW ';' |");
        form(town, "wishes n = 5 ;");
        form(town, "toll y = 5 ;");
        s.text(town + "wishes n #5;", 1);
        s.text(town + "wishes n #n=5;", 1);
        s.text(town + "toll #5=5;", 1);
        s.of("('goes' | 'gain' | 'fancy') LAW ';' |");
        form("", "goes = 5 ;");
        form("", "gain = 5 ;");
        form("", "fancy = 5 ;");
        s.text(town + "goes #n=5;", 1);
        s.of("'dawn' INT ';' | 'pilgrims' INT ';' | 'hire' INT ';' | 'seed' INT ';'.");
        form("", "dawn 5 ;");
        form("", "pilgrims 5 ;");
        form("", "hire 5 ;");
        form("", "seed 5 ;");
        s.text("dawn 5#+1;", 1);
    }

    private void laws() {
        s.of("LAW: '=' {'if' E '<' E 'then' E 'else'} E.");
        form("", "goes = if 1 < 2 then 3 else 4 ;");
        form("", "goes = if 1 < 2 then 3 else if 4 < 5 then 6 else 7 ;");
        s.text("goes=if 1<2#<3 then 4 else 5;", 1);
        s.text("goes=1#<2;", 1);
        s.text("goes=if 1<2 then #if 1<2 then 3 else 4 else 5;", 1);
        s.text("goes=(#if 1<2 then 3 else 4);", 1);
        s.text("goes=if 1<2 then 3 else 4 #else 5;", 1);
        s.text("goes=#then 1;", 1);
    }

    private void sums() {
        s.of("E: PART {('+' | '-') PART}. PART: UNIT {('*' | '/') UNIT}.");
        form("", "goes = 1 + 2 - 3 * 4 / 5 ;");
        s.text("goes=#-1;", 1);
        s.text("goes=#*1;", 1);
        s.text("goes=1+#-2;", 1);
        s.text("goes=1*#/2;", 1);
        s.text("goes=1 #2;", 1);
        s.due("one behind the other", lawValue("50-20-10"), 20);
        s.due("one behind the other", lawValue("80/4/2"), 10);
        s.due("one behind the other", lawValue("80/4*2"), 40);
        s.due("* ahead of +", lawValue("2+3*4"), 14);
        s.due("/ ahead of -", lawValue("20-12/4"), 17);
        s.due("both sides", lawValue("2*3+4*5"), 26);
        s.of("UNIT: INT | VAR | '(' E ')'.");
        form("", "goes = ( 1 ) ;");
        form("", "goes = ( ( hour ) + 1 ) * 2 ;");
        s.text("goes=(#);", 1);
        s.text("goes=1#);", 1);
        s.text("goes=(1)#);", 1);
        s.text("goes=(1#;", 1);
        s.text("goes=((1)#;", 1);
        s.text("goes=if(1#<2 then 3 else 4;", 1);
        s.text("goes=if 1<(2#then 3 else 4;", 1);
        s.text("goes=if 1<2 then(3#else 4;", 1);
        s.text("goes=(1#(2));", 1);
        s.text("goes=1#(2);", 1);
        s.text("goes=(1)#2;", 1);
        s.due("( ) ahead of all", lawValue("(2+3)*(9-(1+1))"), 35);
        String deep = "1+2*(1+2*(1+2*(1+2*(1+2*(1+2*(1+2*3))))))";
        s.due("as deep as can be", lawValue(deep + "-500"), 11);
        s.due("as deep, in an if", lawValue("if " + deep + "<" + deep + "+1 then " + deep + "-480 else 0"), 31);
        s.of("VAR: 'hour' | 'last' | 'times' | 'purse' | 'home' | 'who' | 'here' | 'waited'.");
        for (int i = 16; i < WORDS.length; i++) {
            s.text("goes=" + WORDS[i] + ";", 0);
            s.text("goes=if " + WORDS[i] + "<1 then(" + WORDS[i] + ")else " + WORDS[i] + "+1;", 0);
        }
        for (int i = 0; i < 16; i++) {
            if (!WORDS[i].equals("if")) {
                s.text("goes=#" + WORDS[i] + ";", 1);
            }
        }
        s.text("goes=#a;", 1);
    }

    private static String paths(int n) {
        return "bank a;bank b;" + many("path a b 1;", n);
    }

    private static String bridges(int n) {
        String out = "bank a;";
        for (int i = 0; i < n; i++) {
            out += "bridge x" + (char) ('a' + i) + " a;";
        }
        return out;
    }

    private static String men(int n) {
        String out = "bank a;";
        for (int i = 0; i < n; i++) {
            out += "man m" + (char) ('a' + i) + " a a 1;";
        }
        return out;
    }

    private void sorts() {
        s.of("BANKS, 6 at most,");
        s.due("six BANKS", Check.told(SIX).count(0), 6);
        s.text(SIX + "#bank g;", 2);
        s.of("PATHS, 10 at most (two BANKS, HOURS 1 .. 9),");
        s.due("ten PATHS", Check.told(paths(10)).count(1), 10);
        s.text(paths(10) + "#path a b 1;", 2);
        s.text("bank a;bank b;path a b 1;path b a 9;", 0);
        s.text("bank a;bank b;path a b #0;", 5);
        s.text("bank a;bank b;path a b #10;", 5);
        s.of("BRIDGES, 4 at most (a NAME, the BANK of its FOOT, the BANK that was wished on it last: none, if not told),");
        s.due("four BRIDGES", Check.told(bridges(4)).count(2), 4);
        s.text(bridges(4) + "#bridge y a;", 2);
        WishBridges x = Check.told("bank a;bank b;bridge x b a;bridge y b;");
        s.due("its FOOT", x.bridge(0, 0), 1);
        s.due("its LAST", x.bridge(0, 1), 0);
        s.due("FOOT of the other one", x.bridge(1, 0), 1);
        s.due("LAST if not told", x.bridge(1, 1), -2);
        s.of("MEN, 7 at most (a NAME, the BANK where he is, his HOME, PURSE 0 .. 999),");
        s.due("seven MEN", Check.told(men(7)).count(3), 7);
        s.text(men(7) + "#man n a a 1;", 2);
        WishBridges y = Check.told("bank a;bank b;man m a b 0;man n b a 999;");
        s.due("where he is", y.man(0, 0), 0);
        s.due("his HOME", y.man(0, 1), 1);
        s.due("PURSE 0", y.man(0, 2), 0);
        s.due("PURSE 999", y.man(1, 2), 999);
        s.text("bank a;man m a a #1000;", 5);
        s.of("numbered each from 0 on as they stand.");
        WishBridges z = Check.told("bank a;man k a a 11;bank b;bridge x b a;man l b a 22;bridge y a;bank c;man m c c 33;");
        for (int m = 0; m < 3; m++) {
            s.due("where MAN " + m + " is", z.man(m, 0), m);
            s.due("PURSE of MAN " + m, z.man(m, 2), 11 * (m + 1));
            s.due("MEN at BANK " + m, z.bank(m), 1 << m);
        }
        s.due("FOOT of BRIDGE 0", z.bridge(0, 0), 1);
        s.due("FOOT of BRIDGE 1", z.bridge(1, 0), 0);
    }

    private void lastOnesTold() {
        s.of("WISHES of a MAN (his HOME), TOLL of a BRIDGE (0), GOES (0), GAIN (20 times home, less waited), FANCY (0):");
        String town = "bank a;bank b;bank c;bridge x a b;man k a b 9;man l a c 9;";
        WishBridges x = Check.told(town);
        s.due("WISH of k", x.wish(0, 0), 1);
        s.due("WISH of l", x.wish(1, 0), 2);
        s.due("TOLL", x.toll(0, 0), 0);
        s.due("who goes without GOES", x.where(1, 300), 0);
        s.due("GAIN of k", x.gain(0, 3, 0, 0), 20);
        s.due("GAIN of l", x.gain(0, 3, 0, 1), -1);
        // k leaves c only if a and b, ahead of it, have a price.
        s.due("FANCY", x.prices(0, 3, 1, -1), 2);
        // What is not told does not go by another LAW.
        WishBridges o = Check.told(town + "wishes k=last+12;");
        s.due("WISH of l", o.wish(1, 0), 2);
        s.due("TOLL", o.toll(0, 0), 0);
        s.due("who goes", o.where(1, 300), 0);
        s.due("GAIN", o.gain(0, 3, 0, 1), -1);
        s.due("FANCY", o.prices(0, 3, 1, -1), 2);
        s.of("LAWS, the last one told.");
        WishBridges y = Check.told(town + "wishes k=0;wishes l=0;wishes k=2;toll x=1;toll x=7;goes=0;goes=1;gain=1;gain=13;"
                + "fancy=0;fancy=last;");
        s.due("WISH of k by his last LAW", y.wish(0, 0), 2);
        s.due("WISH of l by his own", y.wish(1, 0), 0);
        s.due("TOLL", y.toll(0, 0), 7);
        s.due("where k goes first, l goes in the second hour", y.where(1, 2), 2);
        s.due("GAIN", y.gain(0, 3, 0, 1), 13);
        s.due("k leaves c by his FANCY", y.prices(0, 3, 0, -1), 0);
        WishBridges z = Check.told(town + "goes=1;goes=0;");
        s.due("who goes no more", z.where(1, 300), 0);
    }

    private void numbers() {
        s.of("DAWN 0 .. 23 (none), PILGRIMS 0 .. 100 (0), HIRE 0 .. 99 (5), SEED 0 .. 9999 (0): the last one.");
        String town = SIX + "bridge w a;bridge x a;bridge y a;bridge z a;";
        WishBridges x = Check.told(town);
        s.due("DAWN", x.count(12), -2);
        x.hours(200);
        for (int b = 0; b < 4; b++) {
            s.due("LAST without DAWN and PILGRIMS", x.bridge(b, 1), -2);
        }
        x.hire(0, 0);
        s.due("COSTS", x.count(5), 5);
        s.due("DAWN 0", Check.told("dawn 0;").count(12), 0);
        s.due("DAWN 23", Check.told("dawn 23;").count(12), 23);
        s.due("the last DAWN", Check.told("dawn 5;dawn 7;").count(12), 7);
        s.text("dawn #24;", 5);
        s.text("pilgrims 0;", 0);
        s.text("pilgrims 100;", 0);
        s.text("pilgrims #101;", 5);
        s.text("hire 0;", 0);
        s.text("hire 99;", 0);
        s.text("hire #100;", 5);
        s.text("seed 0;", 0);
        s.text("seed 9999;", 0);
        costOf(town + "hire 0;", 0);
        costOf(town + "hire 99;", 99);
        costOf(town + "hire 99;hire 3;", 3);
        // What pilgrims leave in the first hour, reckoned apart.
        lasts(town + "pilgrims 100;", 3, 2, 5, 2);
        lasts(town + "pilgrims 100;seed 0;", 3, 2, 5, 2);
        lasts(town + "pilgrims 100;seed 7;", 1, 0, 5, 5);
        lasts(town + "seed 7;pilgrims 3;seed 9999;pilgrims 100;", 3, 5, 3, 0);
        lasts(town + "pilgrims 100;pilgrims 0;", -2, -2, -2, -2);
    }

    private void costOf(String text, int want) {
        WishBridges x = Check.told(text);
        x.hire(0, 0);
        s.due("COSTS of " + text, x.count(5), want);
    }

    private void lasts(String text, int... want) {
        WishBridges x = Check.told(text);
        x.hours(1);
        for (int b = 0; b < 4; b++) {
            s.due("LAST of " + b + " behind an hour of " + text, x.bridge(b, 1), want[b]);
        }
    }

    private void places() {
        s.of("FAULTS of a text, the first by its place (a byte; the text's end: its length), of one place the least:");
        s.text("bank a#", 1);
        s.text("bank a  \n#", 1);
        s.text("bank #;bank ;", 1);
        s.text("bank #;" + SIX + "bank g;", 1);
        s.text(SIX + "#bank g;bank ;", 2);
        s.text("goes=((((((#((1;", 2);
        s.text("goes=((((((1#;goes=(((((((1)))))));", 1);
        // A 401st TOKEN with which no text goes on.
        s.text(filler(400) + "#;", 1);
        s.text(filler(400) + "#a", 1);
        s.text(filler(399) + "goes#;", 1);
    }

    private void syntax() {
        s.of("1 SYNTAX: a TOKEN, or what is none, with which no text goes on.");
        s.text("bank a;bank b;bank #7;", 1);
        s.text("bank a;bank b;bank #.;", 1);
        s.text("bank a;bank b;bank#", 1);
        s.text("bank a;path#;bank a;", 1);
        // Nothing but the order of the TOKENS is looked at.
        s.text("wishes nobody=#;", 1);
        s.text("path a a 0#", 1);
    }

    /** So many TOKENS without a FAULT. */
    private static String filler(int n) {
        int fours = 0;
        while ((n - 4 * fours) % 3 != 0) {
            fours++;
        }
        return many("goes=1;", fours) + many("seed 1;", (n - 4 * fours) / 3);
    }

    /** Each TOKEN of a TELL as the 401st. */
    private void tooMany(String tell) {
        String[] tokens = tell.split(" ");
        for (int i = 0; i < tokens.length; i++) {
            String text = filler(400 - i);
            for (int k = 0; k < tokens.length; k++) {
                text += (k == i ? " #" : " ") + tokens[k];
            }
            s.text(text, 2);
        }
        s.text(filler(400 - tokens.length) + tell, 0);
    }

    private void room() {
        s.of("2 ROOM: a 401st TOKEN;");
        tooMany("bank a ;");
        tooMany("seed 5 ;");
        tooMany("goes = if ( 1 + 2 ) < hour * 3 then 4 / 5 else 6 - 7 ;");
        // 13 TOKENS ahead, 4 of the TOLL, 383 of its LAW: 50 + 0 * 190 + 1.
        String longest = "bank a;bridge x a;man m a a 0;toll x=50" + many("+1-1", 95) + "+1;";
        s.due("TOLL by a LAW that fills 400 TOKENS", Check.told(longest).toll(0, 0), 51);
        s.text(longest + "#seed 1;", 2);
        s.text(filler(400), 0);
        s.text(filler(400) + "#seed 1;", 2);
        s.text(filler(398) + "path q #q 1;", 2);
        s.text(filler(398) + "bridge q #q;", 2);
        s.text(filler(397) + "bridge q q #q;", 2);
        s.text(filler(396) + "man q q q #1;", 2);
        s.text(filler(399) + "wishes #q=1;", 2);
        s.text(filler(399) + "toll #q=1;", 2);
        s.text(filler(400) + "  ", 0);
        s.of("one more of a sort than told (at its first TOKEN);");
        s.text(SIX + " #bank g;", 2);
        s.text(SIX + "#bank", 2);
        s.text(SIX + "#bank a;", 2);
        s.text(paths(10) + "#path a b 1;", 2);
        s.text(paths(10) + "#path a a 0;", 2);
        s.text(bridges(4) + "#bridge y a a;", 2);
        s.text(men(7) + "#man n a a 1;", 2);
        s.text(men(7) + "#man man;", 2);
        String full = SIX + paths(10).substring(14) + bridges(4).substring(7) + men(7).substring(7);
        s.text(full, 0);
        s.due("the last MAN of a full text", Check.told(full + "wishes mg=3;").wish(6, 3), 3);
        s.due("the last BRIDGE of a full text", Check.told(SIX + men(7).substring(7) + bridges(4).substring(7) + "toll xd=3;")
                .toll(6, 3), 3);
        s.due("the last BANK of a full text", Check.told(full + "wishes mg=5;").wish(6, 0), 5);
        for (String one : new String[] {"bank q;", "path a b 1;", "bridge q a;", "man q a a 1;"}) {
            s.text(full + "#" + one, 2);
        }
        s.of("a 5th if of a LAW (at it);");
        String four = many("if 1<2 then 3 else ", 4);
        s.text("goes=" + four + "5;", 0);
        s.text("goes=" + four + "#if 1<2 then 3 else 5;", 2);
        s.text("goes=" + four + "#if", 2);
        s.text("goes=" + four + "5;gain=" + four + "5;fancy=" + four + "5;", 0);
        s.of("a 7th ( within one another (at it).");
        s.text("goes=((((((1))))));", 0);
        s.text("goes=((((((#(1)))))));", 2);
        s.text("goes=((((((#(", 2);
        s.text("goes=(((1+((2*(3)))))+(4))*((((((5))))));", 0);
        s.text("goes=1+(2*(3-(4/(5+(6+(7+#(8)))))));", 2);
        s.text("goes=" + many("(1)+", 20) + "1;", 0);
        s.text("goes=if((((((1))))))<((((((2))))))then((((((3))))))else((((((4))))));", 0);
        s.text("goes=if 1<((((((#(2)))))))then 3 else 4;", 2);
        s.text("goes=if 1<2 then((((((#(3)))))))else 4;", 2);
        s.text("goes=if 1<2 then 3 else((((((#(4)))))));", 2);
    }

    private void twice() {
        s.of("If there is none, likewise: 3 TWICE: a NAME told already (all together);");
        String town = "bank a;bridge x a;man m a a 1;";
        for (String name : new String[] {"a", "x", "m"}) {
            s.text(town + "bank #" + name + ";", 3);
            s.text(town + "bridge #" + name + " a;", 3);
            s.text(town + "man #" + name + " a a 1;", 3);
        }
        s.text("bank a;bank a;bank #", 1);
        s.text("bank a;bank a;goes=((((((#(1)))))));", 2);
        s.text("bank a;bank #a;bank a;", 3);
        s.text("bank a;bank #a;path q q 0;", 3);
        s.of("(at the second NAME) a PATH from a BANK to itself.");
        s.text("bank a;bank b;path a #a 1;", 3);
        s.text("bank a;bank b;path b #b 1;", 3);
        s.text("bank a;bank b;path b #b 0;", 3);
        s.text("bank a;bank b;path b a 1;path a b 1;", 0);
    }

    private void unknown() {
        s.of("4 NAME: (at it) no such BANK, BRIDGE, MAN told ahead.");
        String town = "bank a;bridge x a;man m a a 1;";
        for (String name : new String[] {"x", "m", "q"}) {
            s.text(town + "path #" + name + " a 1;", 4);
            s.text(town + "path a #" + name + " 1;", 4);
            s.text(town + "path #" + name + " " + name + " 1;", 4);
            s.text(town + "bridge y #" + name + ";", 4);
            s.text(town + "bridge y a #" + name + ";", 4);
            s.text(town + "man n #" + name + " a 1;", 4);
            s.text(town + "man n a #" + name + " 1;", 4);
        }
        s.text(town + "bridge y #y;", 4);
        s.text(town + "man n a #n 1;", 4);
        s.text(town + "wishes #a=1;", 4);
        s.text(town + "wishes #x=1;", 4);
        s.text(town + "wishes #q=1;", 4);
        s.text(town + "toll #a=1;", 4);
        s.text(town + "toll #m=1;", 4);
        s.text(town + "toll #q=1;", 4);
        s.text("bank a;path a #b 1;bank b;", 4);
        s.text("bridge x #a;bank a;", 4);
        s.text("bank a;man m a #b 1;bank b;", 4);
        s.text("bank a;wishes #m=1;man m a a 1;", 4);
        s.text("bank a;toll #x=1;bridge x a;", 4);
        s.text("path #q a 99;bank a;bank a;", 4);
        // What an earlier text told is not told here.
        WishBridges x = Check.told("bank a;bank b;bank c;bridge x a;man m a a 1;");
        String[] later = {"bank a;path a b 1;", "bank c;bank b;bridge y a;", "bank a;bridge y a;wishes m=1;", "bank a;toll x=1;"};
        int[] places = {14, 23, 25, 12};
        for (int i = 0; i < later.length; i++) {
            s.due("read() of " + later[i], Check.read(x, later[i]), 4);
            s.due("place() of " + later[i], x.place(), places[i]);
        }
    }

    private void wrong() {
        s.of("5 WRONG (at the INT): a number not as told above.");
        String town = "bank a;bank b;";
        s.text(town + "path a b  #0;", 5);
        s.text(town + "path a b #9999;", 5);
        s.text(town + "path a b 0009;", 0);
        s.text(town + "man m a b #1000;", 5);
        s.text(town + "man m a b #9999;", 5);
        s.text(town + "dawn #24;", 5);
        s.text(town + "dawn #9999;", 5);
        s.text(town + "pilgrims #101;", 5);
        s.text(town + "hire #100;", 5);
        s.text(town + "dawn #24;dawn 5;", 5);
        s.text("hire #100;bank a;bank a;path q q 0;", 5);
    }

    private static final String TOWN = "bank a;bank b;bridge x a b;bridge y a;man m a b 5;man n a a 7;man o b a 3;"
            + "wishes m=0;toll x=2;dawn 9;hire 8;";

    /** What can be told of how it stands, in one text. */
    private static String picture(WishBridges x) {
        StringBuilder out = new StringBuilder();
        for (int w = 0; w < 13; w++) {
            out.append(x.count(w)).append(' ');
        }
        for (int i = 0; i < 3; i++) {
            for (int w = 0; w < 6; w++) {
                out.append(x.man(i, w)).append(' ').append(x.bridge(i, w)).append(' ');
            }
            out.append(x.bank(i)).append(' ').append(x.wish(i, 0)).append(' ').append(x.toll(i, 0)).append(' ');
            out.append(x.where(i, 40)).append(' ').append(x.last(i, 40)).append(' ').append(x.fits(i)).append(' ');
        }
        return out.append(x.trust(0)).toString();
    }

    private static WishBridges busy() {
        WishBridges x = Check.told(TOWN);
        x.cross(0, 0);
        x.cross(1, 1);
        x.hire(1, 1);
        x.rule(1);
        x.see(0, 1);
        x.say(0, 1);
        x.hold(1);
        return x;
    }

    private void whatAFaultLeaves() {
        s.of("A text with a FAULT changes nothing but the tape;");
        String[] texts = {"bank p;bank q;dawn 3;bank", SIX + "bank g;", "bank p;bank p;man z p p 1;dawn 3;",
            "bank p;wishes q=1;hire 1;", "bank p;man z p p 1;wishes z=1;goes=1;seed 4;dawn 24;"};
        for (int i = 0; i < texts.length; i++) {
            WishBridges x = busy();
            String before = picture(x);
            s.due("read() of " + texts[i], Check.read(x, texts[i]), i + 1);
            s.yes("all as it was behind " + texts[i], picture(x).equals(before));
            s.due("the tape", x.count(7), 0);
            s.yes("restore(1)", x.restore(1));
            x.hours(1);
            s.yes("undo()", x.undo());
            WishBridges y = busy();
            Check.read(y, texts[i]);
            s.yes("undo() of what was done ahead of the text", y.undo());
            s.due("hour", y.count(4), 3);
        }
        // Nothing of it is left in the next text either.
        for (String fault : texts) {
            WishBridges z = new WishBridges();
            Check.read(z, fault);
            s.due("read() of a sound one", Check.read(z, TOWN), 0);
            s.yes("as if new behind " + fault, picture(z).equals(picture(Check.told(TOWN))));
        }
        for (String broken : new String[] {"goes=2*(1+", "goes=(((((1", "goes=if 1<2 then 3*(4", "goes=((((((((", "goes=1+2*3 4"}) {
            WishBridges z = new WishBridges();
            s.due("read() of " + broken, Check.read(z, broken) == 0 ? 0 : 1, 1);
            Check.read(z, "bank a;bridge x a;man m a a 0;toll x=1+2*3-(4-5);");
            s.due("TOLL behind " + broken, z.toll(0, 0), 8);
        }
        WishBridges often = new WishBridges();
        for (int i = 0; i < 40; i++) {
            s.due("read() " + i, Check.read(often, "goes=(1+2*(3"), 1);
        }
        Check.read(often, "bank a;bridge x a;man m a a 0;toll x=1+2*3-(4-5);");
        s.due("TOLL behind forty of them", often.toll(0, 0), 8);
    }

    private void whatATextLeaves() {
        s.of("else it is in place of the one ahead: hour 0, all as told, nobody ON a BRIDGE, nothing can be undone, "
                + "nothing is SEEN or SAID, SLOTS hold nothing.");
        WishBridges x = busy();
        s.due("read()", Check.read(x, TOWN), 0);
        s.yes("as if new", picture(x).equals(picture(Check.told(TOWN))));
        s.due("hour", x.count(4), 0);
        s.due("COSTS", x.count(5), 0);
        s.due("HIRED", x.count(6), 0);
        s.due("ON y", x.bridge(1, 2), 0);
        s.due("crossed", x.bridge(0, 3), 0);
        s.due("TIMES", x.man(0, 3), 0);
        s.due("PURSE", x.man(0, 2), 5);
        s.due("LAST", x.bridge(1, 1), -2);
        s.due("things", x.count(8), 0);
        s.no("undo()", x.undo());
        s.due("SEEN", x.count(9), 0);
        s.due("SAID", x.count(11), 0);
        s.due("SLOTS", x.count(10), 0);
        s.no("restore(1)", x.restore(1));
        // An empty text is one, too: nothing is told.
        WishBridges y = busy();
        s.due("read() of nothing", y.read(), 0);
        s.yes("as if new", picture(y).equals(picture(new WishBridges())));
        // Whatever was told ahead, by whichever text.
        WishBridges w = busy();
        String rich = SIX + paths(3).substring(14) + "bridge x f e;bridge y f;bridge z f;man m f e 9;man n f e 9;man o f e 9;wishes m=1;"
                + "wishes n=2;toll x=3;toll y=4;goes=1;gain=5;fancy=last;dawn 1;pilgrims 100;hire 7;seed 77;";
        for (int i = 0; i < 3; i++) {
            Check.read(w, rich);
            w.rule(3);
            Check.read(w, i == 0 ? rich : rich + "dawn 24;");
            s.due("read()", Check.read(w, "bank p;bank q;bank r;bridge v p q;man z p q 5;man y p r 5;"), 0);
            s.due("PATHS", w.count(1), 0);
            s.due("BRIDGES", w.count(2), 1);
            s.due("MEN", w.count(3), 2);
            s.due("DAWN", w.count(12), -2);
            s.due("no PATH", w.walk(0, 1), -2);
            s.due("WISH", w.wish(0, 0), 1);
            s.due("TOLL", w.toll(0, 0), 0);
            s.due("GOES", w.where(1, 300), 0);
            s.due("GAIN", w.gain(0, 1, 0, 0), 20);
            s.due("FANCY", w.prices(0, 3, 0, -1), -2);
            s.due("no DAWN, no PILGRIMS", w.last(0, 300), 1);
        }
        // What the one ahead told of itself is gone.
        WishBridges z = busy();
        s.due("read()", Check.read(z, "bank p;bank q;bridge v p;man z p q 5;"), 0);
        s.due("WISH", z.wish(0, 0), 1);
        s.due("TOLL", z.toll(0, 0), 0);
        s.due("DAWN", z.count(12), -2);
        z.hire(0, 0);
        s.due("HIRE", z.count(5), 5);
        // FANCY was the first LAW of the one ahead; the first of this one tells no FANCY.
        String town = "bank a;bank b;bank c;bridge x a b;man k a b 9;man l a c 9;";
        WishBridges v = new WishBridges();
        for (int i = 0; i < 4; i++) {
            Check.read(v, town + (i < 2 ? "fancy=last;" : "wishes k=last;"));
            s.due("sum of PRICES behind " + i, v.prices(0, 3, 1, -1), i < 2 ? 0 : 2);
        }
        // A LAW that fills its text, as often as you like.
        WishBridges u = new WishBridges();
        for (int i = 0; i < 5; i++) {
            s.due("read() " + i, Check.read(u, "bank a;bridge x a;man m a a 0;toll x=50" + many("+1-1", 95) + "+" + i + ";"), 0);
            s.due("TOLL " + i, u.toll(0, 0), 50 + i);
        }
    }
}
