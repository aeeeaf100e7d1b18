/** Promises 2 to 5: the tape, and what a text may be with the first of its FAULTS. */
public final class FaultsTest {
    private static final Check CHECK = new Check();

    public static void main(String[] args) {
        tape();
        tokens();
        syntax();
        room();
        twiceNameWrong();
        order();
        whatAFaultLeaves();
        CHECK.end("FaultsTest");
    }

    private static void text(String text, int fault, int place) {
        WishBridges x = new WishBridges();
        CHECK.due("read() of " + text, Check.read(x, text), fault);
        CHECK.due("place() of " + text, x.place(), place);
    }

    /** The FAULT stands where the text has a # (which goes); without one there is none. */
    private static void at(String marked, int fault) {
        int place = marked.indexOf('#');
        text(marked.replace("#", ""), fault, place);
    }

    private static void tape() {
        WishBridges x = new WishBridges();
        CHECK.due("place() ahead of all", x.place(), -1);
        CHECK.due("back(0)", x.back(0), 0);
        CHECK.due("back(1)", x.back(1), -1);
        CHECK.due("back(-1)", x.back(-1), -1);
        for (int i = 1; i <= 100; i++) {
            CHECK.due("feed " + i, x.feed(0x20202020, 0x20202020, 0x20202020, 0x20202020, 0x20202020), 20 * i);
        }
        CHECK.due("feed 101", x.feed(0, 0, 0, 0, 0), -1);
        CHECK.due("count(7)", x.count(7), 2000);
        CHECK.due("back(19)", x.back(19), 1981);
        CHECK.due("feed 102", x.feed(0, 0, 0, 0, 0), -1);
        CHECK.due("back(1)", x.back(1), 1980);
        CHECK.due("feed 103", x.feed(0x20202020, 0x20202020, 0x20202020, 0x20202020, 0x20202020), 2000);
        CHECK.due("back(2001)", x.back(2001), -1);
        CHECK.due("read() of blanks", x.read(), 0);
        CHECK.due("count(7) then", x.count(7), 0);
        // The highest byte of the first number comes first: "bank" " q;\n" and blanks.
        x.feed(0x62616e6b, 0x20713b0a, 0x09200d20, 0x20202020, 0x20202020);
        CHECK.due("read() of a bank", x.read(), 0);
        CHECK.due("count(0)", x.count(0), 1);
        x.feed(0x62616e6b, 0x20713b20, 0xffffffff, 0, 0);
        CHECK.due("read() of bytes 255", x.read(), 1);
        CHECK.due("place() of bytes 255", x.place(), 8);
        CHECK.due("read() of nothing", x.read(), 0);
        CHECK.due("place() without", x.place(), -1);
        CHECK.due("count(0) of nothing", x.count(0), 0);
    }

    private static void tokens() {
        at("bank abcdefgh;", 0);
        at("bank #abcdefghi;", 1);
        at("bank a;bank b;path a b 0003;", 0);
        at("bank a;bank b;path a b #00003;", 1);
        at("bank a;bank b;path a b3;", 0);
        at("bank a;bank b;path a b3#x;", 1);
        at("\tbank\ra\n;\n", 0);
        at("bank a;#.", 1);
        at("#Bank a;", 1);
        at("bank a#B;", 1);
        at("bank #home;", 1);
        at("bank #if;", 1);
        at("bank homes;", 0);
        at("goes=1+2-3*4/5;", 0);
        at("goes=(((((1)))));", 0);
    }

    private static void syntax() {
        at("#a", 1);
        at("#;", 1);
        at("#hour", 1);
        at("bank#", 1);
        at("bank #;", 1);
        at("bank a#", 1);
        at("bank a  #", 1);
        at("bank a #b;", 1);
        at("path a b#;", 1);
        at("bridge a#;", 1);
        at("bank b;bridge a b;", 0);
        at("bank b;bridge a b b;", 0);
        at("bank b;bridge a b b #b;", 1);
        at("man a b c#;", 1);
        at("man a b c 1 #2;", 1);
        at("wishes #=1;", 1);
        at("wishes a #1;", 1);
        at("goes #a=1;", 1);
        at("goes=#;", 1);
        at("goes=1+#;", 1);
        at("goes=#-1;", 1);
        at("goes=1 #2;", 1);
        at("goes=(1#;", 1);
        at("goes=1#);", 1);
        at("goes=(1)#);", 1);
        at("goes=(#);", 1);
        at("goes=1#<2;", 1);
        at("goes=if 1#;", 1);
        at("goes=if 1<2#;", 1);
        at("goes=if 1<2 then 3#;", 1);
        at("goes=if 1<2 then 3 else#;", 1);
        at("goes=if 1<2 then 3 else 4;", 0);
        at("goes=if 1<2 then #if 1<2 then 3 else 4 else 5;", 1);
        at("goes=if 1<2 then 3 else if hour<(last) then times else purse+home*who/here-waited;", 0);
        at("goes=#a;", 1);
        at("goes=if 1#=2 then 3 else 4;", 1);
        at("dawn #a;", 1);
        at("dawn 1#", 1);
        at("dawn#=1;", 1);
    }

    private static void room() {
        at("bank a;bank b;bank c;bank d;bank e;bank f;", 0);
        at("bank a;bank b;bank c;bank d;bank e;bank f;#bank g;", 2);
        at("bank a;bank b;bank c;bank d;bank e;bank f; #bank", 2);
        StringBuilder paths = new StringBuilder("bank a;bank b;");
        for (int i = 0; i < 10; i++) {
            paths.append("path a b 1;");
        }
        at(paths.toString(), 0);
        at(paths + "#path a b 1;", 2);
        String bridges = "bank a;bridge u a;bridge v a;bridge w a;bridge x a;";
        at(bridges, 0);
        at(bridges + "#bridge y a;", 2);
        StringBuilder men = new StringBuilder("bank a;");
        for (char c = 'g'; c < 'n'; c++) {
            men.append("man ").append(c).append(" a a 0;");
        }
        at(men.toString(), 0);
        at(men + "#man z a a 0;", 2);
        String four = "if 1<2 then 3 else if 1<2 then 3 else if 1<2 then 3 else if 1<2 then 3 else ";
        at("goes=" + four + "4;", 0);
        at("goes=" + four + "#if 1<2 then 3 else 4;", 2);
        at("goes=" + four + "4;gain=" + four + "4;", 0);
        at("goes=((((((1))))));", 0);
        at("goes=((((((#(1)))))));", 2);
        at("goes=((((((1))))))+((((((1))))));", 0);
        at("goes=((((((1)+(2))))));", 0);
        at("goes=(((((1+(2)-(#(3)))))));", 2);
        tokensInAll();
    }

    private static void tokensInAll() {
        StringBuilder s = new StringBuilder();
        for (int i = 0; i < 133; i++) {
            s.append("seed 1;");
        }
        // 399 TOKENS.
        at(s.toString(), 0);
        at(s + "goes#", 1);
        at(s + "goes #=1;", 2);
        at(s + "goes #-", 1);
        at(s + "goes #.", 1);
        // 400 TOKENS, the last one a ;
        StringBuilder t = new StringBuilder("goes=1;");
        for (int i = 0; i < 132; i++) {
            t.append("seed 1;");
        }
        at(t.toString(), 0);
        at(t + " #seed 1;", 2);
        at(t + " #a", 1);
        at(t + " #.", 1);
    }

    private static void twiceNameWrong() {
        at("bank a;bank #a;", 3);
        at("bank a;bridge #a a;", 3);
        at("bank a;man #a a a 1;", 3);
        at("bank a;bridge b a;man #b a a 1;", 3);
        at("bank a;man b a a 1;bridge #b a;", 3);
        at("bank a;path a #a 1;", 3);
        at("path #a a 1;", 4);
        at("bank a;path a #b 1;bank b;", 4);
        at("bank a;bridge x #x;", 4);
        at("bank a;bridge x a #b;", 4);
        at("bank a;man m #b a 1;", 4);
        at("bank a;man m a #m 1;", 4);
        at("bank a;man m a a 1;wishes #a=1;", 4);
        at("bank a;man m a a 1;toll #m=1;", 4);
        at("bank a;bridge x a;wishes #x=1;", 4);
        at("bank a;wishes #m=1;man m a a 1;", 4);
        at("bank a;bank b;path a b #0;", 5);
        at("bank a;bank b;path a b #10;", 5);
        at("bank a;man m a a 999;", 0);
        at("bank a;man m a a #1000;", 5);
        at("dawn 23;", 0);
        at("dawn #24;", 5);
        at("pilgrims 100;", 0);
        at("pilgrims #101;", 5);
        at("hire 99;", 0);
        at("hire #100;", 5);
        at("seed 9999;", 0);
        at("goes=9999;", 0);
    }

    private static void order() {
        // SYNTAX and ROOM come ahead of the others, wherever they stand.
        at("bank a;bank #a;dawn 24;", 3);
        at("bank a;bank a;dawn 24#", 1);
        at("bank a;bank a;goes=((((((#(1)))))));", 2);
        // Of the others the first one by its place.
        at("dawn #24;bank a;bank a;", 5);
        at("path #a b 77;bank a;bank a;", 4);
        at("bank a;bank b;path a #a 77;path c d 1;", 3);
        at("bank a;bank b;path a b #77;path c d 1;", 5);
    }

    private static void whatAFaultLeaves() {
        WishBridges x = Check.told("bank a;bank b;bridge x a b;man m a b 5;dawn 4;");
        x.cross(0, 0);
        x.see(0, 1);
        x.say(0, 1);
        x.hold(1);
        int[] before = new int[13];
        for (int w = 0; w < 13; w++) {
            before[w] = x.count(w);
        }
        CHECK.due("read() of a fault", Check.read(x, "bank q;bank q;bank r;bridge z q;man k q q 1;wishes k=2;dawn 9;"), 3);
        for (int w = 0; w < 13; w++) {
            CHECK.due("count(" + w + ") behind a fault", x.count(w), before[w]);
        }
        CHECK.due("wish behind a fault", x.wish(0, 0), 1);
        CHECK.due("undo behind a fault", x.undo(), true);
        CHECK.due("restore behind a fault", x.restore(1), true);
        CHECK.due("hour behind restore", x.count(4), 1);
        x.hire(0, 0);
        CHECK.due("read() of a sound text", Check.read(x, "bank q;"), 0);
        int[] want = {1, 0, 0, 0, 0, 0, 0, 0, 0, 0, 0, 0, -2};
        for (int w = 0; w < 13; w++) {
            CHECK.due("count(" + w + ") behind a sound text", x.count(w), want[w]);
        }
        CHECK.due("undo behind a sound text", x.undo(), false);
        CHECK.due("restore behind a sound text", x.restore(1), false);
        // The last LAW and the last setting told count.
        WishBridges y = Check.told("bank a;bank b;bridge x a b;man m a b 5;wishes m=0;wishes m=1+2;toll x=3;toll x=4;"
                + "dawn 4;dawn 5;hire 1;hire 2;");
        CHECK.due("wish by the last law", y.wish(0, 0), 1);
        CHECK.due("toll by the last law", y.toll(0, 0), 4);
        CHECK.due("the last dawn", y.count(12), 5);
        y.hire(0, 0);
        CHECK.due("the last hire", y.count(5), 2);
    }
}
