/** The Terms, II: LAWS, crossing, LOTS, the hours, what is done by hand and by the RULE. */
final class LawEdges {
    private static final String SIX = "bank a;bank b;bank c;bank d;bank e;bank f;";
    private static final String THREE = "bank a;bank b;bank c;";

    private final Sentences s;

    LawEdges(Sentences s) {
        this.s = s;
    }

    void run() {
        s.part("LAST of a BRIDGE: the BANK", "What would be (nothing happens)");
        lastAndWhere();
        ifs();
        ints();
        dividedByZero();
        hour();
        last();
        times();
        purseAndHome();
        whoAndHere();
        waited();
        held();
        wish();
        could();
        cross();
        wishAsItWas();
        lots();
        hours();
        dawn();
        pilgrims();
        byHand();
        pair();
        hired();
        walks();
        ruleOfWhom();
        ruleToHome();
        ruleByGoes();
        ruleElse();
    }

    /** GAIN by a LAW of one alone, at hour 0: -99 to 99 can be seen by it. */
    private static int value(String law) {
        return Check.told("bank a;bridge x a;man m a a 0;gain=" + law + ";").gain(0, 1, 0, 0);
    }

    private void is(String law, int want) {
        s.due("the LAW " + law, value(law), want);
    }

    private void lastAndWhere() {
        s.of("LAST of a BRIDGE: the BANK that was wished on it last.");
        WishBridges x = Check.told(THREE + "bridge x a;bridge y a c;man k a b 0;man l a a 0;wishes l=0-1;");
        x.cross(0, 0);
        s.due("by who crossed", x.bridge(0, 1), 1);
        x.cross(1, 0);
        s.due("still, if he wished nothing", x.bridge(0, 1), 1);
        x.hire(0, 2);
        s.due("by who was hired", x.bridge(0, 1), 2);
        s.due("the other one's", x.bridge(1, 1), 2);
        x.hire(1, 0);
        s.due("the other one's by who was hired", x.bridge(1, 1), 0);
        s.due("not the first one's", x.bridge(0, 1), 2);
        s.of("A MAN is at a BANK or ON a BRIDGE.");
        WishBridges y = Check.told("bank a;bank b;bridge x a b;bridge y a;man k a b 0;");
        s.due("at a BANK", y.man(0, 0), 0);
        s.due("not ON one", y.man(0, 5), -2);
        y.cross(0, 1);
        s.due("ON the BRIDGE", y.man(0, 5), 1);
        s.due("at no BANK", y.man(0, 0), -2);
        s.due("at its FOOT no more", y.bank(0), 0);
        s.due("not yet where he wished", y.bank(1), 0);
    }

    private void ifs() {
        s.of("LAWS: the E of the first if that holds (one less than the other), else the last one;");
        is("if 1<2 then 3 else 4", 3);
        is("if 2<2 then 3 else 4", 4);
        is("if 3<2 then 3 else 4", 4);
        is("if 0-1<0 then 3 else 4", 3);
        is("if 1<2 then 3 else if 1<2 then 4 else 5", 3);
        is("if 2<2 then 3 else if 1<2 then 4 else 5", 4);
        is("if 2<1 then 3 else if 2<1 then 4 else 5", 5);
        is("if 2<1 then 3 else if 2<1 then 4 else if 2<1 then 5 else if 1<2 then 6 else 7", 6);
        is("if 2<1 then 3 else if 2<1 then 4 else if 2<1 then 5 else if 2<1 then 6 else 7", 7);
        // No difference of the two is reckoned, which would wrap.
        is("if 0-2000*1000*1000<2000*1000*1000 then 3 else 4", 3);
        is("if 2000*1000*1000<0-2000*1000*1000 then 3 else 4", 4);
    }

    private void ints() {
        s.of("ints of 32 bits that wrap, / rounded towards 0;");
        is("8192*8*8192*8+5", 5);
        is("if 8192*8*8192*4<0 then 3 else 4", 3);
        is("if 8192*8*8192*4-1<0 then 3 else 4", 4);
        is("if 8192*8*8192*4-1+1<0 then 3 else 4", 3);
        is("if 8192*8*8192*4/(0-1)<0 then 3 else 4", 3);
        is("9999*9999*9999/9999/9999", -10);
        is("7/2", 3);
        is("(0-7)/2", -3);
        is("7/(0-2)", -3);
        is("(0-7)/(0-2)", 3);
        is("(0-1)/2", 0);
        is("1/9999", 0);
        is("8/2", 4);
    }

    private void dividedByZero() {
        s.of("a LAW in which something that is looked at is divided by 0 is 0.");
        is("5/0", 0);
        is("0/0", 0);
        is("9+5/0", 0);
        is("9-5/(hour)", 0);
        is("7/(1/2)+3", 0);
        is("5/0*0+7", 0);
        is("if 1/0<1 then 2 else 3", 0);
        is("if 1<1/0 then 2 else 3", 0);
        is("if 1<2 then 1/0 else 3", 0);
        is("if 2<1 then 3 else 1/0", 0);
        is("if 2<1 then 3 else if 1/0<1 then 4 else 5", 0);
        is("if 1<2 then 3 else 1/0", 3);
        is("if 2<1 then 1/0 else 3", 3);
        is("if 1<2 then 3 else if 1/0<1 then 4 else 5", 3);
        WishBridges x = Check.told(THREE + "bridge x a b;man k a b 9;man l a c 9;wishes k=2/0;toll x=7+1/0;goes=1+1/0;"
                + "fancy=5/(last-2)+6;");
        s.due("WISH: the first BANK", x.wish(0, 0), 0);
        s.due("TOLL", x.toll(0, 0), 0);
        s.due("GOES", x.where(1, 5), 0);
        // FANCY of a is 4, of b 1, of c 0 and not 6: k does not leave c, whatever the prices.
        s.due("FANCY of the last one is 0", x.prices(0, 3, 3, -1), -2);
        WishBridges y = Check.told(THREE + "bridge x a b;man k a b 9;man l a c 9;fancy=5/(last-2);");
        s.due("FANCY of the first two is less than 0", y.prices(0, 3, 0, -1), 0);
    }

    private void hour() {
        s.of("hour: of the day, 0 .. 23;");
        WishBridges x = Check.told("bank a;bridge x a;man m a a 0;toll x=hour;wishes m=hour;gain=hour;");
        s.due("hour 0", x.toll(0, 0), 0);
        x.hours(1);
        s.due("hour 1", x.toll(0, 0), 1);
        x.hours(22);
        s.due("hour 23", x.toll(0, 0), 23);
        x.hours(1);
        s.due("hour 24", x.toll(0, 0), 0);
        x.hours(24);
        s.due("hour 48", x.toll(0, 0), 0);
        x.hours(199);
        s.due("hour 247", x.toll(0, 0), 7);
        s.due("GAIN in hour 247", x.gain(0, 1, 0, 0), 7);
        s.due("which it is goes on", x.count(4), 247);
    }

    private void last() {
        s.of("last: the number of LAST of the BRIDGE that is looked at, -1 if there is none");
        WishBridges x = Check.told(SIX + "bridge x a;bridge y a f;man m a b 0;toll x=last+2;toll y=last+2;wishes m=last+3;");
        s.due("TOLL without LAST", x.toll(0, 0), 1);
        s.due("TOLL with LAST 5", x.toll(0, 1), 7);
        s.due("WISH without LAST", x.wish(0, 0), 2);
        s.due("WISH with LAST 5", x.wish(0, 1), 2);
        x.hire(0, 0);
        s.due("TOLL with LAST 0", x.toll(0, 0), 2);
        WishBridges g = Check.told(SIX + "bridge x a d;bridge y a;man m a b 0;goes=0-last;");
        g.rule(1);
        s.due("GOES tells 1 of the one without LAST", g.man(0, 5), 1);
        s.of("(FANCY: of the BANK he would leave; GAIN: 0);");
        String town = THREE + "bridge x a b;bridge y a;man k a b 0;man l a c 0;";
        s.due("he leaves the last one", Check.told(town + "fancy=last;").prices(0, 3, 0, -1), 0);
        s.due("he leaves the first one", Check.told(town + "fancy=0-last;").prices(0, 3, 0, -1), -2);
        WishBridges z = Check.told(town + "gain=last+7;");
        s.due("GAIN where LAST is 1", z.gain(0, 3, 0, 0), 7);
        s.due("GAIN where LAST is 1, the next one", z.gain(0, 3, 0, 1), 7);
        s.due("GAIN where there is none", z.gain(1, 3, 0, 0), 7);
    }

    private void times() {
        s.of("times: how often he crossed;");
        WishBridges x = Check.told("bank a;bank b;path a b 1;bridge x a a;bridge y a;man k a b 0;man l a a 0;man m a a 0;"
                + "toll x=times;toll y=0;wishes k=0;goes=0;");
        x.cross(1, 0);
        s.due("who crossed", x.man(1, 3), 1);
        s.due("times in a LAW", x.toll(1, 0), 1);
        s.due("who did not", x.toll(0, 0), 0);
        x.pair(0, 2, 0);
        s.due("the first of a PAIR", x.man(0, 3), 1);
        s.due("the second of a PAIR", x.man(2, 3), 1);
        x.walk(0, 1);
        x.hire(0, 1);
        x.hours(5);
        s.due("not by walking, nor by hours", x.man(0, 3), 1);
        WishBridges y = Check.told("bank a;bank b;bridge x a;man k a b 0;man l a b 0;goes=1;");
        y.cross(0, 0);
        y.rule(1);
        s.due("who was ON it and came along", y.man(0, 3), 1);
        s.due("who crossed by the RULE", y.man(1, 3), 1);
    }

    private void purseAndHome() {
        s.of("purse; home: the number of his HOME (GAIN: 1 if he came HOME, else 0);");
        String town = SIX + "bridge x a b;man k a b 40;man l a f 7;";
        WishBridges x = Check.told(town + "toll x=purse/4;gain=purse;");
        s.due("by 40 coins", x.toll(0, 0), 10);
        s.due("by 7 coins", x.toll(1, 0), 1);
        s.due("GAIN by 7 coins", x.gain(0, 3, 0, 1), 7);
        x.cross(0, 0);
        x.hire(0, 0);
        s.due("by 30 coins", x.toll(0, 0), 7);
        WishBridges y = Check.told(town + "toll x=home*10;wishes l=home+2;gain=home*50;");
        s.due("HOME 1", y.toll(0, 0), 10);
        s.due("HOME 5", y.toll(1, 0), 50);
        s.due("WISH by HOME 5", y.wish(1, 0), 1);
        s.due("GAIN of who came HOME", y.gain(0, 3, 0, 0), 50);
        s.due("GAIN of who did not", y.gain(0, 3, 0, 1), 0);
    }

    private void whoAndHere() {
        s.of("who: his number; here: the number of the BANK where he is;");
        WishBridges x = Check.told(SIX + "path e f 3;bridge x e b;man k a b 0;man l e f 7;man m f a 0;toll x=who*10+here;gain=here*10;");
        s.due("the first one", x.toll(0, 0), 0);
        s.due("the second one", x.toll(1, 0), 14);
        s.due("the third one", x.toll(2, 0), 25);
        s.due("GAIN at the FOOT", x.gain(0, 2, 0, 1), 40);
        x.walk(1, 5);
        s.due("where he walked", x.toll(1, 0), 15);
    }

    private void waited() {
        s.of("waited: for how many HOURS by the RULE he has stood since he crossed or walked");
        WishBridges x = Check.told("bank a;bank b;path a b 2;bridge x a a;man k a b 99;man l b b 0;wishes k=0;toll x=waited;");
        s.due("at first", x.toll(0, 0), 0);
        x.rule(1);
        s.due("an HOUR by the RULE", x.toll(0, 0), 1);
        x.rule(4);
        s.due("five of them", x.toll(0, 0), 5);
        x.hours(3);
        x.hire(0, 0);
        s.due("not other ones", x.toll(0, 0), 5);
        s.due("not who is HOME", x.man(1, 4), 0);
        s.due("he crosses to where he was", x.cross(0, 0), 0);
        s.due("since he crossed", x.man(0, 4), 0);
        x.rule(2);
        s.due("two again", x.man(0, 4), 2);
        x.walk(1, 0);
        s.due("not by another one's walk", x.man(0, 4), 2);
        x.walk(0, 1);
        s.due("since he walked", x.man(0, 4), 0);
        s.of("(GAIN: how many crossed ahead of him).");
        WishBridges y = Check.told("bank a;bank b;bridge x a;bridge y b;man k a b 0;man l a b 0;man m a b 0;gain=waited;");
        y.rule(9);
        s.due("nobody", y.gain(0, 7, 0, 0), 0);
        s.due("one", y.gain(0, 7, 0, 1), 1);
        s.due("two", y.gain(0, 7, 0, 2), 2);
        s.due("two early ones", y.gain(0, 7, 1, 0), 2);
        s.due("one early one and a late one", y.gain(0, 7, 6, 2), 2);
    }

    private void tollOf(String law, int want) {
        WishBridges x = Check.told("bank a;bridge x a;man m a a 0;toll x=" + law + ";");
        s.due("TOLL by " + law, x.toll(0, 0), want);
    }

    /** Whether he leaves the last of three BANKS by his FANCY; else the first one is as good. */
    private void leavesLast(String law, boolean want) {
        WishBridges x = Check.told(THREE + "bridge x a b;man k a b 0;man l a c 0;fancy=" + law + ";");
        s.due("he leaves the last BANK by " + law, x.prices(0, 3, 0, -1), want ? 0 : -2);
    }

    private void held() {
        s.of("TOLL held to 0 .. 99, GAIN and FANCY to -99 .. 99.");
        tollOf("0-1", 0);
        tollOf("0-9999*9999", 0);
        tollOf("0", 0);
        tollOf("1", 1);
        tollOf("99", 99);
        tollOf("100", 99);
        tollOf("9999*9999", 99);
        is("98", 98);
        is("99", 99);
        is("100", 99);
        is("9999*9999", 99);
        is("0-98", -98);
        is("0-99", -99);
        is("0-100", -99);
        is("0-9999*9999", -99);
        leavesLast("if last<2 then 98 else 99", true);
        leavesLast("if last<2 then 99 else 100", false);
        leavesLast("if last<2 then 0-99 else 0-98", true);
        leavesLast("if last<2 then 0-100 else 0-99", false);
    }

    private void wishOf(String banks, String law, int want) {
        WishBridges x = Check.told(banks + "bridge x a;man m a a 0;wishes m=" + law + ";");
        s.due("WISH by " + law + " with " + banks, x.wish(0, 0), want);
    }

    private void wish() {
        s.of("WISH of a MAN on a BRIDGE: what WISHES tells, its rest by how many BANKS there are;");
        wishOf(THREE, "0", 0);
        wishOf(THREE, "2", 2);
        wishOf(THREE, "3", 0);
        wishOf(THREE, "5", 2);
        wishOf(THREE, "9998", 2);
        wishOf(THREE, "8192*8*8192*4-1", 1);
        wishOf(SIX, "5", 5);
        wishOf(SIX, "6", 0);
        wishOf(SIX, "9999", 3);
        wishOf("bank a;", "7", 0);
        s.of("below 0: he wishes nothing.");
        wishOf(THREE, "0-1", -2);
        wishOf(THREE, "0-3", -2);
        wishOf(THREE, "0-4", -2);
        wishOf(THREE, "8192*8*8192*4", -2);
        wishOf("bank a;", "0-1", -2);
    }

    private void could() {
        s.of("He COULD cross if he is at its FOOT's BANK and its TOLL is no more than his PURSE.");
        String town = "bank a;bank b;bridge x a b;man k a b 5;man l b a 9;man m a a 0;toll x=";
        s.due("as much as he has", Check.told(town + "5;").cross(0, 0), 1);
        s.due("less than he has", Check.told(town + "4;").cross(0, 0), 1);
        s.due("one more than he has", Check.told(town + "6;").cross(0, 0), -2);
        s.due("nothing of nothing", Check.told(town + "0;").cross(2, 0), 1);
        s.due("one of nothing", Check.told(town + "1;").cross(2, 0), -2);
        s.due("not at its FOOT", Check.told(town + "0;").cross(1, 0), -2);
    }

    private void cross() {
        s.of("CROSS: he pays the TOLL and comes to LAST, and with him all who are ON it;");
        WishBridges x = Check.told(THREE + "bridge x a;bridge y a;man k a b 9;man l a b 9;man m a c 9;man n a b 9;man o a b 9;"
                + "wishes k=0-1;wishes m=0-1;toll x=who+1;");
        x.cross(0, 0);
        x.cross(1, 0);
        x.cross(3, 1);
        s.due("he comes to LAST", x.cross(2, 0), 1);
        s.due("he paid", x.man(2, 2), 6);
        s.due("all who were ON it came, too", x.bank(1), 7);
        s.due("nobody is ON it", x.bridge(0, 2), 0);
        s.due("he who came along did not pay again", x.man(0, 2), 8);
        s.due("who is ON the other one stays there", x.bridge(1, 2), 8);
        s.due("who has not crossed stays there", x.man(4, 0), 0);
        s.of("without LAST he is ON it, as they are.");
        WishBridges y = Check.told("bank a;bank b;bridge x a;man k a b 9;man l a b 9;wishes k=0-1;wishes l=0-1;toll x=2;");
        s.due("ON it", y.cross(0, 0), -3);
        s.due("ON it, too", y.cross(1, 0), -3);
        s.due("both", y.bridge(0, 2), 3);
        s.due("LAST", y.bridge(0, 1), -2);
        s.due("they paid", y.man(1, 2), 7);
        s.due("times", y.man(0, 3), 1);
    }

    private void leaves(String law, int want) {
        WishBridges x = Check.told(SIX + "bridge x e b;man k e c 5;toll x=3;wishes k=" + law + ";");
        x.rule(2);
        x.cross(0, 0);
        s.due("LAST by " + law, x.bridge(0, 1), want);
    }

    private void wishAsItWas() {
        s.of("Then his WISH (by all as it was ahead) is LAST, if he wished something;");
        leaves("purse", 5);
        leaves("times", 0);
        leaves("waited+1", 3);
        leaves("hour+1", 3);
        leaves("here", 4);
        leaves("last+4", 5);
        leaves("0-1", 1);
        leaves("7", 1);
        leaves("0", 0);
        WishBridges x = Check.told(SIX + "bridge x a b;man k a c 9;wishes k=5;toll x=last+1;");
        x.cross(0, 0);
        s.due("the TOLL, too, is by LAST as it was", x.man(0, 2), 7);
        s.of("TIMES is 1 more, he has waited 0.");
        WishBridges y = Check.told("bank a;bank b;bank c;bridge x a a;bridge y a;man k a b 0;man l a c 0;wishes k=0;");
        y.rule(3);
        s.due("waited ahead", y.man(0, 4), 3);
        y.cross(0, 0);
        s.due("TIMES", y.man(0, 3), 1);
        s.due("waited", y.man(0, 4), 0);
        s.due("waited of the other one", y.man(1, 4), 3);
        y.cross(1, 1);
        s.due("TIMES of one who is ON it", y.man(1, 3), 1);
        s.due("waited of one who is ON it", y.man(1, 4), 0);
    }

    private static final String LOTS = SIX + "bridge w a;bridge x a;bridge y a;bridge z a;";

    private void lastsAre(String when, WishBridges x, int... want) {
        for (int b = 0; b < want.length; b++) {
            s.due(when + ", LAST of BRIDGE " + b, x.bridge(b, 1), want[b]);
        }
    }

    /** The numbers were reckoned apart, by ints without bounds and a mask of 32 bits. */
    private void lots() {
        s.of("LOT n of a SEED and a which: h is the SEED; for each of 47, which: h becomes (h and it, each bit of which is in "
                + "just one) times 1103515245 and 12345 more, then h and h moved 15 bits down (zeros come in), likewise; the "
                + "rest of h, moved 1 bit down likewise, by n (32 bits that wrap).");
        int[][] zero = {{3, 2, 5, 2}, {5, 5, 4, 5}, {5, 0, 1, 1}, {4, 3, 0, 5}, {5, 3, 2, 1}, {4, 1, 4, 0}, {3, 4, 5, 1},
            {3, 4, 1, 0}, {3, 5, 4, 5}, {0, 5, 4, 4}, {5, 5, 0, 3}, {0, 5, 0, 4}};
        int[][] most = {{3, 5, 3, 0}, {5, 4, 5, 0}, {1, 5, 5, 4}, {2, 5, 5, 5}, {3, 1, 5, 2}, {4, 4, 4, 5}, {2, 0, 2, 1},
            {3, 2, 0, 4}, {1, 4, 4, 2}, {2, 1, 1, 1}, {0, 5, 0, 1}, {0, 3, 0, 3}};
        WishBridges x = Check.told(LOTS + "pilgrims 100;");
        WishBridges y = Check.told(LOTS + "pilgrims 100;seed 9999;");
        for (int h = 0; h < 12; h++) {
            x.hours(1);
            y.hours(1);
            lastsAre("SEED 0, hour " + (h + 1), x, zero[h]);
            lastsAre("SEED 9999, hour " + (h + 1), y, most[h]);
        }
        for (int i = 0; i < 4; i++) {
            x.hours(200);
            y.hours(200);
        }
        x.hours(188);
        y.hours(188);
        lastsAre("SEED 0, hour 1000", x, 0, 5, 0, 2);
        lastsAre("SEED 9999, hour 1000", y, 4, 3, 1, 5);
    }

    private void hours() {
        s.of("AN HOUR goes by: it is the next one, h.");
        WishBridges x = Check.told(LOTS);
        s.due("at first", x.count(4), 0);
        x.hours(1);
        s.due("then", x.count(4), 1);
        x.rule(1);
        s.due("and by the RULE", x.count(4), 2);
        x.hours(22);
        s.due("behind the day's last one", x.count(4), 24);
    }

    private void dawn() {
        s.of("If DAWN is told and the rest of h by 24: LAST of each BRIDGE is the BANK LOT (how many BANKS) of 100 * h and its "
                + "number.");
        WishBridges x = Check.told(LOTS + "dawn 23;");
        x.hours(22);
        lastsAre("ahead of it", x, -2, -2, -2, -2);
        x.hours(1);
        lastsAre("at hour 23", x, 0, 1, 4, 1);
        x.hours(23);
        lastsAre("at hour 46", x, 0, 1, 4, 1);
        x.hours(1);
        lastsAre("at hour 47", x, 0, 5, 0, 0);
        WishBridges y = Check.told("bank a;bank b;bank c;bank d;bank e;bridge w a c;bridge x a;bridge y a;bridge z a;dawn 0;seed 3;");
        lastsAre("hour 0 is not come to", y, 2, -2, -2, -2);
        y.hours(23);
        lastsAre("at hour 23", y, 2, -2, -2, -2);
        y.hours(1);
        lastsAre("at hour 24", y, 4, 3, 3, 4);
        y.hours(24);
        lastsAre("at hour 48", y, 4, 0, 4, 3);
        WishBridges z = Check.told(LOTS + "man m a b 0;dawn 1;wishes m=0-1;");
        z.cross(0, 0);
        lastsAre("at hour 1", z, 0, 2, 3, 4);
        s.due("who is ON it stays there", z.man(0, 5), 0);
    }

    private void pilgrims() {
        s.of("Then BRIDGE by BRIDGE, if LOT 100 of 100 * h and 10 and its number is less than PILGRIMS: LAST is LOT (how many "
                + "BANKS) of 100 * h and 20 and its number.");
        // LOTS 100 of the first hour are 77, 71, 72, 28.
        int[] few = {-2, -2, -2, -2};
        pilgrimsIn(28, few);
        pilgrimsIn(29, -2, -2, -2, 2);
        pilgrimsIn(71, -2, -2, -2, 2);
        pilgrimsIn(72, -2, 2, -2, 2);
        pilgrimsIn(73, -2, 2, 5, 2);
        pilgrimsIn(77, -2, 2, 5, 2);
        pilgrimsIn(78, 3, 2, 5, 2);
        pilgrimsIn(0, few);
        // Those of the second hour are 26, 37, 65, 12; then LOTS are 5, 5, 4, 5.
        WishBridges two = Check.told(LOTS + "pilgrims 26;");
        two.hours(2);
        lastsAre("by PILGRIMS 26 in two hours", two, -2, -2, -2, 5);
        WishBridges three = Check.told(LOTS + "pilgrims 27;");
        three.hours(2);
        lastsAre("by PILGRIMS 27 in two hours", three, 5, -2, -2, 5);
        // One of a hundred: the first BRIDGE's is 0 in hour 91 for the first time.
        WishBridges one = Check.told(SIX + "bridge w a;pilgrims 1;");
        one.hours(90);
        lastsAre("by PILGRIMS 1 in 90 hours", one, -2);
        one.hours(1);
        lastsAre("by PILGRIMS 1 in 91 hours", one, 1);
        // At dawn, hour 1, LOTS are 0, 2, 3, 4; then pilgrims come.
        WishBridges x = Check.told(LOTS + "dawn 1;pilgrims 73;");
        x.hours(1);
        lastsAre("behind the dawn", x, 0, 2, 5, 2);
    }

    private void pilgrimsIn(int most, int... want) {
        WishBridges x = Check.told(LOTS + "pilgrims " + most + ";");
        x.hours(1);
        lastsAre("by PILGRIMS " + most, x, want);
    }

    private void byHand() {
        s.of("By hand: a MAN CROSSES (an HOUR goes by then);");
        WishBridges x = Check.told(LOTS + "man m a b 0;dawn 1;");
        s.due("by LAST as it was ahead of the HOUR", x.cross(0, 1), -3);
        s.due("which it is", x.count(4), 1);
        s.due("the HOUR went by behind his WISH", x.bridge(1, 1), 2);
        s.of("HOURS go by.");
        s.due("hours(2)", x.hours(2), 3);
        s.due("nobody moved", x.man(0, 5), 1);
    }

    private void pair() {
        s.of("two cross in a PAIR, the second one behind the first one, within one HOUR (each if he COULD, the second one with "
                + "what the first one left);");
        String town = THREE + "bridge x a b;man k a b 5;man l a c 5;man m b a 5;wishes k=2;";
        WishBridges x = Check.told(town);
        s.due("the second one comes where the first one wished", x.pair(0, 1, 0), 2);
        s.due("the first one came to LAST", x.man(0, 0), 1);
        s.due("one HOUR", x.count(4), 1);
        s.due("crossed twice", x.bridge(0, 3), 2);
        s.due("LAST is what the second one wished", x.bridge(0, 1), 2);
        WishBridges y = Check.told(town);
        s.due("the other way round", y.pair(1, 0, 0), 2);
        s.due("the first one then", y.man(1, 0), 1);
        WishBridges z = Check.told(town + "toll x=if last<2 then 0 else 6;");
        s.due("too dear by what the first one left", z.pair(0, 1, 0), -2);
        WishBridges u = Check.told(town + "toll x=if last<2 then 6 else 0;");
        s.due("too dear for the first one", u.pair(0, 1, 0), -2);
        WishBridges v = Check.told(town + "toll x=if last<2 then who*9 else 5;");
        s.due("too dear for the second one ahead of the first one", v.pair(0, 1, 0), 2);
        s.due("what he paid", v.man(1, 2), 0);
        s.due("the second one is not there", Check.told(town).pair(0, 2, 0), -2);
        s.due("the first one is not there", Check.told(town).pair(2, 0, 0), -2);
        WishBridges w = Check.told("bank a;bank b;bridge x a;man k a a 0;man l a b 0;man m a a 0;wishes k=0;");
        w.cross(0, 0);
        s.due("who is ON it comes to its FOOT with the first one", w.pair(1, 0, 0), 1);
        s.due("the first one", w.man(1, 0), 0);
        s.due("to the first BANK", Check.told("bank a;bank b;bridge x b b;man k b a 0;man l b a 0;").pair(0, 1, 0), 0);
        // The same hour for both.
        WishBridges h = Check.told(SIX + "bridge x a b;man k a b 5;man l a c 5;wishes k=hour+2;wishes l=hour+3;");
        h.hours(1);
        s.due("by the first one's hour", h.pair(0, 1, 0), 3);
        s.due("by the second one's hour", h.bridge(0, 1), 4);
    }

    private void hired() {
        s.of("a wisher is HIRED: LAST is the BANK told, COSTS are HIRE more, an HOUR goes by;");
        WishBridges x = Check.told(LOTS + "man m a f 7;hire 9;");
        x.cross(0, 2);
        s.yes("hire(2, 4)", x.hire(2, 4));
        s.due("LAST", x.bridge(2, 1), 4);
        s.due("LAST of the next one", x.bridge(3, 1), -2);
        s.due("COSTS", x.count(5), 9);
        s.due("HIRED ones", x.count(6), 1);
        s.due("which HOUR", x.count(4), 2);
        s.due("crossed", x.bridge(2, 3), 1);
        s.due("PURSE", x.man(0, 2), 7);
        s.due("who is ON it stays there", x.man(0, 5), 2);
        x.hire(2, 0);
        s.due("COSTS of two", x.count(5), 18);
        WishBridges y = Check.told(LOTS + "dawn 1;");
        y.hire(0, 5);
        s.due("the HOUR goes by behind it", y.bridge(0, 1), 0);
    }

    private void walks() {
        s.of("a MAN WALKS by a PATH (of two between the same BANKS the shorter one): he is there, he has waited 0, as many "
                + "HOURS go by;");
        String men = "man m a b 7;man n a b 7;";
        WishBridges x = Check.told(THREE + "path a b 9;path b c 1;" + men);
        x.rule(2);
        s.due("nine", x.walk(0, 1), 9);
        s.due("he is there", x.man(0, 0), 1);
        s.due("he has waited 0", x.man(0, 4), 0);
        s.due("the other one has waited", x.man(1, 4), 2);
        s.due("the hour", x.count(4), 11);
        s.due("one", x.walk(0, 2), 1);
        s.due("back", x.walk(0, 1), 1);
        s.due("PURSE", x.man(0, 2), 7);
        s.due("longer, shorter", Check.told(THREE + "path a b 5;path a b 3;" + men).walk(0, 1), 3);
        s.due("shorter, longer", Check.told(THREE + "path a b 3;path a b 5;" + men).walk(0, 1), 3);
        s.due("shorter the other way round", Check.told(THREE + "path a b 5;path b a 3;" + men).walk(0, 1), 3);
        s.due("not by two PATHS", Check.told(THREE + "path a b 1;path b c 1;" + men).walk(0, 2), -2);
        s.due("by the long one PATH", Check.told(THREE + "path a b 1;path b c 1;path a c 9;" + men).walk(0, 2), 9);
        WishBridges y = Check.told(LOTS + "path a b 3;man m a b 0;dawn 2;");
        y.walk(0, 1);
        lastsAre("at hour 2 on the way", y, 1, 2, 5, 3);
    }

    private void ruleOfWhom() {
        s.of("THE RULE, an HOUR: MAN by MAN, who is not ON a BRIDGE, not at his HOME:");
        // k is ON x when his turn comes; l brings him to b, where y would lead him HOME.
        WishBridges x = Check.told(THREE + "bridge x a;bridge y b c;man k a c 0;man l a b 0;wishes k=1;");
        x.cross(0, 0);
        x.rule(1);
        s.due("l came HOME", x.man(1, 0), 1);
        s.due("k came along", x.man(0, 0), 1);
        s.due("k has not waited", x.man(0, 4), 0);
        x.rule(1);
        s.due("then k came HOME", x.man(0, 0), 2);
        // The other way round: who was ON it has his turn behind the one who brings him.
        WishBridges y = Check.told(THREE + "bridge x a;bridge y b c;man l a b 0;man k a c 0;wishes k=1;");
        y.cross(1, 0);
        y.rule(1);
        s.due("k came HOME in the same HOUR", y.man(1, 0), 2);
        WishBridges z = Check.told("bank a;bridge x a a;bridge y a;man k a a 0;man l a a 0;goes=1;");
        z.cross(1, 1);
        z.rule(3);
        s.due("who is HOME does not cross", z.man(0, 3), 0);
        s.due("he does not wait", z.man(0, 4), 0);
        s.due("who is ON one does not wait", z.man(1, 4), 0);
        s.due("nor cross", z.man(1, 3), 1);
    }

    private void ruleToHome() {
        s.of("the first BRIDGE which he COULD cross, that nobody has crossed in this HOUR, with LAST his HOME: he CROSSES;");
        String town = THREE + "bridge w a c;bridge x a b;bridge y a b;bridge z c b;man k a b 5;man l a b 5;man m a b 5;";
        WishBridges x = Check.told(town);
        x.rule(1);
        s.due("k by the first with LAST his HOME", x.bridge(1, 3), 1);
        s.due("l by the next one, as that one was crossed", x.bridge(2, 3), 1);
        s.due("m by none", x.man(2, 4), 1);
        s.due("who is HOME", x.homes(), 3);
        x.rule(1);
        s.due("m in the next HOUR", x.homes(), 7);
        s.due("by the first one again", x.bridge(1, 3), 2);
        s.due("nobody by that at another FOOT", x.bridge(3, 3), 0);
        WishBridges y = Check.told(town + "toll x=6;toll y=5;");
        y.rule(1);
        s.due("not by the one that is too dear", y.bridge(1, 3), 0);
        s.due("he paid", y.man(0, 2), 0);
        // What the first one leaves is there for the next one, on another BRIDGE only.
        WishBridges z = Check.told(THREE + "bridge x a b;man k a b 0;man l a c 0;wishes k=2;");
        z.rule(1);
        s.due("l waits, though LAST is his HOME by then", z.man(1, 4), 1);
        z.rule(1);
        s.due("l in the next HOUR", z.man(1, 0), 2);
    }

    private void ruleByGoes() {
        s.of("if there is none, the first such one, whatever LAST is (none, too), for which GOES tells more than 0: he CROSSES;");
        String town = THREE + "bridge v a c;bridge w a;bridge x a b;man k a b 5;man l a b 5;goes=";
        WishBridges x = Check.told(town + "1;");
        x.rule(1);
        s.due("k HOME ahead of all others", x.man(0, 0), 1);
        s.due("l by the first one, whatever LAST is", x.man(1, 0), 2);
        String hard = THREE + "bridge v a c;bridge w a;man k a b 5;man l a b 5;";
        s.due("GOES 0", Check.told(hard + "goes=0;").where(0, 1), 0);
        s.due("GOES -1", Check.told(hard + "goes=0-1;").where(0, 1), 0);
        s.due("GOES 1", Check.told(hard + "goes=1;").where(0, 1), 2);
        s.due("the second one by the one without LAST", Check.told(hard + "goes=1;").where(1, 1), -2);
        s.due("the first one for which it does", Check.told(hard + "goes=0-last;").where(0, 1), -2);
        s.due("not one that is too dear", Check.told(hard + "goes=1;toll v=6;").where(0, 1), -2);
        // Both want the only one.
        WishBridges y = Check.told(THREE + "bridge v a c;man k a b 5;man l a b 5;goes=1;");
        y.rule(1);
        s.due("not one that was crossed in this HOUR", y.man(1, 4), 1);
        s.due("LAST is what k wished", y.bridge(0, 1), 1);
        y.rule(1);
        s.due("l comes HOME by that", y.man(1, 0), 1);
        WishBridges z = Check.told(THREE + "bridge v b c;man k a b 5;goes=1;");
        z.rule(1);
        s.due("not one at another FOOT", z.man(0, 4), 1);
    }

    private void ruleElse() {
        s.of("else he has waited 1 more. Then the HOUR goes by.");
        WishBridges x = Check.told(LOTS + "man k a f 0;man l b c 0;dawn 1;");
        x.rule(1);
        s.due("k has waited", x.man(0, 4), 1);
        s.due("l has waited", x.man(1, 4), 1);
        s.due("which HOUR", x.count(4), 1);
        lastsAre("the dawn came behind them", x, 0, 2, 3, 4);
        // y leads HOME by its LAST ahead of the dawn; by the dawn's it would not.
        WishBridges y = Check.told(LOTS.replace("bridge w a;", "bridge w a f;") + "man k a f 0;dawn 1;");
        y.rule(1);
        s.due("he came HOME ahead of the dawn", y.man(0, 0), 5);
        s.due("then it came", y.bridge(0, 1), 0);
        WishBridges z = Check.told("bank a;bank b;man k a b 0;");
        z.rule(3);
        z.rule(4);
        s.due("seven HOURS", z.man(0, 4), 7);
    }
}
