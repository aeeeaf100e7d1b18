/** Promises 1 and 6 to 47 in small towns whose answers were found by hand. */
public final class PromisesTest {
    private static final Check CHECK = new Check();

    public static void main(String[] args) {
        newObject();
        wishesAndTolls();
        crossing();
        onABridge();
        pairs();
        hiring();
        walking();
        hoursDawnsPilgrims();
        rule();
        undoing();
        behind();
        odds();
        waitingAndFollowing();
        ways();
        orders();
        wishers();
        rings();
        earlyAndLate();
        prices();
        seenAndSaid();
        slots();
        CHECK.end("PromisesTest");
    }

    private static void due(String call, long got, long want) {
        CHECK.due(call, got, want);
    }

    private static void yes(String call, boolean got) {
        CHECK.due(call, got, true);
    }

    private static void no(String call, boolean got) {
        CHECK.due(call, got, false);
    }

    /** Promises 1 and 47. */
    private static void newObject() {
        WishBridges x = new WishBridges();
        int[] want = {0, 0, 0, 0, 0, 0, 0, 0, 0, 0, 0, 0, -2};
        for (int w = 0; w < 13; w++) {
            due("count(" + w + ") of nothing", x.count(w), want[w]);
        }
        due("count(-1)", x.count(-1), -1);
        due("count(13)", x.count(13), -1);
        due("place()", x.place(), -1);
        due("fits(0) of nothing", x.fits(0), 0);
        due("allHome() of nothing", x.allHome(), 0);
        due("rests of nothing", x.rests(0, 1, -1), -1);
        due("gain of nothing", x.gain(0, 1, 0, 0), -1000);
        due("worth of nothing", x.worth(0, 1, 0), -1000);
        due("best of nothing", x.best(0, 1, false), -1000);
        yes("hold(0) of nothing", x.hold(0));
        due("hours(3)", x.hours(3), 3);
        yes("restore(0) of nothing", x.restore(0));
        due("count(4)", x.count(4), 0);
    }

    /** Promises 6 to 10, and LAWS. */
    private static void wishesAndTolls() {
        WishBridges x = Check.told("bank a;bank b;bank c;bridge x a c;bridge y b;man k a b 10;man l a c 5;man m b a 3;"
                + "wishes k=0-1;wishes l=last+who+4;wishes m=7/(last+1);toll x=purse-4;toll y=200;");
        due("bank(0)", x.bank(0), 3);
        due("bank(2)", x.bank(2), 0);
        due("bank(-1)", x.bank(-1), -1);
        due("bank(3)", x.bank(3), -1);
        due("bridge(1, 0)", x.bridge(1, 0), 1);
        due("bridge(1, 1)", x.bridge(1, 1), -2);
        due("bridge(0, -1)", x.bridge(0, -1), -1);
        due("bridge(2, 0)", x.bridge(2, 0), -1);
        due("man(1, 1)", x.man(1, 1), 2);
        due("man(1, 2)", x.man(1, 2), 5);
        due("man(1, 6)", x.man(1, 6), -1);
        due("man(3, 0)", x.man(3, 0), -1);
        due("nothing wished", x.wish(0, 0), -2);
        due("rest by banks", x.wish(1, 0), 1);
        due("last is -1 without", x.wish(1, 1), 1);
        due("a law divided by 0 is 0", x.wish(2, 1), 0);
        due("7 / 3", x.wish(2, 0), 2);
        due("wish(0, 2)", x.wish(0, 2), -1);
        due("wish(-1, 0)", x.wish(-1, 0), -1);
        due("toll(0, 0)", x.toll(0, 0), 6);
        due("toll held to 0", x.toll(2, 0), 0);
        due("toll held to 99", x.toll(0, 1), 99);
        due("toll(3, 0)", x.toll(3, 0), -1);
        due("toll(0, 2)", x.toll(0, 2), -1);
        laws("7/2*2", 6);
        laws("2+3*4", 14);
        laws("(2+3)*4", 20);
        laws("20-5-4", 11);
        laws("90/9/2", 5);
        laws("5-6/4*2+1", 4);
        laws("(0-7)/2+10", 7);
        laws("9999*9999*9999/9999/9999", 9999 * 9999 * 9999 / 9999 / 9999);
        laws("if 1<1 then 1/0 else 8", 8);
        laws("if 0-1<0 then 8 else 1/0", 8);
        laws("if 1/0<5 then 8 else 9", 0);
        laws("if 2<1 then 3 else if 1<2 then 4 else 5", 4);
        laws("if 2<1 then 3 else if 2<1 then 4 else if 1<1 then 5 else if 3<2 then 6 else 7", 7);
        laws("1+2*(3+4*(5-6/(1+1)))", 1 + 2 * (3 + 4 * (5 - 3)));
        laws("hour*7+times*5+purse", 30);
        laws("home*10+who", 11);
        laws("here+waited+2", 3);
        laws("1+1/(last-last)", 0);
    }

    /** The toll is told for the second of two, who stands at the second BANK with 30 coins. */
    private static void laws(String law, int value) {
        WishBridges x = Check.told("bank a;bank b;bridge x b a;man k a a 0;man l b b 30;toll x=" + law + ";");
        due("the law " + law, x.toll(1, 0), Math.max(0, Math.min(99, value)));
    }

    /** Promise 11. */
    private static void crossing() {
        WishBridges x = Check.told("bank a;bank b;bank c;bridge x a c;bridge y b;man k a b 10;man l a c 5;man m b a 3;"
                + "wishes k=0-1;wishes l=purse+times*9+last;toll x=purse-4;toll y=200;");
        due("cross(2, 1), too dear", x.cross(2, 1), -2);
        due("cross(2, 0), not there", x.cross(2, 0), -2);
        due("cross(3, 0)", x.cross(3, 0), -1);
        due("cross(0, -1)", x.cross(0, -1), -1);
        due("nothing happened", x.count(4) + x.count(8), 0);
        due("cross(0, 0)", x.cross(0, 0), 2);
        due("who wished nothing leaves LAST", x.bridge(0, 1), 2);
        due("his purse", x.man(0, 2), 4);
        due("his times", x.man(0, 3), 1);
        due("the hour", x.count(4), 1);
        due("crossed", x.bridge(0, 3), 1);
        // He wishes by what was ahead: 5 coins, never crossed, LAST 2.
        due("cross(1, 0)", x.cross(1, 0), 2);
        due("LAST by all as it was", x.bridge(0, 1), 7 % 3);
        due("homes()", x.homes(), 2);
        due("bank(2)", x.bank(2), 3);
        WishBridges y = Check.told("bank a;bridge x a a;man k a a 7;toll x=7;");
        due("all his coins", y.cross(0, 0), 0);
        due("none left", y.man(0, 2), 0);
        due("not again", y.cross(0, 0), -2);
    }

    private static WishBridges noLast() {
        return Check.told("bank a;bank b;bridge x a;man k a b 1;man l a b 1;man m a a 1;wishes k=0-1;toll x=1;");
    }

    private static void onABridge() {
        WishBridges x = noLast();
        due("cross(0, 0) without LAST", x.cross(0, 0), -3);
        due("LAST still none", x.bridge(0, 1), -2);
        due("ON it", x.bridge(0, 2), 1);
        due("where he is", x.man(0, 0), -2);
        due("the BRIDGE he is ON", x.man(0, 5), 0);
        due("he paid", x.man(0, 2), 0);
        due("his wish", x.wish(0, 0), -2);
        due("his toll", x.toll(0, 0), -2);
        due("his way", x.way(0, 1, 0), -2);
        due("his reach", x.reach(0, 9), -2);
        due("he walks", x.walk(0, 1), -2);
        due("he crosses", x.cross(0, 0), -2);
        due("he waits", x.waiting(0, 0), -2);
        due("he follows", x.follow(0, 0), -2);
        due("bank(0)", x.bank(0), 6);
        due("cross(1, 0)", x.cross(1, 0), -3);
        due("LAST now", x.bridge(0, 1), 1);
        due("both ON it", x.bridge(0, 2), 3);
        due("cross(2, 0)", x.cross(2, 0), 1);
        due("all came", x.bank(1), 7);
        due("nobody ON it", x.bridge(0, 2), 0);
        due("homes()", x.homes(), 3);
        due("LAST then", x.bridge(0, 1), 0);
        due("crossed", x.bridge(0, 3), 3);
    }

    /** Promise 12. */
    private static void pairs() {
        WishBridges x = noLast();
        due("pair(0, 1, 0)", x.pair(0, 1, 0), -3);
        due("one hour", x.count(4), 1);
        due("one thing", x.count(8), 1);
        yes("undo()", x.undo());
        due("pair(1, 2, 0)", x.pair(1, 2, 0), 1);
        due("homes()", x.homes(), 2);
        due("pair(0, 0, 0)", x.pair(0, 0, 0), -1);
        due("pair(0, 3, 0)", x.pair(0, 3, 0), -1);
        due("pair(0, 1, 1)", x.pair(0, 1, 1), -1);
        // The first one's wish makes it too dear for the second one.
        WishBridges y = Check.told("bank a;bank b;bridge x a a;man k a b 5;man l a b 2;toll x=last*3;");
        due("the second could not", y.pair(0, 1, 0), -2);
        due("nothing happened", y.count(4) + y.count(8) + y.bridge(0, 3) + y.bridge(0, 1) + y.man(0, 3), 0);
        y.hire(0, 1);
        due("the first could not", y.pair(1, 0, 0), -2);
        // Who is ON it comes to the FOOT with the first one, and crosses behind him.
        WishBridges z = Check.told("bank a;bank b;bridge x a;man k a a 1;man l a b 1;");
        due("cross(0, 0)", z.cross(0, 0), -3);
        due("pair(1, 0, 0)", z.pair(1, 0, 0), 1);
        due("bank(0)", z.bank(0), 2);
        due("bank(1)", z.bank(1), 1);
    }

    /** Promise 13. */
    private static void hiring() {
        WishBridges x = Check.told("bank a;bank b;bridge x a;man k a b 1;");
        yes("hire(0, 1)", x.hire(0, 1));
        due("LAST", x.bridge(0, 1), 1);
        due("costs", x.count(5), 5);
        due("hired", x.count(6), 1);
        due("hour", x.count(4), 1);
        due("crossed", x.bridge(0, 3), 0);
        no("hire(1, 0)", x.hire(1, 0));
        no("hire(0, 2)", x.hire(0, 2));
        no("hire(0, -1)", x.hire(0, -1));
        due("things", x.count(8), 1);
        WishBridges y = Check.told("bank a;bank b;bridge x a;man k a b 1;hire 99;");
        y.cross(0, 0);
        y.hire(0, 0);
        y.hire(0, 0);
        due("costs of two", y.count(5), 198);
        due("who is ON it stays there", y.bridge(0, 2), 1);
    }

    /** Promise 14. */
    private static void walking() {
        WishBridges x = Check.told("bank a;bank b;bank c;path a b 5;path b a 3;path a b 4;man m a c 0;");
        x.rule(2);
        due("waited", x.man(0, 4), 2);
        due("walk(0, 1)", x.walk(0, 1), 3);
        due("where", x.man(0, 0), 1);
        due("waited then", x.man(0, 4), 0);
        due("times", x.man(0, 3), 0);
        due("hour", x.count(4), 5);
        due("no path", x.walk(0, 2), -2);
        due("no path to where he is", x.walk(0, 1), -2);
        due("walk(0, 3)", x.walk(0, 3), -1);
        due("walk(1, 0)", x.walk(1, 0), -1);
        due("and back", x.walk(0, 0), 3);
        due("paths", x.count(1), 3);
        due("things", x.count(8), 3);
    }

    /** Promise 15, DAWN and PILGRIMS; the LOTS were reckoned apart. */
    private static void hoursDawnsPilgrims() {
        String town = "bank a;bank b;bank c;bridge x a;bridge y a;man m a b 0;";
        WishBridges x = Check.told(town + "dawn 2;seed 7;");
        due("hours(0)", x.hours(0), 0);
        due("things", x.count(8), 0);
        due("hours(-1)", x.hours(-1), -1);
        due("hours(201)", x.hours(201), -1);
        due("hours(1)", x.hours(1), 1);
        due("before dawn", x.bridge(0, 1), -2);
        due("hours(1)", x.hours(1), 2);
        due("dawn on the first", x.bridge(0, 1), 2);
        due("dawn on the second", x.bridge(1, 1), 2);
        due("waiting is by the rule", x.man(0, 4), 0);
        due("hours(24)", x.hours(24), 26);
        due("the next dawn on the first", x.bridge(0, 1), 2);
        due("the next dawn on the second", x.bridge(1, 1), 0);
        due("hours(200)", x.hours(200), 226);
        WishBridges p = Check.told(town + "pilgrims 37;");
        p.hours(1);
        due("none yet", p.bridge(0, 1), -2);
        p.hours(1);
        due("26 of 37", p.bridge(0, 1), 2);
        due("37 of 37", p.bridge(1, 1), -2);
        p.hours(2);
        due("2 of 37", p.bridge(0, 1), 1);
        WishBridges q = Check.told(town + "pilgrims 38;");
        q.hours(2);
        due("37 of 38", q.bridge(1, 1), 2);
        WishBridges d = Check.told(town + "dawn 2;");
        d.hours(2);
        due("dawn alone", d.bridge(0, 1), 1);
        WishBridges both = Check.told(town + "dawn 2;pilgrims 30;");
        both.hours(2);
        due("pilgrims behind the dawn", both.bridge(0, 1), 2);
        due("dawn where none came", both.bridge(1, 1), 2);
        WishBridges all = Check.told(town + "pilgrims 100;seed 9999;");
        all.hours(1);
        due("pilgrims each hour", all.bridge(0, 1), 0);
        due("pilgrims on each", all.bridge(1, 1), 2);
        WishBridges zero = Check.told(town + "dawn 0;");
        zero.hours(23);
        due("no dawn at hour 0", zero.bridge(0, 1), -2);
        zero.hours(1);
        CHECK.due("dawn 0 at hour 24", zero.bridge(0, 1) >= 0, true);
    }

    /** Promises 16 and 18. */
    private static void rule() {
        WishBridges x = Check.told("bank a;bank b;bank c;bridge x a c;bridge y a b;man k a b 0;man l a b 0;goes=1;wishes k=2;");
        due("rule(0)", x.rule(0), 0);
        due("rule(-1)", x.rule(-1), -1);
        due("rule(201)", x.rule(201), -1);
        due("things", x.count(8), 0);
        due("rule(1)", x.rule(1), 1);
        due("with LAST his HOME first", x.man(0, 0), 1);
        due("the other one by the one that is free", x.man(1, 0), 2);
        due("homes()", x.homes(), 1);
        due("rule(200)", x.rule(200), 201);
        due("who is HOME does not wait", x.man(0, 4), 0);
        due("who is not does", x.man(1, 4), 200);
        WishBridges y = Check.told("bank a;bank b;bank c;bridge x a c;man k a b 0;goes=waited;");
        y.rule(1);
        due("GOES 0 is not enough", y.man(0, 4), 1);
        y.rule(1);
        due("GOES 1 is", y.man(0, 0), 2);
        due("waited 0", y.man(0, 4), 0);
        // Without LAST he goes by GOES, too; nobody comes for him.
        WishBridges z = Check.told("bank a;bank b;bridge x a;man k a b 0;man l a b 0;goes=0-last;");
        z.rule(1);
        due("ON it", z.bridge(0, 2), 1);
        z.rule(1);
        due("both HOME by the first one's wish", z.homes(), 3);
        // The toll shuts a BRIDGE that leads HOME.
        WishBridges t = Check.told("bank a;bank b;bridge x a b;bridge y a b;man k a b 3;toll x=4;toll y=3;");
        t.rule(1);
        due("the one he could cross", t.bridge(1, 3), 1);
        due("coins", t.man(0, 2), 0);
        // One who is brought from ON a BRIDGE ahead of his turn goes on in the same hour.
        WishBridges c = Check.told("bank a;bank b;bank c;bridge x a;bridge y b c;man k a c 0;man l a c 0;goes=1;"
                + "wishes l=1;wishes k=1;");
        c.cross(1, 0);
        c.rule(1);
        due("the first one came", c.man(0, 0), 1);
        due("the second one came and went on", c.man(1, 0), 2);
    }

    /** Promise 17. */
    private static void undoing() {
        WishBridges x = Check.told("bank a;bank b;path a b 2;bridge x a b;man k a b 9;man l a b 9;toll x=1;");
        no("undo() of nothing", x.undo());
        x.cross(0, 0);
        x.hire(0, 0);
        x.walk(1, 1);
        x.hours(3);
        x.rule(2);
        due("things", x.count(8), 5);
        due("hour", x.count(4), 9);
        yes("undo rule", x.undo());
        yes("undo hours", x.undo());
        due("hour back", x.count(4), 4);
        yes("undo walk", x.undo());
        due("he is back", x.man(1, 0), 0);
        yes("undo hire", x.undo());
        due("costs back", x.count(5), 0);
        due("hired back", x.count(6), 0);
        due("LAST back", x.bridge(0, 1), 1);
        yes("undo cross", x.undo());
        due("purse back", x.man(0, 2), 9);
        due("times back", x.man(0, 3), 0);
        due("crossed back", x.bridge(0, 3), 0);
        no("no more", x.undo());
        for (int i = 0; i < 45; i++) {
            x.hours(1);
        }
        due("forty things", x.count(8), 40);
        for (int i = 0; i < 40; i++) {
            yes("undo " + i, x.undo());
        }
        no("undo 41", x.undo());
        due("hour 5", x.count(4), 5);
        x.pair(0, 1, 0);
        yes("undo pair", x.undo());
        due("all where they were", x.bank(0), 3);
    }

    /** Promises 19 to 23. */
    private static void behind() {
        WishBridges x = Check.told("bank a;bank b;bridge x a b;man k a b 4;man l b b 1;toll x=299-waited;");
        due("where(0, 295)", x.where(0, 295), 0);
        due("where(0, 296)", x.where(0, 296), 1);
        due("where(0, 300)", x.where(0, 300), 1);
        due("where(0, 301)", x.where(0, 301), -1);
        due("where(0, -1)", x.where(0, -1), -1);
        due("where(2, 0)", x.where(2, 0), -1);
        due("last(0, 300)", x.last(0, 300), 1);
        due("last(0, 301)", x.last(0, 301), -1);
        due("last(1, 0)", x.last(1, 0), -1);
        due("coins(300)", x.coins(300), 1);
        due("coins(-1)", x.coins(-1), -1);
        due("coins(301)", x.coins(301), -1);
        due("homeBy(0)", x.homeBy(0), 296);
        due("homeBy(1)", x.homeBy(1), 0);
        due("homeBy(2)", x.homeBy(2), -1);
        due("allHome()", x.allHome(), 296);
        due("nothing happened", x.count(4) + x.man(0, 4), 0);
        WishBridges y = Check.told("bank a;bank b;bridge x a b;man k a b 0;toll x=299-waited;");
        due("home by 300", y.homeBy(0), 300);
        due("all home by 300", y.allHome(), 300);
        WishBridges z = Check.told("bank a;bank b;bridge x a b;man k a b 0;toll x=300-waited;");
        due("not home by 300", z.homeBy(0), -2);
        due("not all home", z.allHome(), -2);
    }

    /** Promise 24: LOT 2 of which 100, with each SEED from 9990 on. */
    private static void odds() {
        WishBridges x = Check.told("bank a;bank b;bridge x a;man k a b 0;dawn 1;seed 9990;");
        due("odds(0, 1, 20)", x.odds(0, 1, 20), 0);
        due("odds(0, 2, 20)", x.odds(0, 2, 20), 10);
        due("odds(0, 2, 7)", x.odds(0, 2, 7), 2);
        due("odds(0, 2, 0)", x.odds(0, 2, 0), -1);
        due("odds(0, 2, 21)", x.odds(0, 2, 21), -1);
        due("odds(0, 301, 1)", x.odds(0, 301, 1), -1);
        due("odds(1, 2, 1)", x.odds(1, 2, 1), -1);
        WishBridges y = Check.told("bank a;bank b;bridge x a b;man k a b 0;man l a a 0;");
        due("without lots", y.odds(0, 1, 13), 13);
        due("HOME from the start", y.odds(1, 0, 5), 5);
        due("not yet", y.odds(0, 0, 5), 0);
    }

    /** Promises 25 and 26. */
    private static void waitingAndFollowing() {
        WishBridges x = Check.told("bank a;bank b;bank c;bridge x a c;man k a b 0;man l a c 0;man m b b 0;wishes l=1;goes=1;");
        due("waiting(0, 0)", x.waiting(0, 0), 1);
        due("waiting(1, 0)", x.waiting(1, 0), 0);
        due("not at its FOOT", x.waiting(2, 0), -2);
        due("waiting(3, 0)", x.waiting(3, 0), -1);
        due("waiting(0, 1)", x.waiting(0, 1), -1);
        due("follow(0, 0)", x.follow(0, 0), 1);
        due("follow(1, 0)", x.follow(1, 0), -2);
        due("follow, not at its FOOT", x.follow(2, 0), -2);
        due("follow(3, 0)", x.follow(3, 0), -1);
        due("follow(0, 1)", x.follow(0, 1), -1);
        WishBridges never = Check.told("bank a;bank b;bank c;bridge x a c;man k a b 0;man l a c 0;");
        due("never", never.waiting(0, 0), -2);
        // Whom the toll holds back is not worth following; of two the first one.
        WishBridges t = Check.told("bank a;bank b;bridge x a a;man k a b 0;man l a b 0;man m a b 5;man n a b 5;toll x=5-home*0;");
        due("the first who could", t.follow(0, 0), 2);
        due("not himself", t.follow(2, 0), 3);
        // LAST is his HOME, but he could not cross for want of coins.
        WishBridges p = Check.told("bank a;bank b;bridge x a b;man k a b 4;toll x=5;");
        due("too dear", p.waiting(0, 0), -2);
        // The other one goes in the 100th hour, in the 101st one.
        String late = "bank a;bank b;bank c;bridge x a a;man k a b 0;man l a c 0;wishes l=1;goes=waited/";
        due("behind 100 hours", Check.told(late + "99;").waiting(0, 0), 100);
        due("behind 101 hours", Check.told(late + "100;").waiting(0, 0), -2);
        // The hour of the day makes it cheap.
        WishBridges h = Check.told("bank a;bank b;bridge x a b;man k a b 4;toll x=27-hour;");
        due("at hour 23", h.waiting(0, 0), 23);
        h.hours(1);
        due("from hour 1 on", h.waiting(0, 0), 22);
    }

    /** Promises 27 and 28. */
    private static void ways() {
        WishBridges x = Check.told("bank a;bank b;bank c;bridge x a a;bridge y a;man m a c 0;toll x=99;");
        due("two crossings", x.way(0, 2, 0), 2);
        due("crossings", x.way(0, 2, 1), 2);
        due("where he is", x.way(0, 0, 0), 0);
        due("where he is, crossings", x.way(0, 0, 1), 0);
        due("way(0, 3, 0)", x.way(0, 3, 0), -1);
        due("way(0, 0, 2)", x.way(0, 0, 2), -1);
        due("way(0, 0, -1)", x.way(0, 0, -1), -1);
        due("way(1, 0, 0)", x.way(1, 0, 0), -1);
        due("reach(0, 1)", x.reach(0, 1), 1);
        due("reach(0, 2)", x.reach(0, 2), 7);
        due("reach(0, 99)", x.reach(0, 99), 7);
        due("reach(0, 100)", x.reach(0, 100), -1);
        due("reach(0, -1)", x.reach(0, -1), -1);
        due("reach(1, 0)", x.reach(1, 0), -1);
        WishBridges p = Check.told("bank a;bank b;bank c;path c a 2;bridge x a a;man m a c 0;");
        due("as long", p.way(0, 2, 0), 2);
        due("by fewer crossings", p.way(0, 2, 1), 0);
        WishBridges n = Check.told("bank a;bank b;bridge x a;bridge y b a;man m a c 0;".replace(" c ", " b "));
        due("no way", n.way(0, 1, 0), -2);
        due("no way, crossings", n.way(0, 1, 1), -2);
        due("reach of no way", n.reach(0, 99), 1);
        // To b by the BRIDGE, back by the path, and over again to where he wished.
        WishBridges b = Check.told("bank a;bank b;bank c;path a b 9;bridge x a b;man m a c 0;");
        due("there, back and there", b.way(0, 2, 0), 11);
        due("there, back and there, crossings", b.way(0, 2, 1), 2);
    }

    /** Promises 29 and 30. */
    private static void orders() {
        WishBridges x = Check.told("bank a;bank b;bank c;bridge x a b;bridge y b;man k a b 0;man l a c 0;man m a b 0;"
                + "wishes k=2;wishes l=1;toll x=50;");
        due("orders(0, 7)", x.orders(0, 7), 2);
        due("first", x.orderAt(0, 7, 0), 0);
        due("second", x.orderAt(0, 7, 1), 1);
        due("third", x.orderAt(0, 7, 2), 2);
        due("not so many", x.orderAt(0, 7, 3), -1);
        due("orders(0, 2)", x.orders(0, 2), 0);
        due("there is none", x.orderAt(0, 2, 0), -2);
        due("there is none, of any place", x.orderAt(0, 2, 9), -2);
        due("i below 0", x.orderAt(0, 2, -1), -1);
        due("not at its FOOT", x.orders(1, 1), -2);
        due("not at its FOOT, orderAt", x.orderAt(1, 1, 0), -2);
        due("i below 0 is looked at first", x.orderAt(1, 1, -1), -1);
        due("no set", x.orders(0, 0), -1);
        due("set of more", x.orders(0, 8), -1);
        due("set below 0", x.orders(0, -1), -1);
        due("no such bridge", x.orders(2, 1), -1);
        // Two without LAST: the first one comes HOME with the second one.
        WishBridges y = Check.told("bank a;bank b;bridge x a;man k a b 0;man l a b 0;man m a a 0;wishes m=0-1;");
        due("two without LAST", y.orders(0, 3), 2);
        due("one without LAST", y.orders(0, 1), 0);
        due("three without LAST", y.orders(0, 7), 0);
        // Who wishes nothing must not be the first one; if the other one is the last one, both are ON it.
        due("both ON it is not HOME", Check.told("bank a;bank b;bridge x a;man k a b 0;man l a b 0;wishes k=0-1;")
                .orders(0, 3), 1);
        due("the other one first", Check.told("bank a;bank b;bridge x a;man k a b 0;man l a b 0;wishes k=0-1;")
                .orderAt(0, 3, 0), 1);
        // Each crossing takes an hour.
        WishBridges h = Check.told("bank a;bank b;bank c;bridge x a b;man k a b 0;man l a b 0;man m a c 0;"
                + "wishes k=1+hour/5;wishes l=1+hour/5;");
        due("too early", h.orders(0, 7), 0);
        h.hours(4);
        due("the second one at hour 5", h.orders(0, 7), 2);
        due("first place first", h.orderAt(0, 7, 0), 0);
        // All seven alike.
        WishBridges s = Check.told("bank a;bridge x a a;man g a a 0;man h a a 0;man i a a 0;man j a a 0;man k a a 0;"
                + "man l a a 0;man m a a 0;");
        due("orders of seven", s.orders(0, 127), 5040);
        due("the last of seven", s.orderAt(0, 127, 6), 6);
    }

    /** Promises 31 and 32. */
    private static void wishers() {
        WishBridges x = Check.told("bank a;bank b;bank c;bridge x a b;bridge y b;man k a b 0;man l a c 0;"
                + "wishes k=if hour<1 then 0 else 2;");
        due("wishers(0, 3)", x.wishers(0, 3), 1);
        due("the first goes without", x.wisherAt(0, 3, 0), 0);
        due("ahead of the second", x.wisherAt(0, 3, 1), 101);
        due("not so many", x.wisherAt(0, 3, 2), -1);
        due("i below 0", x.wisherAt(0, 3, -1), -1);
        due("not at its FOOT", x.wishers(1, 1), -2);
        due("not at its FOOT, wisherAt", x.wisherAt(1, 1, 0), -2);
        due("i below 0 is looked at first", x.wisherAt(1, 1, -1), -1);
        due("no set", x.wishers(0, 0), -1);
        due("no such bridge", x.wisherAt(2, 1, 0), -1);
        due("HOME by itself", x.wishers(0, 1), 0);
        due("one alone", x.wisherAt(0, 2, 0), 101);
        WishBridges y = Check.told("bank a;bank b;bank c;bridge x a;man k a b 0;man l a c 0;man m a b 0;");
        due("one without LAST", y.wishers(0, 1), 1);
        due("two alike without LAST", y.wishers(0, 5), 0);
        due("two unlike without LAST", y.wishers(0, 3), 2);
        due("three without LAST", y.wishers(0, 7), 1);
        due("row of three, first", y.wisherAt(0, 7, 0), 0);
        due("row of three, second", y.wisherAt(0, 7, 1), 2);
        due("row of three, third", y.wisherAt(0, 7, 2), 101);
        WishBridges all = Check.told("bank a;bank b;bridge x a;man g a b 0;man h a b 0;man i a b 0;man j a b 0;man k a b 0;"
                + "man l a b 0;man m a b 0;wishes g=0;wishes h=0;wishes i=0;wishes j=0;wishes k=0;wishes l=0;wishes m=0;");
        // The first one comes along with the second one.
        due("all but one", all.wishers(0, 127), 6);
        due("the first of seven", all.wisherAt(0, 127, 0), 0);
        all.hire(0, 0);
        due("all seven", all.wishers(0, 127), 7);
        for (int i = 0; i < 7; i++) {
            due("wisher " + i + " of seven", all.wisherAt(0, 127, i), 100 + i);
        }
        // He might as well be hired ahead of the first one, who comes HOME without.
        WishBridges h = Check.told("bank a;bank b;bank c;bridge x a b;man k a b 0;man l a c 0;man m a b 0;"
                + "wishes k=if hour<1 then 0 else 2;wishes l=if hour<2 then 0 else 1;wishes m=0;");
        due("wishers by hours", h.wishers(0, 7), 1);
        due("the first one without", h.wisherAt(0, 7, 0), 0);
        due("the second one with", h.wisherAt(0, 7, 1), 101);
        due("the third one by that hour", h.wisherAt(0, 7, 2), 2);
    }

    /** Promise 33. */
    private static void rings() {
        String town = "bank a;bank b;bank c;bank d;bridge x a a;bridge y b;man k a b 0;man l a c 0;man m a d 0;wishes k=2;";
        WishBridges x = Check.told(town + "wishes l=1;wishes m=0-1;");
        due("parts", x.rings(0, 7, 0), 2);
        due("even", x.rings(0, 7, 1), 2);
        due("needs", x.rings(0, 7, 2), 2);
        x.hire(0, 1);
        due("needs with LAST in an even one", x.rings(0, 7, 2), 1);
        due("what -1", x.rings(0, 7, -1), -1);
        due("what 3", x.rings(0, 7, 3), -1);
        due("not at its FOOT", x.rings(1, 1, 0), -2);
        due("no such what, not at its FOOT", x.rings(1, 1, 3), -1);
        due("no set", x.rings(0, 0, 0), -1);
        WishBridges y = Check.told(town + "wishes l=3;");
        due("one part", y.rings(0, 7, 0), 1);
        due("not even", y.rings(0, 7, 1), 0);
        due("needs of it", y.rings(0, 7, 2), 1);
        y.hire(0, 2);
        due("LAST within it does not help", y.rings(0, 7, 2), 1);
        y.hire(0, 1);
        due("LAST where more go out does", y.rings(0, 7, 2), 0);
        WishBridges z = Check.told("bank a;bank b;bank c;bridge x a;man k a b 0;man l a b 0;man m a b 0;wishes k=2;"
                + "wishes l=2;wishes m=0;");
        due("three more go out", z.rings(0, 7, 2), 3);
        due("two more go out", z.rings(0, 3, 2), 2);
    }

    /** Promises 34 to 37. */
    private static void earlyAndLate() {
        String town = "bank a;bank b;bank c;bridge x a c;bridge y b;man k a b 10;man l a c 5;man m a c 3;wishes l=1;";
        WishBridges x = Check.told(town);
        // k, l, m: k to c, then LAST b, b.
        due("gain of k", x.gain(0, 7, 0, 0), 0);
        due("gain of l", x.gain(0, 7, 0, 1), -1);
        due("gain of m", x.gain(0, 7, 0, 2), -2);
        due("worth", x.worth(0, 7, 0), -3);
        // l, m early, k late: l HOME, then LAST b: m not, LAST c: k not.
        due("worth, k late", x.worth(0, 7, 1), 20 - 1 - 2);
        // m early, then k and l: m HOME, LAST c: k not, LAST b: l not.
        due("worth, k and l late", x.worth(0, 7, 3), 20 - 1 - 2);
        // m early, then l and k cannot be: LATE ones go by numbers.
        due("gain of l among late ones", x.gain(0, 7, 3, 1), -2);
        due("late beyond the set", x.gain(0, 3, 4, 0), -1000);
        due("man beyond the set", x.gain(0, 3, 0, 2), -1000);
        due("no such man", x.gain(0, 3, 0, 9), -1000);
        due("not at its FOOT", x.gain(1, 1, 0, 0), -1000);
        due("worth, late beyond the set", x.worth(0, 3, 4), -1000);
        due("worth, not at its FOOT", x.worth(1, 1, 0), -1000);
        due("best, not at its FOOT", x.best(1, 1, true), -1000);
        due("rests, not at its FOOT", x.rests(1, 1, 0), -2);
        due("rests, i below NONE", x.rests(1, 1, -2), -1);
        due("rests, no set", x.rests(0, 0, -1), -1);
        // Of k and l alone: {k late} and {l late} rest, as the shared test has it.
        due("rests of two", x.rests(0, 3, -1), 2);
        due("the first", x.rests(0, 3, 0), 1);
        due("the second", x.rests(0, 3, 1), 2);
        due("not so many", x.rests(0, 3, 2), -1);
        due("best of two", x.best(0, 3, false), 39);
        due("cost of two", x.best(0, 3, true), 40);
        WishBridges law = Check.told(town + "gain=home*1000-waited+last;");
        due("held to 99", law.gain(0, 7, 1, 1), 99);
        due("who did not come HOME", law.gain(0, 7, 1, 2), -1);
        // Each crosses an HOUR behind the one ahead of him; times, purse and here are as he sets foot on it.
        WishBridges hour = Check.told(town + "gain=hour+times+purse+here*50;");
        hour.hours(5);
        due("the first one's hour", hour.gain(0, 7, 0, 0), 5 + 10);
        due("the second one's hour", hour.gain(0, 7, 0, 1), 6 + 5);
        due("the last one's hour", hour.gain(0, 7, 1, 0), 7 + 10);
        due("all hours together", hour.worth(0, 7, 1), 5 + 6 + 7 + 18);
        hour.hours(18);
        due("the last hour of the day", hour.gain(0, 7, 1, 1), 23 + 5);
        due("the first hour of the next day", hour.gain(0, 7, 1, 2), 3);
        due("the hour behind it", hour.gain(0, 7, 1, 0), 1 + 10);
        // k likes an odd hour, l any: from nobody late k goes late at an even hour, and not at an odd one.
        WishBridges odd = Check.told("bank a;bridge x a;man k a a 0;man l a a 0;"
                + "gain=if who<1 then hour-hour/2*2 else 0;");
        due("rests at an even hour", odd.rests(0, 3, -1), 3);
        due("k behind l", odd.rests(0, 3, 0), 1);
        due("best at an even hour", odd.best(0, 3, false), 1);
        odd.hours(1);
        due("k ahead of l", odd.rests(0, 3, 0), 0);
        WishBridges low = Check.told(town + "gain=0-100-who;");
        due("held to -99", low.worth(0, 7, 0), -297);
        // k likes to be behind, l ahead. k late: l, k; else k, l. From nobody late k goes late, from both l goes early.
        WishBridges two = Check.told("bank a;bank b;bridge x a b;man k a b 0;man l a b 0;"
                + "gain=if who<1 then waited else 1-waited;");
        due("rests by waiting", two.rests(0, 3, -1), 2);
        due("k late", two.rests(0, 3, 0), 1);
        due("l late", two.rests(0, 3, 1), 2);
        due("cost", two.best(0, 3, true), 2);
        WishBridges none = Check.told("bank a;bank b;bank c;bridge x a b;man k a a 0;man l a b 0;man m a c 0;man n a b 0;"
                + "wishes k=2;wishes m=0;");
        due("nothing rests", none.rests(0, 15, -1), 0);
        due("the first of none", none.rests(0, 15, 0), -1);
        due("best all the same", none.best(0, 15, false), 54);
        due("no cost", none.best(0, 15, true), -1000);
        // Without LAST the first one comes HOME with the second one.
        WishBridges on = Check.told("bank a;bank b;bridge x a;man k a b 0;man l a b 0;");
        due("carried HOME", on.gain(0, 3, 0, 0), 20);
        due("worth of both", on.worth(0, 3, 0), 39);
        due("alone he is ON it", on.gain(0, 1, 0, 0), 0);
    }

    /** Promise 38. */
    private static void prices() {
        String town = "bank a;bank b;bank c;bridge x a b;bridge y b;man k a b 0;man l a c 0;man m a b 0;";
        WishBridges x = Check.told(town);
        due("sum", x.prices(0, 3, 1, -1), 2);
        due("of a", x.prices(0, 3, 1, 0), 1);
        due("of b", x.prices(0, 3, 1, 1), 1);
        due("of c", x.prices(0, 3, 1, 2), 0);
        due("by no price", x.prices(0, 3, 0, -1), -2);
        due("one alone", x.prices(0, 1, 0, -1), 0);
        due("one who does not come HOME", x.prices(0, 2, 3, -1), -2);
        due("no such m", x.prices(0, 3, 4, -1), -1);
        due("m below 0", x.prices(0, 3, -1, -1), -1);
        due("no such bank", x.prices(0, 3, 1, 3), -1);
        due("i below NONE", x.prices(0, 3, 1, -2), -1);
        due("no set", x.prices(0, 0, 1, -1), -1);
        due("not at its FOOT", x.prices(1, 1, 1, -1), -2);
        due("not at its FOOT, no such m", x.prices(1, 1, 4, -1), -1);
        // k must leave c and l must leave b: not by one price for both.
        due("all three", x.prices(0, 7, 3, -1), -2);
        WishBridges y = Check.told(town + "fancy=2-last;");
        due("dear ones", y.prices(0, 3, 3, -1), 5);
        due("dear a", y.prices(0, 3, 3, 0), 3);
        due("dear b", y.prices(0, 3, 3, 1), 2);
        due("not so dear", y.prices(0, 3, 2, -1), -2);
        WishBridges z = Check.told(town + "fancy=if who<1 then last else 2-(last-1)*(last-1);");
        due("each his own", z.prices(0, 7, 0, -1), 0);
        // k crosses now, l an hour from now, when b is his.
        WishBridges h = Check.told(town + "fancy=if who<1 then last else if hour<6 then 0-last else 2-(last-1)*(last-1);");
        due("too early", h.prices(0, 7, 0, -1), -2);
        h.hours(5);
        due("the hour of his crossing", h.prices(0, 7, 0, -1), 0);
        // Without LAST the first one comes where the second one comes.
        WishBridges on = Check.told("bank a;bank b;bridge x a;man k a b 0;man l a b 0;man m a a 0;");
        due("both by a price on a", on.prices(0, 3, 3, -1), 1);
        due("unlike ones", on.prices(0, 5, 3, -1), -2);
        due("alone", on.prices(0, 1, 3, -1), -2);
    }

    /** Promises 39 to 44. */
    private static void seenAndSaid() {
        WishBridges x = Check.told("bank a;bank b;bank c;man k a a 0;man l a a 0;");
        due("fits(0)", x.fits(0), 27);
        due("fits(1)", x.fits(1), -1);
        due("fits(-1)", x.fits(-1), -1);
        due("see(0, 1)", x.see(0, 1), 0);
        due("fits(1)", x.fits(1), 9);
        due("see(1, 2)", x.see(1, 2), 1);
        due("fits(2)", x.fits(2), 3);
        due("sure(2, 0)", x.sure(2, 0), 2);
        due("sure(2, 1)", x.sure(2, 1), -2);
        due("sure(1, 0)", x.sure(1, 0), -2);
        due("see(0, 0)", x.see(0, 0), 2);
        due("fits(3)", x.fits(3), 1);
        due("sure(3, 1)", x.sure(3, 1), 0);
        yes("say(0, 2)", x.say(0, 2));
        yes("say(1, 2)", x.say(1, 2));
        yes("say(1, 1)", x.say(1, 1));
        no("say(2, 1)", x.say(2, 1));
        no("say(0, 3)", x.say(0, 3));
        due("count(11)", x.count(11), 3);
        due("trust(0)", x.trust(0), 3);
        due("trust(2)", x.trust(2), 3);
        due("trust(3)", x.trust(3), 1);
        due("trust(4)", x.trust(4), -1);
        due("see(0, 1)", x.see(0, 1), 3);
        due("fits(4)", x.fits(4), 0);
        due("sure(4, 0)", x.sure(4, 0), -2);
        due("sure(4, 2)", x.sure(4, 2), -1);
        due("sure(5, 0)", x.sure(5, 0), -1);
        due("trust(4)", x.trust(4), 0);
        due("see(2, 0)", x.see(2, 0), -1);
        due("see(0, 3)", x.see(0, 3), -1);
        for (int i = 4; i < 12; i++) {
            due("see " + i, x.see(0, 1), i);
        }
        due("see a 13th", x.see(0, 1), -1);
        due("count(9)", x.count(9), 12);
        due("forget()", x.forget(), 12);
        due("forget() again", x.forget(), 0);
        due("count(9)", x.count(9), 0);
        due("count(11)", x.count(11), 0);
        due("trust(0) of nobody", x.trust(0), 0);
        WishBridges one = Check.told("bank a;man k a a 0;");
        due("one bank", one.sure(0, 0), 0);
        due("one way", one.fits(0), 1);
    }

    /** Promises 45 and 46. */
    private static void slots() {
        WishBridges x = Check.told("bank a;bank b;bridge x a b;man k a b 9;man l a b 9;");
        no("restore(0)", x.restore(0));
        no("hold(-1)", x.hold(-1));
        no("hold(3)", x.hold(3));
        yes("hold(0)", x.hold(0));
        x.cross(0, 0);
        x.hire(0, 0);
        x.see(0, 1);
        x.say(0, 1);
        yes("hold(2)", x.hold(2));
        due("slots", x.count(10), 2);
        due("things stay", x.count(8), 2);
        x.rule(5);
        yes("restore(0)", x.restore(0));
        due("hour", x.count(4), 0);
        due("costs", x.count(5), 0);
        due("things", x.count(8), 0);
        no("undo()", x.undo());
        due("where", x.bank(0), 3);
        due("seen stays", x.count(9), 1);
        due("said stays", x.count(11), 1);
        yes("restore(2)", x.restore(2));
        due("hour", x.count(4), 2);
        due("costs", x.count(5), 5);
        due("LAST", x.bridge(0, 1), 0);
        due("who came", x.bank(1), 1);
        no("restore(1)", x.restore(1));
        no("restore(3)", x.restore(3));
        no("restore(-1)", x.restore(-1));
        x.hours(7);
        yes("restore(2) again", x.restore(2));
        due("it stays there", x.count(4), 2);
        due("things behind a refused restore", x.count(8), 0);
        x.hours(1);
        no("restore(1)", x.restore(1));
        due("things stay", x.count(8), 1);
        yes("hold(2) anew", x.hold(2));
        due("slots", x.count(10), 2);
    }
}
