/** The Terms, III and IV: what would be, and what was SEEN and SAID. */
final class AskEdges {
    private static final String SIX = "bank a;bank b;bank c;bank d;bank e;bank f;";
    private static final String THREE = "bank a;bank b;bank c;";
    private static final String SEVEN = "man g a a 0;man h a a 0;man i a a 0;man j a a 0;man k a a 0;man l a a 0;man m a a 0;";

    private final Sentences s;

    AskEdges(Sentences s) {
        this.s = s;
    }

    void run() {
        s.part("What would be (nothing happens)", "## Promise 1:");
        nothingHappens();
        behind();
        homeBy();
        allHome();
        odds();
        waiting();
        follow();
        ways();
        reach();
        row();
        orders();
        wishers();
        arcs();
        needs();
        gains();
        rests();
        prices();
        seen();
        fits();
        sure();
        said();
    }

    /** What can be told of how it stands, without asking what would be. */
    private static String picture(WishBridges x) {
        StringBuilder out = new StringBuilder();
        for (int w = 0; w < 13; w++) {
            out.append(x.count(w)).append(' ');
        }
        for (int i = 0; i < 7; i++) {
            for (int w = 0; w < 6; w++) {
                out.append(x.man(i, w)).append(' ').append(x.bridge(i, w)).append(' ');
            }
            out.append(x.bank(i)).append(' ');
        }
        return out.append(x.homes()).append(' ').append(x.place()).toString();
    }

    private void nothingHappens() {
        s.of("What would be (nothing happens).");
        WishBridges x = Check.told(SIX + "path a b 3;bridge x a b;bridge y a;man k a b 9;man l a c 9;man m a b 9;man n b a 9;"
                + "goes=1;toll x=1;wishes k=2;dawn 3;pilgrims 40;");
        x.cross(2, 1);
        x.hire(0, 1);
        x.see(0, 1);
        x.say(0, 1);
        x.hold(0);
        String before = picture(x);
        int[] asked = {x.where(0, 300), x.last(0, 300), x.coins(300), x.homeBy(0), x.allHome(), x.odds(0, 300, 20),
            x.waiting(0, 0), x.follow(0, 0), x.way(0, 5, 0), x.reach(0, 99), x.orders(0, 3), x.orderAt(0, 3, 0),
            x.wishers(0, 3), x.wisherAt(0, 3, 0), x.rings(0, 3, 2), x.gain(0, 3, 1, 0), x.worth(0, 3, 1),
            x.rests(0, 3, -1), x.best(0, 3, true), x.prices(0, 3, 3, -1), x.wish(0, 0), x.toll(0, 0), x.fits(1),
            x.sure(1, 0), x.trust(1)};
        s.yes("all as it was behind " + asked.length + " calls", picture(x).equals(before));
        s.due("by the RULE now as ahead", x.where(0, 300), asked[0]);
        s.due("the SEED is the text's still", x.last(0, 300), asked[1]);
    }

    private void behind() {
        s.of("BEHIND n HOURS by the RULE (0 .. 300): where MEN are, what LAST is, COINS in all PURSES.");
        // He has the coins for it in the 4th HOUR; then in the 300th.
        WishBridges x = Check.told(THREE + "bridge x a b;man k a b 1;man l c c 20;toll x=4-waited;wishes k=2;");
        s.due("where, behind 0", x.where(0, 0), 0);
        s.due("where, behind 3", x.where(0, 3), 0);
        s.due("where, behind 4", x.where(0, 4), 1);
        s.due("where, behind 300", x.where(0, 300), 1);
        s.due("LAST, behind 3", x.last(0, 3), 1);
        s.due("LAST, behind 4", x.last(0, 4), 2);
        s.due("COINS, behind 0", x.coins(0), 21);
        s.due("COINS, behind 3", x.coins(3), 21);
        s.due("COINS, behind 4", x.coins(4), 20);
        WishBridges y = Check.told(THREE + "bridge x a b;man k a b 1;toll x=300-waited;wishes k=2;");
        s.due("where, behind 299", y.where(0, 299), 0);
        s.due("where, behind 300", y.where(0, 300), 1);
        s.due("LAST, behind 299", y.last(0, 299), 1);
        s.due("LAST, behind 300", y.last(0, 300), 2);
        s.due("COINS, behind 300", y.coins(300), 0);
        s.due("behind 301", y.where(0, 301), -1);
        // With all as it is now: who has crossed once goes again.
        WishBridges t = Check.told(THREE + "bridge x a c;path a c 1;man k a b 9;wishes k=1;goes=times;");
        s.due("never, if he has not crossed", t.where(0, 9), 0);
        t.cross(0, 0);
        t.walk(0, 0);
        t.hire(0, 2);
        s.due("at once, as he has", t.where(0, 1), 2);
        // From now on, not from the text's beginning.
        x.rule(3);
        s.due("where, behind 1 more", x.where(0, 1), 1);
    }

    private void homeBy() {
        s.of("HOME BY: behind how many a MAN is HOME for the first time;");
        String town = "bank a;bank b;bridge x a b;man k a b 0;man l b b 0;toll x=";
        s.due("HOME already", Check.told(town + "0;").homeBy(1), 0);
        s.due("behind 1", Check.told(town + "0;").homeBy(0), 1);
        s.due("behind 300", Check.told(town + "299-waited;").homeBy(0), 300);
        s.due("behind 301", Check.told(town + "300-waited;").homeBy(0), -2);
    }

    private void allHome() {
        s.of("ALL HOME: all are.");
        String town = "bank a;bank b;bridge x a b;man k a b 0;man l a b 0;man m b b 0;toll x=";
        WishBridges x = Check.told(town + "0;");
        s.due("the second one in the second HOUR", x.allHome(), 2);
        s.due("the first one by", x.homeBy(0), 1);
        x.rule(2);
        s.due("all are already", x.allHome(), 0);
        s.due("behind 300", Check.told(town + "if who<1 then 0 else 299-waited;").allHome(), 300);
        s.due("behind 301", Check.told(town + "if who<1 then 0 else 300-waited;").allHome(), -2);
        s.due("nobody is told", new WishBridges().allHome(), 0);
    }

    /** By the dawn of hour 1 LAST is his HOME with SEEDS 1, 2, 6, 10, 12, 13, 15, 17, 18, 19 of the first twenty. */
    private void odds() {
        s.of("ODDS: with how many of SEEDS, s (1 .. 20) from the text's SEED on, a MAN is HOME BEHIND n HOURS.");
        String town = "bank a;bank b;bridge x a;man k a b 0;dawn 1;seed ";
        WishBridges x = Check.told(town + "0;");
        int[] want = {0, 1, 2, 2, 2, 2, 3, 3, 3, 3, 4, 4, 5, 6, 6, 7, 7, 8, 9, 10};
        for (int n = 1; n <= 20; n++) {
            s.due("with " + n + " of them", x.odds(0, 2, n), want[n - 1]);
        }
        s.due("behind 1", x.odds(0, 1, 20), 0);
        s.due("behind 0", x.odds(0, 0, 20), 0);
        WishBridges y = Check.told(town + "9999;");
        s.due("from 9999 on, one", y.odds(0, 2, 1), 1);
        s.due("from 9999 on, three", y.odds(0, 2, 3), 2);
        s.due("from 9999 on, twenty", y.odds(0, 2, 20), 11);
        s.due("from 1 on, two", Check.told(town + "1;").odds(0, 2, 2), 2);
        String plain = "bank a;bank b;bridge x a;man k a b 0;";
        // By the dawn of hour 24 with SEEDS 0, 3; by pilgrims of hour 1 with SEEDS 0, 5.
        int[] dawns = {1, 1, 1, 2};
        WishBridges d = Check.told(plain + "dawn 0;");
        for (int n = 1; n <= 4; n++) {
            s.due("by DAWN 0 with " + n, d.odds(0, 25, n), dawns[n - 1]);
            s.due("ahead of DAWN 0 with " + n, d.odds(0, 24, n), 0);
        }
        int[] all = {1, 1, 1, 1, 1, 2};
        int[] few = {1, 2, 2, 2, 3, 4};
        WishBridges p = Check.told(plain + "pilgrims 100;");
        WishBridges q = Check.told(plain + "pilgrims 1;");
        for (int n = 1; n <= 6; n++) {
            s.due("by PILGRIMS 100 with " + n, p.odds(0, 2, n), all[n - 1]);
            s.due("by PILGRIMS 1 with " + n, q.odds(0, 300, n), few[n - 1]);
        }
        s.due("by PILGRIMS 1 behind 91", q.odds(0, 91, 1), 0);
        s.due("by PILGRIMS 1 behind 92", q.odds(0, 92, 1), 1);
        WishBridges z = Check.told("bank a;bank b;bridge x a b;man k a b 0;man l a a 0;seed 4;");
        s.due("without LOTS all alike", z.odds(0, 1, 20), 20);
        s.due("without LOTS none", z.odds(0, 0, 20), 0);
        s.due("HOME already", z.odds(1, 300, 7), 7);
    }

    private void waiting() {
        s.of("WAITING of a MAN at a BRIDGE at whose FOOT he is: behind how many HOURS by the RULE (0 .. 100; he does nothing, all "
                + "others go by it) he COULD cross it and LAST is his HOME, for the first time.");
        // By the RULE k would go at once; but he waits until l, who may, has wished.
        WishBridges x = Check.told(THREE + "bridge x a c;man k a b 0;man l a c 0;man m b a 0;wishes l=1;goes=1;");
        s.due("k waits for l", x.waiting(0, 0), 1);
        s.due("l does not wait", x.waiting(1, 0), 0);
        s.due("m is not at its FOOT", x.waiting(2, 0), -2);
        // l in the 100th, in the 101st HOUR.
        String late = THREE + "bridge x a a;man k a b 0;man l a c 0;wishes l=1;goes=waited/";
        s.due("behind 100", Check.told(late + "99;").waiting(0, 0), 100);
        s.due("behind 101", Check.told(late + "100;").waiting(0, 0), -2);
        // It is his HOME all the time, but dear until hour 23.
        String dear = "bank a;bank b;bridge x a b;man k a b ";
        s.due("when he COULD", Check.told(dear + "4;toll x=27-hour;").waiting(0, 0), 23);
        s.due("he never COULD", Check.told(dear + "4;toll x=5;").waiting(0, 0), -2);
        s.due("at once", Check.told(dear + "5;toll x=5;").waiting(0, 0), 0);
        s.due("without LAST, nobody else", Check.told("bank a;bank b;bridge x a;man k a b 0;").waiting(0, 0), -2);
        // By LOTS of the dawns y leads to BANK 1 from hour 23 on, to BANK 5 from hour 47 on.
        WishBridges d = Check.told(SIX + "bridge x a;bridge y a;man k a b 0;man l a f 0;dawn 23;");
        s.due("for the first dawn", d.waiting(0, 1), 23);
        s.due("for the second dawn", d.waiting(1, 1), 47);
        // LAST is his HOME behind 1, another one behind 2, his HOME behind 3.
        WishBridges f = Check.told(THREE + "bridge x a c;man k a b 0;man l a c 0;man m a b 0;man n a c 0;wishes l=1;wishes m=2;"
                + "wishes n=1;");
        s.due("for the first time", f.waiting(0, 0), 1);
        // k is ON x, l brings him to its FOOT and wishes his HOME: but he is not there now.
        WishBridges on = Check.told("bank a;bank b;bank c;bridge x a;man k a b 0;man l a c 0;wishes k=0;wishes l=1;goes=1;");
        on.cross(0, 0);
        s.due("who is ON it, though he comes to its FOOT", on.waiting(0, 0), -2);
        on.rule(1);
        s.due("who has come to its FOOT", on.waiting(0, 0), 0);
        // He is HOME already, at the FOOT.
        s.due("at HOME", Check.told("bank a;bridge x a a;man k a a 0;").waiting(0, 0), 0);
    }

    private void follow() {
        s.of("FOLLOW: whom of the others who COULD cross it now he would best follow: whose WISH on it now is his HOME; the "
                + "first one.");
        String town = THREE + "bridge x a c;bridge y b;man k a b 0;man l a c 5;man m a b 5;man n a b 9;man o c b 9;man p b b 9;";
        WishBridges x = Check.told(town);
        s.due("k: the first of those who wish b", x.follow(0, 0), 2);
        s.due("m: not himself, k ahead of him", x.follow(2, 0), 0);
        s.due("l: nobody wishes c", x.follow(1, 0), -2);
        WishBridges y = Check.told(town + "toll x=6;");
        s.due("k: not m, who COULD not", y.follow(0, 0), 3);
        s.due("he himself need not", y.follow(1, 0), -2);
        WishBridges z = Check.told(town + "toll x=10;");
        s.due("nobody COULD", z.follow(0, 0), -2);
        WishBridges w = Check.told(town + "wishes l=if last<2 then 2 else 1;wishes m=0-1;wishes n=0;");
        s.due("by the WISH on it now", w.follow(0, 0), 1);
        w.hire(0, 0);
        s.due("by another WISH", w.follow(0, 0), -2);
        s.due("who is not at its FOOT", x.follow(4, 0), -2);
        s.due("who is at its FOOT alone", x.follow(5, 1), -2);
    }

    private void way(String town, int bank, int hours, int crossings) {
        WishBridges x = Check.told(town + "man k a a 0;man l b a 0;");
        s.due("hours to " + bank + " in " + town, x.way(0, bank, 0), hours);
        s.due("crossings to " + bank + " in " + town, x.way(0, bank, 1), crossings);
    }

    private void ways() {
        s.of("WAYS of a MAN to a BANK, he alone moving, wishing what he likes (some BANK) each time that he crosses,");
        way(THREE + "bridge x a a;", 0, 0, 0);
        way(THREE + "bridge x a a;", 2, 2, 2);
        way(THREE + "bridge x a b;", 1, 1, 1);
        way(THREE + "bridge x a b;", 2, -2, -2);
        way(THREE + "bridge x a b;path a b 9;", 2, 11, 2);
        way(THREE + "bridge x a b;bridge y b a;", 2, 3, 3);
        way(SIX + "bridge x a b;bridge y b c;bridge z c d;", 3, 3, 3);
        // Over x, wishing f, over y and z to a again, over x to f.
        way(SIX + "bridge x a b;bridge y b c;bridge z c a;", 5, 4, 4);
        // Over x, wishing e, back by the path, over x again.
        way(SIX + "bridge x a b;path b a 1;", 4, 3, 2);
        WishBridges first = Check.told(THREE + "bridge x b b;man k b a 0;");
        s.due("to the first BANK, hours", first.way(0, 0, 0), 2);
        s.due("to the first BANK, crossings", first.way(0, 0, 1), 2);
        way(SIX + "bridge w a b;bridge x b c;bridge y c d;bridge z d a;", 5, 5, 5);
        s.of("BRIDGES without LAST left out, TOLLS, DAWN, PILGRIMS not looked at:");
        way(THREE + "bridge x a;", 1, -2, -2);
        way(THREE + "bridge x a;bridge y a a;", 1, 2, 2);
        way(THREE + "bridge x a b;toll x=99;dawn 1;pilgrims 100;", 1, 1, 1);
        way(THREE + "bridge x a a;toll x=99;dawn 1;pilgrims 100;", 2, 2, 2);
        WishBridges h = Check.told(THREE + "bridge x a;man k a a 0;");
        h.hire(0, 1);
        s.due("LAST as it is now", h.way(0, 1, 0), 1);
        s.of("the fewest HOURS (a crossing is one); of alike ones the fewest crossings.");
        way(THREE + "path a b 9;path b c 9;", 2, 18, 0);
        way(THREE + "path a b 9;path b c 9;path a c 4;path c a 5;", 2, 4, 0);
        way(THREE + "bridge x a a;path a c 3;", 2, 2, 2);
        way(THREE + "bridge x a a;path a c 2;", 2, 2, 0);
        way(THREE + "bridge x a a;path a c 1;", 2, 1, 0);
        way(THREE + "bridge x a b;path a b 1;path b c 1;", 2, 2, 0);
        way(THREE + "bridge x a b;path a b 2;path b c 1;", 2, 2, 1);
        way(SIX + "path a b 9;path b c 9;path c d 9;path d e 9;path e f 9;", 5, 45, 0);
        way(SIX + "path a b 9;path b c 9;path c d 9;path d e 9;bridge x e a;", 5, 74, 2);
        way(SIX + "path b a 9;path c b 9;path d c 9;path e d 9;bridge x e d;", 5, 47, 2);
        // By the first BANK, which is nearer than the last one.
        WishBridges through = Check.told("bank a;bank b;bank c;bank d;path b a 1;path a c 1;path b c 9;path c d 1;man k b a 0;");
        s.due("hours by the first BANK", through.way(0, 3, 0), 3);
        s.due("hours to the first BANK", through.way(0, 0, 0), 1);
    }

    private void reach() {
        s.of("REACH: to which BANKS within n HOURS (0 .. 99).");
        WishBridges x = Check.told(SIX + "path a b 9;path b c 9;path c d 9;path d e 9;bridge x e a;man k a a 0;");
        s.due("within 0", x.reach(0, 0), 1);
        s.due("within 8", x.reach(0, 8), 1);
        s.due("within 9", x.reach(0, 9), 3);
        s.due("within 35", x.reach(0, 35), 15);
        s.due("within 36", x.reach(0, 36), 31);
        s.due("within 73", x.reach(0, 73), 31);
        s.due("within 74", x.reach(0, 74), 63);
        s.due("within 99", x.reach(0, 99), 63);
        s.due("within 100", x.reach(0, 100), -1);
        s.due("what no way leads to", Check.told("bank a;bank b;man k a a 0;").reach(0, 99), 1);
        s.due("not the first BANK", Check.told("bank a;bank b;man k b a 0;").reach(0, 99), 2);
    }

    private void row() {
        s.of("A ROW of a BRIDGE and a set of MEN, all of them at its FOOT's BANK: each crosses once, one after the other, an HOUR "
                + "each, TOLLS, DAWN, PILGRIMS not looked at.");
        String two = THREE + "bridge x a b;man k a b 0;man l a c 0;";
        // k leaves c from hour 5 on, l crosses an HOUR behind him.
        WishBridges x = Check.told(two + "man m a b 0;wishes k=if hour<5 then 0 else 2;wishes l=if hour<6 then 0 else 1;");
        x.hours(4);
        s.due("k at hour 4", x.orders(0, 3), 0);
        s.due("m at hour 4, k at 5, l at 6", x.orders(0, 7), 1);
        s.due("m is the first one", x.orderAt(0, 7, 0), 2);
        x.hours(1);
        s.due("k at hour 5", x.orders(0, 3), 1);
        s.due("l at hour 6, m behind him or ahead of k", x.orders(0, 7), 2);
        s.due("k is the first one", x.orderAt(0, 7, 0), 0);
        x.hours(17);
        s.due("k at hour 22, l at 23", x.orders(0, 7), 2);
        x.hours(1);
        s.due("k at hour 23, l at 0", x.orders(0, 7), 0);
        // No coins, no dawn, no pilgrims.
        s.due("TOLLS are not looked at", Check.told(two + "wishes k=2;toll x=99;").orders(0, 3), 1);
        s.due("DAWN and PILGRIMS are not", Check.told(two + "wishes k=2;dawn 1;pilgrims 100;").orders(0, 3), 1);
        s.due("PURSE is as it is", Check.told(two.replace("b 0;", "b 2;") + "wishes k=purse;toll x=2;").orders(0, 3), 1);
        WishBridges w = Check.told(two + "toll x=99;wishes k=if waited<2 then 0 else 2;");
        s.due("waited is as it is", w.orders(0, 3), 0);
        w.rule(2);
        s.due("waited is as it is then", w.orders(0, 3), 1);
        // Who is ON it, and not of the set, is of no account.
        WishBridges y = Check.told("bank a;bank b;bank c;bridge x a;man k a b 0;man l a b 0;man m a c 0;wishes m=0-1;");
        y.cross(2, 0);
        s.due("the two others", y.orders(0, 3), 2);
        s.due("all three are not there", y.orders(0, 7), -2);
        // At HOME at the FOOT he crosses, too.
        WishBridges z = Check.told("bank a;bank b;bridge x a b;man k a a 0;man l a b 0;wishes l=0;");
        s.due("who is HOME crosses, too", z.orders(0, 1), 0);
        s.due("and comes HOME again", z.orders(0, 3), 1);
    }

    private void orders() {
        s.of("ORDERS: by how many ROWS all come HOME; the first one (by numbers, the first place first).");
        WishBridges x = Check.told(THREE + "bridge x a b;man k a b 0;man l a c 0;man m a b 0;wishes k=2;wishes l=1;");
        // k l m and m k l.
        s.due("of all three", x.orders(0, 7), 2);
        orderIs(x, 7, 0, 1, 2);
        s.due("of k and l", x.orders(0, 3), 1);
        orderIs(x, 3, 0, 1);
        s.due("of k and m", x.orders(0, 5), 1);
        orderIs(x, 5, 2, 0);
        s.due("of l and m", x.orders(0, 6), 0);
        s.due("of l", x.orders(0, 2), 0);
        s.due("of m", x.orders(0, 4), 1);
        orderIs(x, 4, 2);
        WishBridges y = Check.told("bank a;bridge x a a;" + SEVEN);
        s.due("of seven", y.orders(0, 127), 5040);
        orderIs(y, 127, 0, 1, 2, 3, 4, 5, 6);
        s.due("of six", y.orders(0, 126), 720);
        orderIs(y, 126, 1, 2, 3, 4, 5, 6);
        // Who wishes nothing leaves LAST as it is.
        WishBridges n = Check.told(THREE + "bridge x a b;man k a b 0;man l a b 0;wishes k=0-1;wishes l=2;");
        s.due("nothing is wished", n.orders(0, 3), 1);
        orderIs(n, 3, 0, 1);
        // Without LAST the first one comes HOME with the second one.
        WishBridges w = Check.told(THREE + "bridge x a;man k a b 0;man l a b 0;man m a c 0;wishes l=0-1;");
        s.due("without LAST", w.orders(0, 3), 1);
        orderIs(w, 3, 0, 1);
        s.due("without LAST, alone", w.orders(0, 1), 0);
        s.due("without LAST, not alike", w.orders(0, 5), 0);
        WishBridges stay = Check.told(THREE + "bridge x a;man k a b 0;man l a b 0;wishes k=0-1;wishes l=0-1;");
        s.due("who came ON it last stays there", stay.orders(0, 3), 0);
        s.due("there is no first one", stay.orderAt(0, 3, 0), -2);
        // k, who wishes nothing, comes HOME behind l; l behind k would stay ON it.
        WishBridges turn = Check.told(THREE + "bridge x a;man k a b 0;man l a b 0;wishes k=0-1;");
        s.due("who must not be the last one", turn.orders(0, 3), 1);
        orderIs(turn, 3, 1, 0);
        wisherRowIs(turn, 3, 0, 1, 0);
        s.due("nobody comes to the last BANK", Check.told(SIX + "bridge x a a;man k a f 0;man l a f 0;").orders(0, 3), 0);
        // m comes along to b with k, and is not HOME there.
        WishBridges along = Check.told(THREE + "bridge x a;man k a b 0;man m a c 0;wishes m=1;");
        s.due("who comes along elsewhere", along.orders(0, 3), 0);
        s.due("who comes along elsewhere, the first one", along.orderAt(0, 3, 0), -2);
        // m, the last of seven, comes along to b.
        WishBridges sixth = Check.told(THREE + "bridge x a;" + SEVEN.replace("l a a", "l a b").replace("m a a", "m a c") + "wishes m=1;"
                + "wishes l=2;");
        s.due("the last of seven comes along elsewhere", sixth.orders(0, 96), 0);
        s.due("the last of seven alone", sixth.orders(0, 64), 0);
        // From the first BANK to the last one and back: e leaves f by LAST 0, l leaves a by LAST 5.
        WishBridges far = Check.told(SIX + "bridge x c a;man k c a 0;man l c f 0;man m c a 0;man n c f 0;wishes k=last+5;"
                + "wishes l=5-last;wishes m=last+5;wishes n=5-last;");
        s.due("by the first and the last BANK", far.orders(0, 15), 4);
        orderIs(far, 15, 0, 1, 2, 3);
        s.due("by the first and the last BANK, three", far.orders(0, 13), 2);
        orderIs(far, 13, 0, 3, 2);
    }

    private void orderIs(WishBridges x, int set, int... want) {
        for (int i = 0; i < want.length; i++) {
            s.due("place " + i + " of the first order of " + set, x.orderAt(0, set, i), want[i]);
        }
        s.due("no more places", x.orderAt(0, set, want.length), -1);
    }

    private void wisherRowIs(WishBridges x, int set, int fewest, int... want) {
        s.due("wishers of " + set, x.wishers(0, set), fewest);
        for (int i = 0; i < want.length; i++) {
            s.due("place " + i + " of the row of " + set, x.wisherAt(0, set, i), want[i]);
        }
        s.due("no more places", x.wisherAt(0, set, want.length), -1);
    }

    private void wishers() {
        s.of("WISHERS: one may be HIRED ahead of each crossing, who wishes what is that MAN's HOME (an HOUR, too):");
        WishBridges x = Check.told(THREE + "bridge x a a;man k a b 0;man l a c 0;wishes k=if hour<1 then 0 else 2;");
        wisherRowIs(x, 1, 1, 100);
        wisherRowIs(x, 2, 1, 101);
        // The wisher takes hour 0, k crosses in hour 1.
        wisherRowIs(x, 3, 1, 100, 1);
        // Two of them take two HOURS: only in hour 3 does l leave b.
        WishBridges y = Check.told(THREE + "bridge x a a;man k a b 0;man l a c 0;man m a b 0;wishes k=0;wishes l=if hour<3 then 0 "
                + "else if hour<4 then 1 else 0;wishes m=0;");
        wisherRowIs(y, 7, 2, 100, 101, 2);
        // l goes without one, in hour 2, and leaves b for m.
        WishBridges v = Check.told(THREE + "bridge x a a;man k a b 0;man l a c 0;man m a b 0;wishes k=2;wishes l=if hour<2 then 0 "
                + "else if hour<3 then 1 else 0;wishes m=0;");
        wisherRowIs(v, 7, 1, 100, 1, 2);
        s.due("asked at once", Check.told(THREE + "bridge x a a;man k a b 0;man l a c 0;wishes k=if hour<1 then 0 else 2;")
                .wisherAt(0, 3, 0), 100);
        // The sixth one of seven crosses in hour 11 and leaves b.
        String sixth = "bank a;bank b;bridge x a a;" + SEVEN.replace(" a a ", " a b ");
        for (char m = 'g'; m <= 'm'; m++) {
            sixth += "wishes " + m + "=if hour<11 then 0 else if hour<12 then 1 else 0;";
        }
        wisherRowIs(Check.told(sixth), 127, 6, 100, 101, 102, 103, 104, 105, 6);
        s.due("the last of seven, asked at once", Check.told(sixth).wisherAt(0, 127, 6), 6);
        WishBridges no = Check.told("bank a;bank b;bridge x a;man k a b 0;man l a b 0;");
        s.due("without LAST, alone", no.wishers(0, 1), 1);
        wisherRowIs(no, 3, 0, 0, 1);
        s.due("nothing wished, without LAST", Check.told("bank a;bank b;bridge x a;man k a b 0;man l a b 0;wishes k=0-1;"
                + "wishes l=0-1;").wishers(0, 3), 1);
        s.due("not alike, without LAST", Check.told(THREE + "bridge x a;man k a b 0;man l a c 0;").wishers(0, 3), 2);
        // Nobody crosses twice: k leaves b in hour 0; from hour 1 on he would leave c.
        s.due("each once", Check.told(THREE + "bridge x a b;man k a b 0;man l a c 0;wishes k=if hour<1 then 1 else 2;")
                .wishers(0, 3), 1);
        s.of("the fewest, so that all come HOME;");
        // l leaves b for k, whoever else comes needs one: k first would need three.
        wisherRowIs(Check.told("bank a;bank b;bank c;bank d;bridge x a a;man k a b 0;man l a c 0;man m a d 0;wishes k=0;wishes l=1;"
                + "wishes m=0;"), 7, 2, 101, 0, 102);
        WishBridges z = Check.told(THREE + "bridge x a c;man k a b 0;man l a c 0;");
        wisherRowIs(z, 2, 0, 1);
        wisherRowIs(z, 1, 1, 100);
        // k l: both are HIRED for; l k: one.
        wisherRowIs(z, 3, 1, 1, 100);
        // Asked again when LAST is another one.
        s.due("of both, LAST c", z.wishers(0, 3), 1);
        z.hire(0, 0);
        s.due("of both, LAST a", z.wishers(0, 3), 2);
        s.due("of both, LAST a, again", z.wishers(0, 3), 2);
        WishBridges all = Check.told("bank a;bank b;bridge x a a;" + SEVEN.replace(" a a ", " a b ") + "wishes g=0;wishes h=0;"
                + "wishes i=0;wishes j=0;wishes k=0;wishes l=0;wishes m=0;");
        wisherRowIs(all, 127, 7, 100, 101, 102, 103, 104, 105, 106);
        s.of("of alike ones the first ROW by numbers.");
        WishBridges t = Check.told(THREE + "bridge x a a;man k a b 0;man l a b 0;man m a b 0;");
        wisherRowIs(t, 7, 1, 100, 1, 2);
        wisherRowIs(t, 6, 1, 101, 2);
        // m must come first, then k ahead of l.
        WishBridges u = Check.told(THREE + "bridge x a c;man k a b 0;man l a b 0;man m a c 0;");
        wisherRowIs(u, 7, 1, 2, 100, 1);
    }

    private static final String FIVE = "bank a;bank b;bank c;bank d;bank e;bridge x a";

    private void rings(String what, String town, int set, int... want) {
        WishBridges x = Check.told(town);
        for (int w = 0; w < want.length; w++) {
            s.due(what + ": what " + w, x.rings(0, set, w), want[w]);
        }
    }

    private void arcs() {
        s.of("RINGS: by what each of the set would WISH on it now (his own HOME, if nothing) an arc goes from his HOME to that: "
                + "PARTS: groups of BANKS with arcs that these join;");
        String men = ";man k a b 0;man l a c 0;man m a d 0;man n a e 0;";
        rings("each for himself", FIVE + men, 15, 4, 4, 4);
        rings("one for himself", FIVE + men, 1, 1, 1, 1);
        rings("nothing wished", FIVE + men + "wishes k=0-1;", 1, 1, 1, 1);
        rings("two by two", FIVE + men + "wishes k=2;wishes l=1;wishes m=4;wishes n=3;", 15, 2, 2, 2);
        rings("all round", FIVE + men + "wishes k=2;wishes l=3;wishes m=4;wishes n=1;", 15, 1, 1, 1);
        rings("a chain", FIVE + men + "wishes k=2;wishes l=3;wishes m=4;wishes n=0;", 15, 1, 0, 1);
        rings("joined at one BANK", FIVE + men + "wishes k=0;wishes l=0;wishes m=0;wishes n=0;", 15, 1, 0, 4);
        // Arcs against one another's way join, too.
        rings("joined by their ends", FIVE + men + "wishes k=2;wishes m=2;", 5, 1, 0, 2);
        rings("to a BANK where nobody has his HOME", FIVE + men + "wishes k=0;", 1, 1, 0, 1);
        rings("not of the set", FIVE + men + "wishes k=2;wishes l=1;", 1, 1, 0, 1);
        rings("at the first BANK", FIVE + ";man k a a 0;man l a b 0;", 3, 2, 2, 2);
        rings("from the first BANK", FIVE + ";man k a a 0;man l a a 0;wishes k=1;wishes l=2;", 3, 1, 0, 2);
        rings("at the first and the last BANK", SIX + "bridge x a;man k a a 0;man l a f 0;", 3, 2, 2, 2);
        rings("to the last BANK", SIX + "bridge x a;man k a e 0;wishes k=5;", 1, 1, 0, 1);
        rings("from the last BANK", SIX + "bridge x a;man k a f 0;man l a f 0;wishes k=0;wishes l=1;", 3, 1, 0, 2);
        rings("the last of seven", "bank a;bridge x a;" + SEVEN, 64, 1, 1, 1);
        WishBridges again = Check.told(FIVE + ";man k a a 0;man l a b 0;");
        for (int i = 0; i < 2; i++) {
            s.due("asked again: of k", again.rings(0, 1, 0), 1);
            s.due("asked again: of l", again.rings(0, 2, 0), 1);
            s.due("asked again: NEEDS of l", again.rings(0, 2, 2), 1);
        }
        s.of("EVEN: those in which as many arcs go out of each BANK as come in;");
        rings("one of two", FIVE + men + "wishes k=2;wishes l=1;wishes m=4;", 7, 2, 1, 2);
        rings("none", FIVE + men + "wishes k=0;wishes l=0;", 3, 1, 0, 2);
        rings("by LAST now", FIVE + " c" + men + "wishes k=last;wishes l=1;", 3, 1, 1, 0);
        WishBridges h = Check.told(FIVE + men + "wishes k=1+hour;wishes l=1;");
        s.due("by the hour now", h.rings(0, 3, 1), 0);
        h.hours(1);
        s.due("by the hour then", h.rings(0, 3, 1), 1);
        s.due("one ring then", h.rings(0, 3, 0), 1);
    }

    private void needs() {
        s.of("NEEDS: for each PART 1, or how many more go out than come in at BANKS where more go out, together, if that is more; "
                + "of all PARTS together;");
        String men = ";man k a b 0;man l a b 0;man m a b 0;man n a c 0;man o a d 0;";
        rings("an EVEN one is 1", FIVE + men, 1, 1, 1, 1);
        rings("three alike", FIVE + men, 7, 1, 1, 1);
        rings("one more goes out", FIVE + men + "wishes k=2;", 3, 1, 0, 1);
        rings("two more go out", FIVE + men + "wishes k=2;wishes l=3;", 3, 1, 0, 2);
        rings("three more go out", FIVE + men + "wishes k=2;wishes l=2;wishes m=0;", 7, 1, 0, 3);
        rings("two at one BANK, one at another", FIVE + men + "wishes k=0;wishes l=0;wishes n=0;", 11, 1, 0, 3);
        rings("what comes in makes it less", FIVE + men + "wishes k=2;wishes l=2;wishes n=1;", 11, 1, 0, 1);
        rings("two PARTS", FIVE + men + "wishes k=2;wishes l=2;", 19, 2, 1, 3);
        s.of("1 less if LAST is a BANK in some PART that is EVEN, or one where more go out.");
        rings("LAST in the EVEN one", FIVE + " d" + men + "wishes k=2;wishes l=2;", 19, 2, 1, 2);
        rings("LAST where more go out", FIVE + " b" + men + "wishes k=2;wishes l=2;", 19, 2, 1, 2);
        rings("LAST where more come in", FIVE + " c" + men + "wishes k=2;wishes l=2;", 19, 2, 1, 3);
        rings("LAST in no PART", FIVE + " e" + men + "wishes k=2;wishes l=2;", 19, 2, 1, 3);
        rings("LAST where as many come as go, not EVEN", FIVE + " c" + men + "wishes k=2;wishes n=3;", 9, 1, 0, 1);
        rings("1 less than 1", FIVE + " b" + men, 1, 1, 1, 0);
        rings("LAST the first BANK, EVEN", FIVE + " a;man k a a 0;", 1, 1, 1, 0);
        rings("LAST the first BANK, more go out", FIVE + " a;man k a a 0;man l a a 0;wishes k=1;wishes l=1;", 3, 1, 0, 1);
        rings("LAST the first BANK, in no PART", FIVE + " a;man k a b 0;", 1, 1, 1, 1);
        rings("LAST in an EVEN ring", FIVE + " c" + men + "wishes k=2;wishes n=1;", 9, 1, 1, 0);
    }

    private static final String PAIR = THREE + "bridge x a c;man k a b 0;man l a c 0;";

    private void gains() {
        s.of("EARLY AND LATE: some of the set cross LATE, behind the others, within each by numbers: GAINS in such a ROW;");
        WishBridges x = Check.told("bank a;bridge x a;man k a a 0;man l a a 0;man m a a 0;man n a a 0;gain=waited;");
        int[][] ahead = {{0, 1, 2, 3}, {3, 0, 1, 2}, {0, 3, 1, 2}, {2, 3, 0, 1}, {0, 1, 3, 2}, {2, 0, 3, 1}, {0, 2, 3, 1},
            {1, 2, 3, 0}, {0, 1, 2, 3}, {2, 0, 1, 3}, {0, 2, 1, 3}, {1, 2, 0, 3}, {0, 1, 2, 3}, {1, 0, 2, 3}, {0, 1, 2, 3},
            {0, 1, 2, 3}};
        for (int late = 0; late < 16; late++) {
            for (int m = 0; m < 4; m++) {
                s.due("MAN " + m + ", LATE " + late, x.gain(0, 15, late, m), ahead[late][m]);
            }
        }
        // l comes HOME and leaves b, k comes HOME: if k is LATE.
        WishBridges y = Check.told(PAIR + "wishes l=1;");
        s.due("k ahead", y.gain(0, 3, 0, 0), 0);
        s.due("l behind", y.gain(0, 3, 0, 1), -1);
        s.due("k behind", y.gain(0, 3, 1, 0), 19);
        s.due("l ahead", y.gain(0, 3, 1, 1), 20);
        WishBridges on = Check.told("bank a;bank b;bridge x a;man k a b 0;man l a b 0;man m a a 0;wishes m=0-1;");
        s.due("ON it, then HOME with the next one", on.gain(0, 3, 0, 0), 20);
        s.due("ON it", on.gain(0, 1, 0, 0), 0);
        s.due("ON it, then elsewhere", on.gain(0, 5, 1, 2), 0);
        WishBridges nothing = Check.told(THREE + "bridge x a b;man k a b 0;man l a b 0;wishes k=0-1;");
        s.due("behind one who wished nothing", nothing.gain(0, 3, 0, 1), 19);
        s.due("LATE behind one who wished b", nothing.gain(0, 3, 1, 0), 19);
        // l comes HOME ahead of k and leaves c: k, who is LATE, does not, though he was ON y in the ROW asked ahead.
        WishBridges twice = Check.told(THREE + "bridge x a b;bridge y a;man k a b 0;man l a b 0;wishes l=2;");
        s.due("ON y", twice.gain(1, 1, 0, 0), 0);
        s.due("LATE to c", twice.gain(0, 3, 1, 0), -1);
        s.due("l ahead", twice.gain(0, 3, 1, 1), 20);
        // Each crosses an HOUR behind the one ahead: 22, 23, 0.
        WishBridges h = Check.told("bank a;bridge x a;man k a a 0;man l a a 0;man m a a 0;gain=hour;");
        h.hours(22);
        s.due("hour of the first", h.gain(0, 7, 0, 0), 22);
        s.due("hour of the second", h.gain(0, 7, 0, 1), 23);
        s.due("hour of the third", h.gain(0, 7, 0, 2), 0);
        s.due("hour of a LATE one", h.gain(0, 7, 1, 0), 0);
        s.of("WORTH: all of them together;");
        s.due("none LATE", y.worth(0, 3, 0), -1);
        s.due("k LATE", y.worth(0, 3, 1), 39);
        s.due("one alone", y.worth(0, 2, 0), 20);
        s.due("seven", Check.told("bank a;bridge x a;" + SEVEN + "gain=200;").worth(0, 127, 0), 693);
        s.due("seven below 0", Check.told("bank a;bridge x a;" + SEVEN + "gain=0-200;").worth(0, 127, 127), -693);
    }

    private void rests() {
        s.of("RESTS: sets of LATE ones with which no one by himself, doing the other thing, had a greater GAIN;");
        // As reckoned by hand: from none k goes LATE, from both l goes early.
        WishBridges x = Check.told(PAIR + "wishes l=1;");
        s.due("how many", x.rests(0, 3, -1), 2);
        s.due("k LATE", x.rests(0, 3, 0), 1);
        s.due("l LATE", x.rests(0, 3, 1), 2);
        // As great a GAIN is not a greater one.
        WishBridges y = Check.told(PAIR + "gain=7;");
        s.due("all alike", y.rests(0, 3, -1), 4);
        for (int i = 0; i < 4; i++) {
            s.due("the least first", y.rests(0, 3, i), i);
        }
        s.due("of l alone", y.rests(0, 2, -1), 2);
        s.due("of l alone, LATE", y.rests(0, 2, 1), 2);
        WishBridges none = Check.told(THREE + "bridge x a b;man k a a 0;man l a b 0;man m a c 0;man n a b 0;wishes k=2;wishes m=0;");
        s.due("nothing RESTS", none.rests(0, 15, -1), 0);
        s.due("of one alone, none of the first one", Check.told(PAIR + "gain=0-5;").best(0, 2, false), -5);
        s.of("BEST: the most WORTH of any set;");
        s.due("of k and l", x.best(0, 3, false), 39);
        s.due("though nothing RESTS", none.best(0, 15, false), 54);
        s.due("below 0", Check.told(PAIR + "gain=0-5-waited;").best(0, 3, false), -11);
        s.due("of one alone", x.best(0, 2, false), 20);
        s.of("COST: BEST less the least WORTH of RESTS.");
        s.due("of k and l", x.best(0, 3, true), 40);
        s.due("all alike", y.best(0, 3, true), 0);
        s.due("nothing RESTS", none.best(0, 15, true), -1000);
        // k likes to be first, l second: k LATE, which is worth 0, does not rest.
        WishBridges good = Check.told(PAIR + "gain=if who<1 then 5-waited*5 else waited*5;");
        s.due("three of four rest", good.rests(0, 3, -1), 3);
        s.due("all of them are worth 10", good.best(0, 3, true), 0);
        // By GAINS 0 5 5 of k and 0 5 3 of m in their places k LATE rests, worth 10, and all LATE, worth 3.
        String three = "bank a;bridge x a;man k a a 0;man l a a 0;man m a a 0;gain=";
        WishBridges late = Check.told(three + "if who<1 then (waited+1)/2*5 else if who<2 then 0 else if waited<1 then 0 else "
                + "if waited<2 then 5 else 3;");
        s.due("two rest", late.rests(0, 7, -1), 2);
        s.due("k LATE", late.rests(0, 7, 0), 1);
        s.due("all LATE", late.rests(0, 7, 1), 7);
        s.due("10 less 3", late.best(0, 7, true), 7);
        // By GAINS 0 5 0 of k and 5 5 0 of m: none LATE, worth 0; k, worth 5; k and l, worth 10.
        WishBridges early = Check.told(three + "if who<1 then waited*(2-waited)*5 else if who<2 then 0 else if waited<2 then 5 else 0;");
        s.due("three rest", early.rests(0, 7, -1), 3);
        s.due("none LATE", early.rests(0, 7, 0), 0);
        s.due("k LATE", early.rests(0, 7, 1), 1);
        s.due("k and l LATE", early.rests(0, 7, 2), 3);
        s.due("10 less 0", early.best(0, 7, true), 10);
    }

    private void pricesAre(WishBridges x, int set, int m, int... want) {
        int sum = 0;
        for (int b = 0; b < want.length; b++) {
            s.due("price of BANK " + b + " by " + m, x.prices(0, set, m, b), want[b]);
            sum += want[b];
        }
        s.due("sum by " + m, x.prices(0, set, m, -1), sum);
    }

    private void prices() {
        s.of("PRICES: for each BANK 0 .. m (m 0 .. 3):");
        String town = THREE + "bridge x a b;man k a b 0;man l a c 0;man m a b 0;";
        WishBridges x = Check.told(town + "fancy=2-last;");
        pricesAre(x, 3, 3, 3, 2, 0);
        s.due("not by 2", x.prices(0, 3, 2, -1), -2);
        WishBridges y = Check.told(town + "fancy=1-last/2;");
        pricesAre(y, 3, 2, 2, 2, 0);
        pricesAre(y, 3, 3, 2, 2, 0);
        s.due("not by 1", y.prices(0, 3, 1, -1), -2);
        s.due("not by 0", y.prices(0, 3, 0, -1), -2);
        s.due("differences count", Check.told(town + "fancy=3-last;").prices(0, 3, 3, -1), 5);
        s.due("not by 3", Check.told(town + "fancy=(2-last)*2;").prices(0, 3, 3, -1), -2);
        s.of("each of the set, by numbers, leaves (instead of his WISH) the BANK with the most FANCY less its price (of alike ones "
                + "the first): so that in that ROW all come HOME:");
        WishBridges z = Check.told(town + "wishes k=2;");
        pricesAre(z, 3, 1, 1, 1, 0);
        s.due("not by his WISH", z.prices(0, 3, 0, -1), -2);
        WishBridges u = Check.told(town + "wishes k=0;fancy=if who<1 then last else if who<2 then 2-(last-1)*(last-1) else 0;");
        pricesAre(u, 7, 0, 0, 0, 0);
        // The first of alike ones: b ahead of c, but not ahead of a.
        pricesAre(Check.told(town), 5, 1, 1, 0, 0);
        pricesAre(Check.told(town), 1, 0, 0, 0, 0);
        s.due("who does not come HOME by LAST", Check.told(town).prices(0, 2, 3, -1), -2);
        s.due("k for l, l for m by the same prices", Check.told(town).prices(0, 7, 3, -1), -2);
        // l, an HOUR behind k, leaves b from hour 6 on.
        WishBridges h = Check.told(town + "fancy=if who<1 then last else if hour<6 then 0-last else 2-(last-1)*(last-1);");
        h.hours(4);
        s.due("l at hour 5", h.prices(0, 7, 0, -1), -2);
        h.hours(1);
        s.due("l at hour 6", h.prices(0, 7, 0, -1), 0);
        // To the first BANK: b and c are dearer to him.
        WishBridges first = Check.told(THREE + "bridge x a a;man k a a 0;man l a a 0;fancy=last;");
        pricesAre(first, 3, 3, 0, 1, 2);
        s.due("the first BANK by 1", first.prices(0, 3, 1, -1), -2);
        pricesAre(first, 1, 0, 0, 0, 0);
        s.due("not by LAST the first BANK", Check.told(THREE + "bridge x a a;man k a b 0;man l a b 0;").prices(0, 3, 3, -1), -2);
        String none = THREE + "bridge x a;man k a b 0;man l a b 0;man m a c 0;";
        pricesAre(Check.told(none), 3, 3, 1, 0, 0);
        s.due("without LAST, alone", Check.told(none).prices(0, 1, 3, -1), -2);
        s.due("without LAST, not alike", Check.told(none).prices(0, 5, 3, -1), -2);
        // The last of seven, who does not come HOME by LAST, though the first one would.
        WishBridges seventh = Check.told("bank a;bank b;bridge x a a;" + SEVEN.replace("m a a", "m a b"));
        s.due("the last of seven", seventh.prices(0, 64, 3, -1), -2);
        s.due("the first of seven", seventh.prices(0, 1, 3, -1), 0);
        s.of("the least sum; of alike ones the first by BANK 0's price, then the next one's.");
        pricesAre(Check.told(SIX + "bridge x a b;man k a b 0;man l a a 0;fancy=last/5;"), 3, 1, 0, 0, 0, 0, 0, 1);
        pricesAre(Check.told(town), 3, 3, 1, 1, 0);
        pricesAre(Check.told(town), 5, 3, 1, 0, 0);
        pricesAre(Check.told(SIX + "bridge x a b;man k a b 0;man l a f 0;fancy=last/5;"), 3, 3, 0, 0, 0, 0, 0, 0);
        pricesAre(Check.told(SIX + "bridge x a b;man k a b 0;man l a f 0;"), 3, 3, 1, 1, 1, 1, 1, 0);
        pricesAre(Check.told(SIX + "bridge x a b;man k a b 0;man l a f 0;fancy=2;"), 3, 1, 1, 1, 1, 1, 1, 0);
    }

    private static WishBridges watched() {
        WishBridges x = Check.told(THREE + "man k a a 0;man l a a 0;");
        x.see(0, 1);
        x.see(1, 2);
        x.see(0, 0);
        x.see(0, 1);
        return x;
    }

    private void seen() {
        s.of("SEEN: who crossed a BRIDGE next and to which BANK he came, 12 at most, in order, numbered from 0 on;");
        WishBridges x = Check.told(THREE + "man k a a 0;man l a a 0;");
        for (int i = 0; i < 12; i++) {
            s.due("see " + i, x.see(i % 2, 1), i);
        }
        s.due("a 13th", x.see(0, 1), -1);
        s.due("how many", x.count(9), 12);
        s.due("all twelve fit", x.fits(12), 1);
        s.due("what the last one but one wishes", x.sure(12, 0), 1);
        s.due("nobody moved", x.man(0, 0), 0);
        s.of("KNOWN by k: the first k.");
        WishBridges y = watched();
        s.due("by 0", y.fits(0), 27);
        s.due("by 1", y.fits(1), 9);
        s.due("by 2", y.fits(2), 3);
        s.due("by 3", y.fits(3), 1);
        s.due("by 4", y.fits(4), 0);
    }

    private void fits() {
        s.of("FITS: a BANK as LAST ahead of them all and for each MAN one BANK, what he wishes each time, so that all that is KNOWN "
                + "is so: how many ways.");
        s.due("nothing told", new WishBridges().fits(0), 0);
        s.due("one BANK, nobody", Check.told("bank a;").fits(0), 1);
        s.due("six BANKS, nobody", Check.told(SIX).fits(0), 6);
        s.due("six BANKS, seven MEN", Check.told(SIX + SEVEN).fits(0), 1679616);
        WishBridges x = Check.told(SIX + SEVEN);
        x.see(3, 2);
        s.due("LAST is known", x.fits(1), 279936);
        x.see(3, 2);
        s.due("and one MAN's", x.fits(2), 46656);
        x.see(4, 2);
        s.due("and nobody's more", x.fits(3), 46656);
        x.see(3, 1);
        s.due("and another one's", x.fits(4), 7776);
        x.see(5, 1);
        s.due("another thing each time is no way", x.fits(5), 0);
    }

    private void sure() {
        s.of("SURE of a MAN: what he wishes in all of them.");
        WishBridges x = watched();
        s.due("by 1", x.sure(1, 0), -2);
        s.due("by 2", x.sure(2, 0), 2);
        s.due("by 2 of the other one", x.sure(2, 1), -2);
        s.due("by 3 of the other one", x.sure(3, 1), 0);
        s.due("by 3", x.sure(3, 0), 2);
        s.due("by 4, in no way", x.sure(4, 1), -2);
        WishBridges one = Check.told("bank a;man k a a 0;");
        s.due("of one BANK", one.sure(0, 0), 0);
    }

    private void said() {
        s.of("SAID: a BANK that a MAN says he wishes;");
        WishBridges x = watched();
        s.yes("say(0, 2)", x.say(0, 2));
        s.due("who SAID something", x.count(11), 1);
        s.yes("say(1, 1)", x.say(1, 1));
        s.due("both", x.count(11), 3);
        s.of("TRUE by k: MEN who said something that is so in some way (each for himself).");
        s.due("by 0", x.trust(0), 3);
        s.due("by 2", x.trust(2), 3);
        s.due("by 3: l wishes a", x.trust(3), 1);
        s.due("by 4: nothing FITS", x.trust(4), 0);
        x.say(0, 1);
        s.due("by 1", x.trust(1), 3);
        s.due("by 2: k wishes c", x.trust(2), 2);
        s.due("by 3", x.trust(3), 0);
        s.due("nobody said anything", watched().trust(0), 0);
    }
}
