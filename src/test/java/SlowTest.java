import java.util.Random;

/** Random texts and calls, each answer held against SlowBridges. */
public final class SlowTest {
    private static final Check CHECK = new Check();

    public static void main(String[] args) {
        int runs = Integer.getInteger("runs", 2500);
        int from = Integer.getInteger("from", 0);
        for (int seed = from; seed < from + runs && CHECK.isClean(); seed++) {
            run(seed);
        }
        for (int seed = from; seed < from + 3 * runs && CHECK.isClean(); seed++) {
            rowRun(seed);
        }
        int texts = Integer.getInteger("texts", 40000);
        for (int seed = from; seed < from + texts && CHECK.isClean(); seed++) {
            readAmiss(seed);
        }
        CHECK.end("SlowTest");
    }

    /** All that is asked of ROWS, of sets of those who stand together from the start on. */
    private static void rowRun(int seed) {
        Random r = new Random(-1 - seed);
        TextMaker maker = new TextMaker(r);
        WishBridges x = new WishBridges();
        SlowBridges y = new SlowBridges();
        String text = maker.join(maker.sound());
        String who = "row run " + seed;
        feedBoth(x, y, text, who);
        CHECK.due(who + " read() of " + text, x.read(), y.read());
        CHECK.due(who + " hours", x.hours(seed % 30), y.hours(seed % 30));
        for (int b = 0; b < x.count(2); b++) {
            int set = someSet(r, x, b);
            for (int kind = 30; set > 0 && kind < 40; kind++) {
                rowAnswers(kind, r, x, y, who + " of " + text, b, set);
            }
        }
    }

    private static void readAmiss(int seed) {
        Random r = new Random(seed);
        TextMaker maker = new TextMaker(r);
        String text = maker.join(maker.amiss());
        WishBridges x = new WishBridges();
        SlowBridges y = new SlowBridges();
        feedBoth(x, y, text, "text " + seed);
        CHECK.due("text " + seed + " read() of " + text, x.read(), y.read());
        CHECK.due("text " + seed + " place() of " + text, x.place(), y.place());
        CHECK.due("text " + seed + " count(3)", x.count(3), y.count(3));
    }

    private static void feedBoth(WishBridges x, SlowBridges y, String text, String who) {
        for (int i = 0; i < Check.feeds(text); i++) {
            int[] f = Check.twenty(text, i);
            CHECK.due(who + " feed", x.feed(f[0], f[1], f[2], f[3], f[4]), y.feed(f[0], f[1], f[2], f[3], f[4]));
        }
        int over = Check.feeds(text) * 20 - text.length();
        CHECK.due(who + " back", x.back(over), y.back(over));
    }

    private static void run(int seed) {
        Random r = new Random(seed);
        TextMaker maker = new TextMaker(r);
        WishBridges x = new WishBridges();
        SlowBridges y = new SlowBridges();
        String text = maker.join(maker.sound());
        String who = "run " + seed;
        feedBoth(x, y, text, who);
        CHECK.due(who + " read() of " + text, x.read(), y.read());
        CHECK.due(who + " place()", x.place(), y.place());
        for (int n = 0; n < 120 && CHECK.isClean(); n++) {
            if (r.nextInt(60) == 0) {
                String other = maker.join(r.nextInt(2) == 0 ? maker.sound() : maker.amiss());
                feedBoth(x, y, other, who);
                CHECK.due(who + " read() of " + other, x.read(), y.read());
            }
            call(r, x, y, who + " step " + n);
        }
        if (!CHECK.isClean()) {
            System.out.println("the text was: " + text);
        }
    }

    private static int some(Random r, int n) {
        return r.nextInt(12) == 0 ? r.nextInt(n + 4) - 2 : r.nextInt(n);
    }

    private static int someSet(Random r, WishBridges x, int bridge) {
        int at = x.bank(x.bridge(bridge, 0));
        int men = at < 0 ? 7 : at;
        // Sets of seven are dear for the slow one.
        int set = men & (r.nextInt(4) == 0 ? 127 : 1 + r.nextInt(127));
        while (Integer.bitCount(set) > 5) {
            set &= ~(1 << r.nextInt(7));
        }
        return r.nextInt(20) == 0 ? r.nextInt(300) - 20 : set;
    }

    private static void call(Random r, WishBridges x, SlowBridges y, String who) {
        int m = some(r, Math.max(1, x.count(3)));
        int o = some(r, Math.max(1, x.count(3)));
        int b = some(r, Math.max(1, x.count(2)));
        int k = some(r, Math.max(1, x.count(0)));
        int kind = r.nextInt(46);
        if (kind < 16) {
            things(kind, r, x, y, who, new int[] {m, o, b, k});
        } else if (kind < 30) {
            dreams(kind, r, x, y, who, new int[] {m, o, b, k});
        } else if (kind < 40) {
            rows(kind, r, x, y, who, new int[] {m, o, b, k});
        } else {
            seen(r, x, y, who, m, k);
        }
        if (r.nextInt(3) == 0) {
            state(x, y, who + " then");
        }
    }

    private static void state(WishBridges x, SlowBridges y, String who) {
        for (int w = -1; w <= 13; w++) {
            CHECK.due(who + " count " + w, x.count(w), y.count(w));
        }
        for (int b = -1; b <= 4; b++) {
            for (int w = -1; w <= 4; w++) {
                CHECK.due(who + " bridge " + b + " " + w, x.bridge(b, w), y.bridge(b, w));
            }
        }
        for (int m = -1; m <= 7; m++) {
            for (int w = -1; w <= 6; w++) {
                CHECK.due(who + " man " + m + " " + w, x.man(m, w), y.man(m, w));
            }
            for (int b = -1; b <= 4; b++) {
                CHECK.due(who + " wish " + m + " " + b, x.wish(m, b), y.wish(m, b));
                CHECK.due(who + " toll " + m + " " + b, x.toll(m, b), y.toll(m, b));
                CHECK.due(who + " follow " + m + " " + b, x.follow(m, b), y.follow(m, b));
            }
        }
        for (int k = -1; k <= 6; k++) {
            CHECK.due(who + " bank " + k, x.bank(k), y.bank(k));
        }
        CHECK.due(who + " homes", x.homes(), y.homes());
    }

    private static void things(int kind, Random r, WishBridges x, SlowBridges y, String who, int[] a) {
        int m = a[0];
        int o = a[1];
        int b = a[2];
        int k = a[3];
        int n = some(r, r.nextInt(8) == 0 ? 201 : 6);
        switch (kind) {
            case 0: case 1: case 2:
                CHECK.due(who + " cross " + m + " " + b, x.cross(m, b), y.cross(m, b));
                break;
            case 3: case 4:
                CHECK.due(who + " pair " + m + " " + o + " " + b, x.pair(m, o, b), y.pair(m, o, b));
                break;
            case 5:
                CHECK.due(who + " hire " + b + " " + k, x.hire(b, k), y.hire(b, k));
                break;
            case 6: case 7: case 8:
                CHECK.due(who + " walk " + m + " " + k, x.walk(m, k), y.walk(m, k));
                break;
            case 9:
                CHECK.due(who + " hours " + n, x.hours(n), y.hours(n));
                break;
            case 10:
                CHECK.due(who + " rule " + n, x.rule(n), y.rule(n));
                break;
            case 11: case 12: case 13:
                CHECK.due(who + " undo", x.undo(), y.undo());
                break;
            case 14:
                CHECK.due(who + " hold " + (n % 4), x.hold(n % 4), y.hold(n % 4));
                break;
            default:
                CHECK.due(who + " restore " + (n % 4), x.restore(n % 4), y.restore(n % 4));
        }
    }

    private static void dreams(int kind, Random r, WishBridges x, SlowBridges y, String who, int[] a) {
        int m = a[0];
        int b = a[2];
        int k = a[3];
        int n = some(r, r.nextInt(4) == 0 ? 301 : 12);
        int s = some(r, 21);
        switch (kind) {
            case 16: CHECK.due(who + " where " + m + " " + n, x.where(m, n), y.where(m, n)); break;
            case 17: CHECK.due(who + " last " + b + " " + n, x.last(b, n), y.last(b, n)); break;
            case 18: CHECK.due(who + " coins " + n, x.coins(n), y.coins(n)); break;
            case 19: case 20: CHECK.due(who + " homeBy " + m, x.homeBy(m), y.homeBy(m)); break;
            case 21: CHECK.due(who + " allHome", x.allHome(), y.allHome()); break;
            case 22: case 23: CHECK.due(who + " odds " + m + " " + n + " " + s, x.odds(m, n, s), y.odds(m, n, s)); break;
            case 24: case 25: CHECK.due(who + " waiting " + m + " " + b, x.waiting(m, b), y.waiting(m, b)); break;
            case 26: CHECK.due(who + " way " + m + " " + k + " 0", x.way(m, k, 0), y.way(m, k, 0)); break;
            case 27: CHECK.due(who + " way " + m + " " + k + " 1", x.way(m, k, 1), y.way(m, k, 1)); break;
            case 28: CHECK.due(who + " way " + m + " " + k + " " + s, x.way(m, k, s), y.way(m, k, s)); break;
            default: CHECK.due(who + " reach " + m + " " + n, x.reach(m, n), y.reach(m, n));
        }
    }

    private static void rows(int kind, Random r, WishBridges x, SlowBridges y, String who, int[] a) {
        int b = a[2];
        // One more look for a BRIDGE with somebody at its FOOT.
        for (int i = 0; i < 4 && x.bank(x.bridge(b, 0)) == 0; i++) {
            b = r.nextInt(4);
        }
        rowAnswers(kind, r, x, y, who, b, someSet(r, x, b));
    }

    private static void rowAnswers(int kind, Random r, WishBridges x, SlowBridges y, String who, int b, int set) {
        String at = " " + b + " " + set + " ";
        int i = some(r, 6);
        int man = some(r, 7);
        int late = r.nextInt(10) == 0 ? r.nextInt(128) : set & r.nextInt(128);
        int price = some(r, 4);
        switch (kind) {
            case 30: CHECK.due(who + " orders" + at, x.orders(b, set), y.orders(b, set)); break;
            case 31: CHECK.due(who + " orderAt" + at + i, x.orderAt(b, set, i), y.orderAt(b, set, i)); break;
            case 32: CHECK.due(who + " wishers" + at, x.wishers(b, set), y.wishers(b, set)); break;
            case 33: CHECK.due(who + " wisherAt" + at + i, x.wisherAt(b, set, i), y.wisherAt(b, set, i)); break;
            case 34:
                for (int w = -1; w <= 3; w++) {
                    CHECK.due(who + " rings" + at + w, x.rings(b, set, w), y.rings(b, set, w));
                }
                break;
            case 35:
                CHECK.due(who + " gain" + at + late, x.gain(b, set, late, man), y.gain(b, set, late, man));
                break;
            case 36: CHECK.due(who + " worth" + at + late, x.worth(b, set, late), y.worth(b, set, late)); break;
            case 37:
                CHECK.due(who + " rests" + at + (i - 1), x.rests(b, set, i - 1), y.rests(b, set, i - 1));
                break;
            case 38:
                CHECK.due(who + " best" + at, x.best(b, set, false), y.best(b, set, false));
                CHECK.due(who + " cost" + at, x.best(b, set, true), y.best(b, set, true));
                break;
            default:
                CHECK.due(who + " prices" + at + price + " " + (i - 1), x.prices(b, set, price, i - 1),
                        y.prices(b, set, price, i - 1));
        }
    }

    private static void seen(Random r, WishBridges x, SlowBridges y, String who, int m, int k) {
        for (int i = 0; i < 6; i++) {
            int man = some(r, Math.max(1, x.count(3)));
            switch (r.nextInt(12)) {
                case 0: case 1: case 2: case 3:
                    // Half of them as if each wished one thing.
                    int to = r.nextInt(2) == 0 ? k : (3 * man + 1) % Math.max(1, x.count(0));
                    CHECK.due(who + " see", x.see(man, to), y.see(man, to));
                    break;
                case 4: case 5: CHECK.due(who + " say", x.say(man, k), y.say(man, k)); break;
                case 6: CHECK.due(who + " forget", x.forget(), y.forget()); break;
                default:
            }
        }
        if (Math.pow(Math.max(1, x.count(0)), x.count(3) + 1) > 2500) {
            return;
        }
        for (int j = -1; j <= x.count(9) + 1; j++) {
            CHECK.due(who + " fits " + j, x.fits(j), y.fits(j));
            CHECK.due(who + " sure " + j + " " + m, x.sure(j, m), y.sure(j, m));
            CHECK.due(who + " trust " + j, x.trust(j), y.trust(j));
        }
    }
}
