/** Promises 1 to 47: what each call answers and does, and what it refuses. */
final class CallEdges {
    private static final int LEAST = Integer.MIN_VALUE;
    private static final int MOST = Integer.MAX_VALUE;
    private static final int FOUR = 0x20202020;
    private static final String THREE = "bank a;bank b;bank c;";

    private final Sentences s;

    CallEdges(Sentences s) {
        this.s = s;
    }

    void run() {
        newObject();
        feed();
        back();
        read();
        place();
        bank();
        bridge();
        man();
        wish();
        toll();
        cross();
        pair();
        hire();
        walk();
        hours();
        rule();
        undo();
        homes();
        where();
        last();
        coins();
        homeBy();
        allHome();
        odds();
        waiting();
        follow();
        way();
        reach();
        orders();
        orderAt();
        wishers();
        wisherAt();
        rings();
        gain();
        worth();
        rests();
        best();
        prices();
        see();
        say();
        forget();
        fits();
        sure();
        trust();
        hold();
        restore();
        count();
        fullTown();
        lastOnes();
    }

    /** Two at a, one at b, one ON y; x leads to c. */
    private static final String TOWN = THREE + "path a b 2;bridge x a c;bridge y a;man k a b 9;man l a c 9;man m b a 9;man n a b 9;"
            + "wishes n=0-1;toll x=2;";

    private static WishBridges town() {
        WishBridges x = Check.told(TOWN);
        x.cross(3, 1);
        return x;
    }

    private static final int[] NO_MAN = {-1, 4, 7, LEAST, MOST};
    private static final int[] NO_BRIDGE = {-1, 2, 4, LEAST, MOST};
    private static final int[] NO_BANK = {-1, 3, 6, LEAST, MOST};
    private static final int[] NO_SET = {0, -1, 16, 17, 128, LEAST, MOST};

    /** What can be told of how it stands. */
    private static String picture(WishBridges x) {
        StringBuilder out = new StringBuilder();
        for (int w = 0; w < 13; w++) {
            out.append(x.count(w)).append(' ');
        }
        for (int i = 0; i < 7; i++) {
            for (int w = 0; w < 6; w++) {
                out.append(x.man(i, w)).append(' ').append(x.bridge(i, w)).append(' ');
            }
            out.append(x.bank(i)).append(' ');
        }
        return out.append(x.homes()).append(' ').append(x.place()).append(' ').append(x.trust(0)).toString();
    }

    private void newObject() {
        s.promise(1, "A new object");
        s.of("Nothing is told.");
        WishBridges x = new WishBridges();
        for (int w = 0; w < 12; w++) {
            s.due("count(" + w + ")", x.count(w), 0);
        }
        s.due("DAWN", x.count(12), -2);
        s.due("bank(0)", x.bank(0), -1);
        s.due("bridge(0, 0)", x.bridge(0, 0), -1);
        s.due("man(0, 0)", x.man(0, 0), -1);
        s.due("place()", x.place(), -1);
        s.due("homes()", x.homes(), 0);
        s.no("undo()", x.undo());
        s.no("restore(0)", x.restore(0));
        s.due("coins(0)", x.coins(0), 0);
        // Another object knows nothing of it.
        Check.read(x, TOWN);
        s.due("another new one", new WishBridges().count(3), 0);
    }

    private void feed() {
        s.promise(2, "feed");
        s.of("Twenty bytes, the highest of a first, come behind the tape: how many it has.");
        WishBridges x = new WishBridges();
        // "bank q;bank r;bank s" and ";bank tu;" with blanks.
        s.due("the first", x.feed(0x62616e6b, 0x20713b62, 0x616e6b20, 0x723b6261, 0x6e6b2073), 20);
        s.due("the second", x.feed(0x3b62616e, 0x6b207475, 0x3b202020, FOUR, FOUR), 40);
        s.due("on the tape", x.count(7), 40);
        s.due("read()", x.read(), 0);
        s.due("BANKS", x.count(0), 4);
        // Bytes of numbers below 0.
        x.feed(0x62616e6b, 0x20713b20, 0xff202020, FOUR, FOUR);
        s.due("read() of byte 255", x.read(), 1);
        s.due("its place", x.place(), 8);
        for (int at = 0; at < 20; at++) {
            WishBridges y = new WishBridges();
            int[] five = {FOUR, FOUR, FOUR, FOUR, FOUR};
            five[at / 4] ^= 0x80 << 8 * (3 - at % 4);
            y.feed(five[0], five[1], five[2], five[3], five[4]);
            s.due("read() with byte 160 at " + at, y.read(), 1);
            s.due("place() with byte 160 at " + at, y.place(), at);
        }
        s.of("NONE, and nothing comes, if it would have more than 2,000.");
        WishBridges z = new WishBridges();
        for (int i = 1; i <= 100; i++) {
            s.due("feed " + i, z.feed(FOUR, FOUR, FOUR, FOUR, FOUR), 20 * i);
        }
        s.due("feed 101", z.feed(0, 0, 0, 0, 0), -1);
        s.due("on the tape", z.count(7), 2000);
        s.due("back(1)", z.back(1), 1999);
        s.due("feed onto 1,999", z.feed(0, 0, 0, 0, 0), -1);
        s.due("back(18)", z.back(18), 1981);
        s.due("feed onto 1,981", z.feed(0, 0, 0, 0, 0), -1);
        s.due("on the tape", z.count(7), 1981);
        s.due("back(1)", z.back(1), 1980);
        s.due("feed onto 1,980", z.feed(FOUR, FOUR, FOUR, FOUR, FOUR), 2000);
        s.due("read(): what did not come is not there", z.read(), 0);
        s.due("feed onto the empty one", z.feed(FOUR, FOUR, FOUR, FOUR, FOUR), 20);
    }

    private void back() {
        s.promise(3, "back");
        s.of("The last n bytes of the tape go: how many it has.");
        WishBridges x = new WishBridges();
        s.due("back(0) of nothing", x.back(0), 0);
        // "bank q;" and what is no TEXT.
        x.feed(0x62616e6b, 0x20713b21, 0x21212121, 0x21212121, 0x21212121);
        s.due("back(0)", x.back(0), 20);
        s.due("back(1)", x.back(1), 19);
        s.due("back(12)", x.back(12), 7);
        s.due("read()", x.read(), 0);
        s.due("BANKS", x.count(0), 1);
        x.feed(FOUR, FOUR, FOUR, FOUR, FOUR);
        s.due("all of them", x.back(20), 0);
        s.of("NONE, and nothing goes, if it has not so many, or n is below 0.");
        x.feed(FOUR, FOUR, FOUR, FOUR, FOUR);
        s.due("back(21)", x.back(21), -1);
        s.due("back(2001)", x.back(2001), -1);
        s.due("the most", x.back(MOST), -1);
        s.due("back(-1)", x.back(-1), -1);
        s.due("the least", x.back(LEAST), -1);
        s.due("on the tape", x.count(7), 20);
        s.due("back(20)", x.back(20), 0);
        s.due("back(1) of nothing", x.back(1), -1);
    }

    private void read() {
        s.promise(4, "read");
        s.of("The tape, which is empty then, is read: 0, or the number of its FAULT.");
        String[] texts = {"bank a;", "bank", THREE + "bank d;bank e;bank f;bank g;", "bank a;bank a;", "wishes q=1;", "dawn 24;"};
        for (int i = 0; i < texts.length; i++) {
            WishBridges x = new WishBridges();
            s.due("read() of " + texts[i], Check.read(x, texts[i]), i);
            s.due("bytes on the tape", x.count(7), 0);
            s.due("read() of nothing", x.read(), 0);
            s.due("nothing is told", x.count(0), 0);
        }
    }

    private void place() {
        s.promise(5, "place");
        s.of("The byte of the latest read()'s FAULT; NONE without.");
        WishBridges x = new WishBridges();
        s.due("ahead of all", x.place(), -1);
        Check.read(x, "#");
        s.due("the first byte", x.place(), 0);
        Check.read(x, "bank a;bank ");
        s.due("the text's end", x.place(), 12);
        x.hours(1);
        Check.feed(x, "bank a;");
        s.due("still", x.place(), 12);
        x.read();
        s.due("without", x.place(), -1);
        Check.read(x, "bank a;bank a;");
        s.due("again", x.place(), 12);
        x.read();
        s.due("without, of nothing", x.place(), -1);
    }

    private void bank() {
        s.promise(6, "bank");
        s.of("MEN at a BANK (bits);");
        WishBridges x = town();
        s.due("bank(0)", x.bank(0), 3);
        s.due("bank(1)", x.bank(1), 4);
        s.due("bank(2)", x.bank(2), 0);
        s.of("NONE: no such one.");
        for (int b : NO_BANK) {
            s.due("bank(" + b + ")", x.bank(b), -1);
        }
    }

    private void bridge() {
        s.promise(7, "bridge");
        s.of("Of a BRIDGE: what 0 the BANK of its FOOT, 1 LAST (-2: none), 2 MEN ON it (bits), 3 how often it was crossed.");
        WishBridges x = Check.told(THREE + "bridge x c b;bridge y c;man k c b 9;man l c b 9;wishes k=0-1;wishes l=0-1;");
        s.due("FOOT", x.bridge(0, 0), 2);
        s.due("LAST", x.bridge(0, 1), 1);
        s.due("LAST, none", x.bridge(1, 1), -2);
        s.due("ON it", x.bridge(1, 2), 0);
        s.due("crossed", x.bridge(1, 3), 0);
        x.cross(1, 1);
        s.due("the second one ON it", x.bridge(1, 2), 2);
        s.due("crossed", x.bridge(1, 3), 1);
        x.pair(0, 1, 1);
        x.cross(0, 1);
        s.due("both ON it", x.bridge(1, 2), 3);
        s.due("crossed twice", x.bridge(1, 3), 2);
        s.due("nobody ON the other one", x.bridge(0, 2), 0);
        s.of("NONE for others.");
        for (int w : new int[] {-1, 4, 5, LEAST, MOST}) {
            s.due("what " + w, x.bridge(0, w), -1);
        }
        for (int b : NO_BRIDGE) {
            for (int w = 0; w < 4; w++) {
                s.due("bridge(" + b + ", " + w + ")", x.bridge(b, w), -1);
            }
        }
    }

    private void man() {
        s.promise(8, "man");
        s.of("Of a MAN: what 0 the BANK where he is (-2: ON a BRIDGE), 1 HOME, 2 PURSE, 3 TIMES, 4 for how many HOURS he has "
                + "waited, 5 the BRIDGE that he is ON (-2: none).");
        WishBridges x = town();
        x.rule(2);
        int[][] want = {{0, 1, 9, 0, 2, -2}, {2, 2, 7, 1, 0, -2}, {1, 0, 9, 0, 2, -2}, {-2, 1, 9, 1, 0, 1}};
        for (int m = 0; m < 4; m++) {
            for (int w = 0; w < 6; w++) {
                s.due("man(" + m + ", " + w + ")", x.man(m, w), want[m][w]);
            }
        }
        s.of("NONE for others.");
        for (int w : new int[] {-1, 6, 7, LEAST, MOST}) {
            s.due("what " + w, x.man(0, w), -1);
        }
        for (int m : NO_MAN) {
            for (int w = 0; w < 6; w++) {
                s.due("man(" + m + ", " + w + ")", x.man(m, w), -1);
            }
        }
    }

    private void wish() {
        s.promise(9, "wish");
        s.of("WISH of a MAN on a BRIDGE now;");
        WishBridges x = Check.told(TOWN + "wishes k=last+hour;wishes m=0-1;");
        s.due("k on x", x.wish(0, 0), 2);
        s.due("l on x", x.wish(1, 0), 2);
        x.hours(2);
        s.due("k on x two hours later", x.wish(0, 0), 1);
        s.due("k on y", x.wish(0, 1), 1);
        s.due("m at another FOOT", Check.told(TOWN).wish(2, 0), 0);
        s.of("-2: nothing, ON a BRIDGE;");
        s.due("nothing", x.wish(2, 0), -2);
        x.cross(3, 1);
        s.due("ON a BRIDGE", x.wish(3, 1), -2);
        s.due("ON a BRIDGE, on the other one", x.wish(3, 0), -2);
        WishBridges on = Check.told(TOWN + "wishes n=here+2;");
        s.due("what he wishes at its FOOT", on.wish(3, 1), 2);
        on.cross(3, 1);
        s.due("ON a BRIDGE, though he would wish something", on.wish(3, 1), -2);
        s.due("ON a BRIDGE, though he would wish something, on the other one", on.wish(3, 0), -2);
        s.of("NONE: no such ones.");
        noSuch("wish", x, x::wish);
    }

    /** A call of a MAN and a BRIDGE. */
    private interface OfTwo {
        int ask(int a, int b);
    }

    /** A call that knows no such MAN, no such BRIDGE, even where the other one is ON a BRIDGE or elsewhere. */
    private void noSuch(String name, WishBridges x, OfTwo call) {
        String before = picture(x);
        for (int m : NO_MAN) {
            s.due(name + "(" + m + ", 0)", call.ask(m, 0), -1);
        }
        for (int b : NO_BRIDGE) {
            for (int m = 0; m < 4; m++) {
                s.due(name + "(" + m + ", " + b + ")", call.ask(m, b), -1);
            }
        }
        s.yes("nothing happened by " + name, picture(x).equals(before));
    }

    private void toll() {
        s.promise(10, "toll");
        s.of("TOLL of a BRIDGE for a MAN now;");
        WishBridges x = Check.told(TOWN + "toll y=who+hour*10;");
        s.due("x for k", x.toll(0, 0), 2);
        s.due("y for k", x.toll(0, 1), 0);
        s.due("y for m, who is elsewhere", x.toll(2, 1), 2);
        x.hours(3);
        s.due("y for m then", x.toll(2, 1), 32);
        s.of("-2: ON a BRIDGE;");
        WishBridges y = town();
        s.due("of x", y.toll(3, 0), -2);
        s.due("of y", y.toll(3, 1), -2);
        s.of("NONE: no such ones.");
        noSuch("toll", y, y::toll);
    }

    private void cross() {
        s.promise(11, "cross");
        s.of("CROSSES: the BANK to which he comes;");
        WishBridges x = Check.told(TOWN);
        s.due("to c", x.cross(0, 0), 2);
        s.due("he is there", x.man(0, 0), 2);
        s.due("to what k wished", x.cross(1, 0), 1);
        s.due("hours", x.count(4), 2);
        s.due("things", x.count(8), 2);
        s.of("-3: he is ON it now;");
        s.due("ON y", x.cross(3, 1), -3);
        s.due("he is", x.man(3, 5), 1);
        s.due("hours", x.count(4), 3);
        s.of("-2, and nothing happens: he COULD not;");
        WishBridges y = Check.told(TOWN + "toll y=10;");
        y.cross(3, 0);
        String before = picture(y);
        s.due("not there", y.cross(2, 0), -2);
        s.due("too dear", y.cross(0, 1), -2);
        WishBridges z = town();
        s.due("ON it already", z.cross(3, 1), -2);
        s.due("ON another one", z.cross(3, 0), -2);
        s.yes("nothing happened", picture(y).equals(before));
        s.yes("nor there", picture(z).equals(picture(town())));
        s.of("NONE: no such ones.");
        noSuch("cross", z, z::cross);
    }

    private void pair() {
        s.promise(12, "pair");
        s.of("A PAIR: the BANK to which the second one comes (-3: he is ON it now);");
        WishBridges x = Check.told(TOWN);
        s.due("where the first one wished", x.pair(0, 1, 0), 1);
        s.due("the first one", x.man(0, 0), 2);
        s.due("one hour", x.count(4), 1);
        s.due("one thing", x.count(8), 1);
        WishBridges y = Check.told(TOWN + "wishes k=0-1;");
        s.due("both ON it", y.pair(0, 1, 1), -3);
        s.due("both", y.bridge(1, 2), 3);
        WishBridges z = Check.told(TOWN);
        s.due("without LAST, by the first one's wish", z.pair(0, 1, 1), 1);
        s.due("both came there", z.bank(1), 7);
        s.of("-2, and nothing happens: one of them COULD not;");
        WishBridges w = town();
        String before = picture(w);
        s.due("the second one is not there", w.pair(0, 2, 0), -2);
        s.due("the first one is not there", w.pair(2, 0, 0), -2);
        s.due("the second one is ON another one", w.pair(0, 3, 0), -2);
        s.due("the first one is ON it", w.pair(3, 0, 1), -2);
        s.yes("nothing happened", picture(w).equals(before));
        WishBridges d = Check.told(TOWN + "toll x=if last<2 then 10 else 1;");
        before = picture(d);
        s.due("too dear for the second one then", d.pair(0, 1, 0), -2);
        s.yes("nothing happened", picture(d).equals(before));
        s.of("NONE: no such ones, one and the same.");
        s.due("one and the same", w.pair(0, 0, 0), -1);
        s.due("one and the same, not there", w.pair(2, 2, 0), -1);
        s.due("one and the same, no such BRIDGE", w.pair(2, 2, 5), -1);
        noSuch("pair(.., 1, ..)", w, (m, b) -> w.pair(m, 1 - m % 2, b));
        noSuch("pair(1, ..)", w, (m, b) -> w.pair(1, m == 1 ? 0 : m, b));
    }

    private void hire() {
        s.promise(13, "hire");
        s.of("HIRED: true;");
        WishBridges x = town();
        s.yes("hire(1, 2)", x.hire(1, 2));
        s.due("LAST", x.bridge(1, 1), 2);
        s.due("COSTS", x.count(5), 5);
        s.due("HIRED", x.count(6), 1);
        s.due("hour", x.count(4), 2);
        s.due("things", x.count(8), 2);
        s.of("false, and nothing happens: no such ones.");
        String before = picture(x);
        for (int b : NO_BRIDGE) {
            s.no("hire(" + b + ", 0)", x.hire(b, 0));
        }
        for (int b : NO_BANK) {
            s.no("hire(0, " + b + ")", x.hire(0, b));
        }
        s.yes("nothing happened", picture(x).equals(before));
    }

    private void walk() {
        s.promise(14, "walk");
        s.of("WALKS: how many HOURS;");
        WishBridges x = town();
        s.due("to b", x.walk(0, 1), 2);
        s.due("he is there", x.man(0, 0), 1);
        s.due("hour", x.count(4), 3);
        s.due("one thing", x.count(8), 2);
        s.due("m to a", x.walk(2, 0), 2);
        s.of("-2, and nothing happens: ON a BRIDGE, no PATH;");
        String before = picture(x);
        s.due("ON a BRIDGE", x.walk(3, 1), -2);
        s.due("ON a BRIDGE, to its FOOT", x.walk(3, 0), -2);
        s.due("no PATH", x.walk(1, 2), -2);
        s.due("to where he is", x.walk(1, 0), -2);
        s.yes("nothing happened", picture(x).equals(before));
        s.of("NONE: no such ones.");
        for (int m : NO_MAN) {
            s.due("walk(" + m + ", 1)", x.walk(m, 1), -1);
        }
        for (int b : NO_BANK) {
            s.due("walk(0, " + b + ")", x.walk(0, b), -1);
            s.due("walk(3, " + b + "), ON a BRIDGE", x.walk(3, b), -1);
        }
        s.yes("nothing happened", picture(x).equals(before));
    }

    private void hours() {
        s.promise(15, "hours");
        s.of("n HOURS (0 .. 200; 0 is no thing done) go by, nobody moves: which it is;");
        WishBridges x = Check.told(TOWN + "goes=1;");
        s.due("hours(0)", x.hours(0), 0);
        s.due("no thing done", x.count(8), 0);
        s.due("hours(1)", x.hours(1), 1);
        s.due("one thing", x.count(8), 1);
        s.due("hours(200)", x.hours(200), 201);
        s.due("two things", x.count(8), 2);
        s.due("hours(0)", x.hours(0), 201);
        s.due("two things still", x.count(8), 2);
        s.due("nobody moves", x.bank(0), 11);
        s.due("nor waits", x.man(0, 4), 0);
        s.of("NONE, and nothing happens: no such n.");
        String before = picture(x);
        for (int n : new int[] {-1, 201, LEAST, MOST}) {
            s.due("hours(" + n + ")", x.hours(n), -1);
        }
        s.yes("nothing happened", picture(x).equals(before));
    }

    private void rule() {
        s.promise(16, "rule");
        s.of("n HOURS (0 .. 200; 0 is no thing done) by the RULE: likewise.");
        WishBridges x = Check.told(TOWN);
        s.due("rule(0)", x.rule(0), 0);
        s.due("no thing done", x.count(8), 0);
        s.due("rule(1)", x.rule(1), 1);
        s.due("l came HOME", x.man(1, 0), 2);
        s.due("rule(200)", x.rule(200), 201);
        s.due("k has waited", x.man(0, 4), 201);
        s.due("two things", x.count(8), 2);
        s.due("rule(0)", x.rule(0), 201);
        s.due("two things still", x.count(8), 2);
        String before = picture(x);
        for (int n : new int[] {-1, 201, LEAST, MOST}) {
            s.due("rule(" + n + ")", x.rule(n), -1);
        }
        s.yes("nothing happened", picture(x).equals(before));
    }

    private static void doThing(WishBridges x, int i) {
        switch (i) {
            case 0: x.cross(0, 0); break;
            case 1: x.pair(0, 1, 0); break;
            case 2: x.hire(1, 1); break;
            case 3: x.walk(0, 1); break;
            case 4: x.hours(200); break;
            default: x.rule(200);
        }
    }

    /** Without how many can be undone, SEEN ones and SLOTS, which do not go back. */
    private static String withoutThings(WishBridges x) {
        String[] words = picture(x).split(" ");
        words[8] = "";
        return String.join(" ", words);
    }

    private void undo() {
        s.promise(17, "undo");
        s.of("The last thing done (cross, pair, hire, walk, hours, rule) is undone: true;");
        for (int first = 0; first < 6; first++) {
            for (int then = 0; then < 6; then++) {
                WishBridges x = Check.told(TOWN + "goes=1;dawn 3;pilgrims 20;");
                String[] before = {withoutThings(x), ""};
                doThing(x, first);
                before[1] = withoutThings(x);
                doThing(x, then);
                // Who has crossed cannot cross again: then nothing was done.
                int things = x.count(8);
                for (int i = things - 1; i >= 0; i--) {
                    s.yes("undo() of " + first + " and " + then, x.undo());
                    s.yes("as it was, " + first + " and " + then, withoutThings(x).equals(before[i]));
                    s.due("things", x.count(8), i);
                }
                s.no("no more", x.undo());
            }
        }
        s.of("false: there is none (the last 40 can be).");
        WishBridges y = Check.told(TOWN);
        s.no("nothing done", y.undo());
        for (int i = 1; i <= 41; i++) {
            y.hours(1);
            s.due("things behind " + i, y.count(8), Math.min(i, 40));
        }
        y.cross(2, 0);
        y.hours(0);
        y.hours(201);
        s.due("what was refused is no thing", y.count(8), 40);
        for (int i = 40; i >= 1; i--) {
            s.yes("undo " + i, y.undo());
            s.due("hour", y.count(4), i);
        }
        s.no("the 41st cannot be", y.undo());
        s.due("hour", y.count(4), 1);
        for (int i = 0; i < 100; i++) {
            y.hours(1);
        }
        for (int i = 0; i < 40; i++) {
            s.yes("undo again " + i, y.undo());
        }
        s.no("not more than 40", y.undo());
        s.due("hour", y.count(4), 61);
    }

    private void homes() {
        s.promise(18, "homes");
        s.of("MEN who are HOME (bits).");
        WishBridges x = Check.told("bank a;bank b;bridge x a b;bridge y a;man k a b 0;man l b b 0;man m a a 0;man n a b 0;");
        s.due("at first", x.homes(), 6);
        x.cross(0, 0);
        s.due("then", x.homes(), 7);
        x.cross(2, 1);
        s.due("ON a BRIDGE is not", x.homes(), 3);
        x.undo();
        x.undo();
        s.due("undone", x.homes(), 6);
    }

    private void where() {
        s.promise(19, "where");
        s.of("BEHIND n HOURS: the BANK where a MAN is (-2: ON a BRIDGE);");
        WishBridges x = town();
        s.due("k", x.where(0, 300), 0);
        s.due("l now", x.where(1, 0), 0);
        s.due("l", x.where(1, 1), 2);
        s.due("ON a BRIDGE", x.where(3, 0), -2);
        s.due("ON a BRIDGE then", x.where(3, 300), -2);
        s.of("NONE: no such ones.");
        for (int m : NO_MAN) {
            s.due("where(" + m + ", 0)", x.where(m, 0), -1);
        }
        for (int n : new int[] {-1, 301, LEAST, MOST}) {
            s.due("where(0, " + n + ")", x.where(0, n), -1);
            s.due("where(3, " + n + "), ON a BRIDGE", x.where(3, n), -1);
        }
    }

    private void last() {
        s.promise(20, "last");
        s.of("BEHIND n HOURS: LAST (-2: none);");
        WishBridges x = Check.told(TOWN + "wishes l=1;");
        s.due("of x now", x.last(0, 0), 2);
        s.due("of x", x.last(0, 1), 1);
        s.due("of x, behind 300", x.last(0, 300), 1);
        s.due("none of y", x.last(1, 0), -2);
        s.due("none of y then", x.last(1, 300), -2);
        s.of("NONE: no such ones.");
        for (int b : NO_BRIDGE) {
            s.due("last(" + b + ", 0)", x.last(b, 0), -1);
        }
        for (int n : new int[] {-1, 301, LEAST, MOST}) {
            s.due("last(0, " + n + ")", x.last(0, n), -1);
            s.due("last(1, " + n + "), none", x.last(1, n), -1);
        }
    }

    private void coins() {
        s.promise(21, "coins");
        s.of("BEHIND n HOURS: COINS in all PURSES;");
        WishBridges x = town();
        s.due("now", x.coins(0), 36);
        s.due("l paid 2", x.coins(1), 34);
        s.due("behind 300", x.coins(300), 34);
        s.due("seven full PURSES", Check.told("bank a;man g a a 999;man h a a 999;man i a a 999;man j a a 999;man k a a 999;"
                + "man l a a 999;man m a a 999;").coins(0), 6993);
        s.of("NONE: no such n.");
        for (int n : new int[] {-1, 301, LEAST, MOST}) {
            s.due("coins(" + n + ")", x.coins(n), -1);
        }
    }

    private void homeBy() {
        s.promise(22, "homeBy");
        s.of("HOME BY (0 .. 300);");
        String town = "bank a;bank b;bridge x a b;man k b b 0;man l a b 0;toll x=";
        s.due("now", Check.told(town + "0;").homeBy(0), 0);
        s.due("behind 1", Check.told(town + "0;").homeBy(1), 1);
        s.due("behind 300", Check.told(town + "299-waited;").homeBy(1), 300);
        s.of("-2: not;");
        s.due("behind 301", Check.told(town + "300-waited;").homeBy(1), -2);
        s.due("never", Check.told(town + "1;").homeBy(1), -2);
        s.due("ON a BRIDGE", town().homeBy(3), -2);
        s.of("NONE: no such MAN.");
        for (int m : NO_MAN) {
            s.due("homeBy(" + m + ")", town().homeBy(m), -1);
        }
    }

    private void allHome() {
        s.promise(23, "allHome");
        s.of("ALL HOME (0 .. 300);");
        String town = "bank a;bank b;bridge x a b;man k b b 0;man l a b 0;toll x=";
        s.due("nobody", Check.told("bank a;").allHome(), 0);
        s.due("behind 1", Check.told(town + "0;").allHome(), 1);
        s.due("behind 300", Check.told(town + "299-waited;").allHome(), 300);
        s.of("-2: not.");
        s.due("behind 301", Check.told(town + "300-waited;").allHome(), -2);
        s.due("one is ON a BRIDGE", town().allHome(), -2);
    }

    private void odds() {
        s.promise(24, "odds");
        s.of("ODDS;");
        WishBridges x = Check.told("bank a;bank b;bridge x a;man k a b 0;man l a a 0;man m a b 0;man n a b 0;bridge y a;dawn 1;");
        s.due("of one SEED", x.odds(0, 2, 1), 0);
        s.due("of two", x.odds(0, 2, 2), 1);
        s.due("of twenty", x.odds(1, 300, 20), 20);
        s.of("NONE: no such ones.");
        for (int m : NO_MAN) {
            s.due("odds(" + m + ", 0, 1)", x.odds(m, 0, 1), -1);
        }
        for (int n : new int[] {-1, 301, LEAST, MOST}) {
            s.due("odds(0, " + n + ", 1)", x.odds(0, n, 1), -1);
        }
        for (int n : new int[] {0, -1, 21, LEAST, MOST}) {
            s.due("odds(0, 0, " + n + ")", x.odds(0, 0, n), -1);
        }
    }

    private void waiting() {
        s.promise(25, "waiting");
        s.of("WAITING;");
        WishBridges x = town();
        s.due("l at once", x.waiting(1, 0), 0);
        s.of("-2: not, he is not at its FOOT;");
        s.due("k not, as nobody wishes b", x.waiting(0, 0), -2);
        s.due("m is not at its FOOT", x.waiting(2, 0), -2);
        s.due("n is ON it", x.waiting(3, 1), -2);
        s.of("NONE: no such ones.");
        noSuch("waiting", x, x::waiting);
    }

    private void follow() {
        s.promise(26, "follow");
        s.of("FOLLOW;");
        WishBridges x = Check.told(TOWN + "wishes l=1;");
        s.due("k follows l", x.follow(0, 0), 1);
        s.due("n follows k", x.follow(3, 0), 0);
        s.of("-2: nobody, he is not at its FOOT;");
        s.due("l follows nobody", x.follow(1, 0), -2);
        s.due("m is not at its FOOT", x.follow(2, 0), -2);
        WishBridges y = town();
        s.due("n is ON it", y.follow(3, 1), -2);
        s.of("NONE: no such ones.");
        noSuch("follow", y, y::follow);
    }

    private void way() {
        s.promise(27, "way");
        s.of("WAYS: what 0 HOURS, 1 crossings;");
        WishBridges x = town();
        s.due("hours to c", x.way(0, 2, 0), 1);
        s.due("crossings to c", x.way(0, 2, 1), 1);
        s.due("hours to b", x.way(0, 1, 0), 2);
        s.due("crossings to b", x.way(0, 1, 1), 0);
        s.due("hours of m to c", x.way(2, 2, 0), 3);
        s.due("crossings of m to c", x.way(2, 2, 1), 1);
        s.of("-2: there is none, ON a BRIDGE;");
        WishBridges y = Check.told("bank a;bank b;man k a b 0;");
        s.due("there is none", y.way(0, 1, 0), -2);
        s.due("there is none, crossings", y.way(0, 1, 1), -2);
        for (int b = 0; b < 3; b++) {
            s.due("ON a BRIDGE, to " + b, x.way(3, b, 0), -2);
        }
        s.of("NONE: no such ones.");
        for (int m : NO_MAN) {
            s.due("way(" + m + ", 0, 0)", x.way(m, 0, 0), -1);
        }
        for (int b : NO_BANK) {
            s.due("way(0, " + b + ", 0)", x.way(0, b, 0), -1);
            s.due("way(3, " + b + ", 0), ON a BRIDGE", x.way(3, b, 0), -1);
        }
        for (int w : new int[] {-1, 2, LEAST, MOST}) {
            s.due("way(0, 0, " + w + ")", x.way(0, 0, w), -1);
            s.due("way(3, 0, " + w + "), ON a BRIDGE", x.way(3, 0, w), -1);
        }
    }

    private void reach() {
        s.promise(28, "reach");
        s.of("REACH (bits);");
        WishBridges x = town();
        s.due("within 0", x.reach(0, 0), 1);
        s.due("within 1", x.reach(0, 1), 5);
        s.due("within 99", x.reach(0, 99), 7);
        s.due("of m within 2", x.reach(2, 2), 3);
        s.of("-2: ON a BRIDGE;");
        s.due("n", x.reach(3, 99), -2);
        s.of("NONE: no such ones.");
        for (int m : NO_MAN) {
            s.due("reach(" + m + ", 0)", x.reach(m, 0), -1);
        }
        for (int n : new int[] {-1, 100, LEAST, MOST}) {
            s.due("reach(0, " + n + ")", x.reach(0, n), -1);
            s.due("reach(3, " + n + "), ON a BRIDGE", x.reach(3, n), -1);
        }
    }

    /** Answers of a call of a BRIDGE and a set: no such ones, also where not all are at its FOOT. */
    private void noRow(String name, OfTwo call, int want) {
        for (int set : NO_SET) {
            s.due(name + "(0, " + set + ")", call.ask(0, set), want);
        }
        for (int b : NO_BRIDGE) {
            s.due(name + "(" + b + ", 1)", call.ask(b, 1), want);
            s.due(name + "(" + b + ", 4)", call.ask(b, 4), want);
        }
    }

    /** Of town(): m is elsewhere, n is ON y. */
    private void notAtFoot(String name, OfTwo call, int want) {
        for (int set : new int[] {4, 8, 5, 9, 7, 11, 15}) {
            s.due(name + "(0, " + set + ")", call.ask(0, set), want);
            s.due(name + "(1, " + set + ")", call.ask(1, set), want);
        }
    }

    private void orders() {
        s.promise(29, "orders");
        s.of("ORDERS;");
        WishBridges x = town();
        s.due("of l", x.orders(0, 2), 1);
        s.due("of k", x.orders(0, 1), 0);
        s.due("of both", x.orders(0, 3), 0);
        s.of("-2: not all at its FOOT;");
        notAtFoot("orders", x::orders, -2);
        s.of("NONE: no such ones (a set of MEN, not none).");
        noRow("orders", x::orders, -1);
        s.due("of nobody told", Check.told("bank a;bridge x a a;").orders(0, 1), -1);
    }

    private void orderAt() {
        s.promise(30, "orderAt");
        s.of("The i-th MAN of the first one;");
        WishBridges x = Check.told(TOWN + "wishes l=1;");
        s.due("the first", x.orderAt(0, 3, 0), 1);
        s.due("the second", x.orderAt(0, 3, 1), 0);
        s.of("NONE (looked at first): no such ones, i below 0;");
        WishBridges y = town();
        noRow("orderAt(.., 0)", (b, set) -> y.orderAt(b, set, 0), -1);
        notAtFoot("orderAt(.., -1)", (b, set) -> y.orderAt(b, set, -1), -1);
        s.due("i -1", x.orderAt(0, 3, -1), -1);
        s.due("i the least", x.orderAt(0, 3, LEAST), -1);
        s.due("i -1 where there is none", y.orderAt(0, 1, -1), -1);
        s.of("-2: there is none, not all at its FOOT;");
        s.due("there is none", y.orderAt(0, 1, 0), -2);
        s.due("there is none, nor so many", y.orderAt(0, 1, 5), -2);
        notAtFoot("orderAt(.., 0)", (b, set) -> y.orderAt(b, set, 0), -2);
        notAtFoot("orderAt(.., 9)", (b, set) -> y.orderAt(b, set, 9), -2);
        s.of("NONE: not so many.");
        s.due("i 2 of two", x.orderAt(0, 3, 2), -1);
        s.due("i 1 of one", x.orderAt(0, 2, 1), -1);
        s.due("i the most", x.orderAt(0, 3, MOST), -1);
    }

    private void wishers() {
        s.promise(31, "wishers");
        s.of("WISHERS;");
        WishBridges x = town();
        s.due("of l", x.wishers(0, 2), 0);
        s.due("of k", x.wishers(0, 1), 1);
        s.due("of both", x.wishers(0, 3), 1);
        s.of("-2: not all at its FOOT;");
        notAtFoot("wishers", x::wishers, -2);
        s.of("NONE: no such ones.");
        noRow("wishers", x::wishers, -1);
    }

    private void wisherAt() {
        s.promise(32, "wisherAt");
        s.of("The i-th MAN of their ROW, and 100 more if one is HIRED ahead of him;");
        WishBridges x = town();
        s.due("the first", x.wisherAt(0, 3, 0), 1);
        s.due("the second", x.wisherAt(0, 3, 1), 100);
        s.due("k alone", x.wisherAt(0, 1, 0), 100);
        s.of("NONE, -2 as orderAt().");
        noRow("wisherAt(.., 0)", (b, set) -> x.wisherAt(b, set, 0), -1);
        notAtFoot("wisherAt(.., -1)", (b, set) -> x.wisherAt(b, set, -1), -1);
        notAtFoot("wisherAt(.., 0)", (b, set) -> x.wisherAt(b, set, 0), -2);
        notAtFoot("wisherAt(.., 9)", (b, set) -> x.wisherAt(b, set, 9), -2);
        for (int i : new int[] {-1, LEAST, 2, MOST}) {
            s.due("i " + i + " of two", x.wisherAt(0, 3, i), -1);
        }
        s.due("i 1 of one", x.wisherAt(0, 1, 1), -1);
    }

    private void rings() {
        s.promise(33, "rings");
        s.of("RINGS: what 0 PARTS, 1 EVEN ones, 2 NEEDS;");
        WishBridges x = Check.told(TOWN + "wishes k=0;");
        x.cross(3, 1);
        s.due("PARTS", x.rings(0, 3, 0), 2);
        s.due("EVEN ones", x.rings(0, 3, 1), 1);
        s.due("NEEDS", x.rings(0, 3, 2), 1);
        s.of("-2: not all at its FOOT;");
        for (int w = 0; w < 3; w++) {
            int what = w;
            notAtFoot("rings(.., " + w + ")", (b, set) -> x.rings(b, set, what), -2);
        }
        s.of("NONE: no such ones.");
        noRow("rings(.., 0)", (b, set) -> x.rings(b, set, 0), -1);
        for (int w : new int[] {-1, 3, LEAST, MOST}) {
            s.due("what " + w, x.rings(0, 3, w), -1);
            notAtFoot("rings(.., " + w + ")", (b, set) -> x.rings(b, set, w), -1);
        }
    }

    private void gain() {
        s.promise(34, "gain");
        s.of("GAIN of a MAN of the set, late being LATE (bits of the set);");
        WishBridges x = Check.told(TOWN + "wishes l=1;");
        x.cross(3, 1);
        s.due("k", x.gain(0, 3, 0, 0), 0);
        s.due("l", x.gain(0, 3, 0, 1), -1);
        s.due("k LATE", x.gain(0, 3, 1, 0), 19);
        s.due("l, k LATE", x.gain(0, 3, 1, 1), 20);
        s.due("l, both LATE", x.gain(0, 3, 3, 1), -1);
        s.due("l alone", x.gain(0, 2, 2, 1), 20);
        s.of("-1000: no such ones, not all at its FOOT.");
        noRow("gain(.., 0, 0)", (b, set) -> x.gain(b, set, 0, 0), -1000);
        notAtFoot("gain(.., 0, 0)", (b, set) -> x.gain(b, set, 0, 0), -1000);
        for (int late : new int[] {4, 5, 7, 8, 128, -1, LEAST, MOST}) {
            s.due("late " + late, x.gain(0, 3, late, 0), -1000);
        }
        for (int m : new int[] {2, 3, 4, 7, 31, 32, 33, -1, -32, LEAST, MOST}) {
            s.due("man " + m, x.gain(0, 3, 0, m), -1000);
        }
        s.due("late not of the set", x.gain(0, 2, 1, 1), -1000);
        s.due("man not of the set", x.gain(0, 2, 0, 0), -1000);
    }

    private void worth() {
        s.promise(35, "worth");
        s.of("WORTH;");
        WishBridges x = Check.told(TOWN + "wishes l=1;");
        x.cross(3, 1);
        s.due("none LATE", x.worth(0, 3, 0), -1);
        s.due("k LATE", x.worth(0, 3, 1), 39);
        s.due("l LATE", x.worth(0, 3, 2), -1);
        s.due("both LATE", x.worth(0, 3, 3), -1);
        s.due("l alone", x.worth(0, 2, 0), 20);
        s.of("-1000 likewise.");
        noRow("worth(.., 0)", (b, set) -> x.worth(b, set, 0), -1000);
        notAtFoot("worth(.., 0)", (b, set) -> x.worth(b, set, 0), -1000);
        for (int late : new int[] {4, 5, 7, 8, 128, -1, LEAST, MOST}) {
            s.due("late " + late, x.worth(0, 3, late), -1000);
        }
    }

    private void rests() {
        s.promise(36, "rests");
        s.of("RESTS: how many (i NONE), else the i-th (bits, the least first);");
        WishBridges x = Check.told(TOWN + "wishes l=1;");
        x.cross(3, 1);
        s.due("how many", x.rests(0, 3, -1), 2);
        s.due("the first", x.rests(0, 3, 0), 1);
        s.due("the second", x.rests(0, 3, 1), 2);
        s.of("NONE (looked at first): no such ones, i below NONE;");
        noRow("rests(.., -1)", (b, set) -> x.rests(b, set, -1), -1);
        noRow("rests(.., 0)", (b, set) -> x.rests(b, set, 0), -1);
        notAtFoot("rests(.., -2)", (b, set) -> x.rests(b, set, -2), -1);
        s.due("i -2", x.rests(0, 3, -2), -1);
        s.due("i the least", x.rests(0, 3, LEAST), -1);
        s.of("-2: not all at its FOOT;");
        notAtFoot("rests(.., -1)", (b, set) -> x.rests(b, set, -1), -2);
        notAtFoot("rests(.., 99)", (b, set) -> x.rests(b, set, 99), -2);
        s.of("NONE: not so many.");
        s.due("the third of two", x.rests(0, 3, 2), -1);
        s.due("the most", x.rests(0, 3, MOST), -1);
    }

    private void best() {
        s.promise(37, "best");
        s.of("BEST, or COST;");
        WishBridges x = Check.told(TOWN + "wishes l=1;");
        x.cross(3, 1);
        s.due("BEST", x.best(0, 3, false), 39);
        s.due("COST", x.best(0, 3, true), 40);
        s.due("COST of one alone", x.best(0, 2, true), 0);
        s.of("-1000: no such ones, not all at its FOOT;");
        for (boolean cost : new boolean[] {false, true}) {
            noRow("best(.., " + cost + ")", (b, set) -> x.best(b, set, cost), -1000);
            notAtFoot("best(.., " + cost + ")", (b, set) -> x.best(b, set, cost), -1000);
        }
        s.of("COST: -1000, too, if nothing RESTS.");
        WishBridges y = Check.told(THREE + "bridge x a b;man k a a 0;man l a b 0;man m a c 0;man n a b 0;wishes k=2;wishes m=0;");
        s.due("COST", y.best(0, 15, true), -1000);
        s.due("BEST all the same", y.best(0, 15, false), 54);
    }

    private void prices() {
        s.promise(38, "prices");
        s.of("PRICES: the sum (i NONE), else that of a BANK;");
        WishBridges x = Check.told(TOWN + "wishes l=1;");
        x.cross(3, 1);
        x.hire(0, 1);
        // k comes to b, and leaves c for l if a and b have a price.
        s.due("the sum", x.prices(0, 3, 3, -1), 2);
        s.due("of a", x.prices(0, 3, 3, 0), 1);
        s.due("of b", x.prices(0, 3, 3, 1), 1);
        s.due("of c", x.prices(0, 3, 3, 2), 0);
        s.due("of k alone", x.prices(0, 1, 0, -1), 0);
        s.of("-2: by none, not all at its FOOT;");
        s.due("by none", x.prices(0, 3, 0, -1), -2);
        s.due("by none, of a BANK", x.prices(0, 3, 0, 2), -2);
        s.due("by none, l first", x.prices(0, 2, 3, -1), -2);
        notAtFoot("prices(.., 3, -1)", (b, set) -> x.prices(b, set, 3, -1), -2);
        notAtFoot("prices(.., 0, 2)", (b, set) -> x.prices(b, set, 0, 2), -2);
        s.of("NONE (looked at first): no such ones.");
        noRow("prices(.., 3, -1)", (b, set) -> x.prices(b, set, 3, -1), -1);
        for (int m : new int[] {-1, 4, LEAST, MOST}) {
            s.due("m " + m, x.prices(0, 3, m, -1), -1);
            notAtFoot("prices(.., " + m + ", -1)", (b, set) -> x.prices(b, set, m, -1), -1);
        }
        for (int i : new int[] {-2, 3, 6, LEAST, MOST}) {
            s.due("i " + i, x.prices(0, 3, 3, i), -1);
            s.due("i " + i + ", by none", x.prices(0, 3, 0, i), -1);
            notAtFoot("prices(.., 3, " + i + ")", (b, set) -> x.prices(b, set, 3, i), -1);
        }
    }

    private void see() {
        s.promise(39, "see");
        s.of("SEEN: its number;");
        WishBridges x = town();
        s.due("the first", x.see(3, 2), 0);
        s.due("the second, likewise", x.see(3, 2), 1);
        s.of("NONE, and nothing happens: 12 are there, no such ones.");
        String before = picture(x);
        for (int m : NO_MAN) {
            s.due("see(" + m + ", 0)", x.see(m, 0), -1);
        }
        for (int b : NO_BANK) {
            s.due("see(0, " + b + ")", x.see(0, b), -1);
        }
        s.yes("nothing happened", picture(x).equals(before));
        for (int i = 2; i < 12; i++) {
            s.due("see " + i, x.see(0, 1), i);
        }
        s.due("12 are there", x.see(0, 1), -1);
        s.due("12 still", x.count(9), 12);
        s.due("fits(13)", x.fits(13), -1);
        s.due("no thing done", x.count(8), 1);
    }

    private void say() {
        s.promise(40, "say");
        s.of("SAID (in place of what he said ahead): true;");
        WishBridges x = town();
        x.see(0, 0);
        x.see(1, 2);
        s.yes("say(0, 1)", x.say(0, 1));
        s.due("not so", x.trust(2), 0);
        s.yes("say(0, 2)", x.say(0, 2));
        s.due("so", x.trust(2), 1);
        s.due("who SAID something", x.count(11), 1);
        s.of("false: no such ones.");
        for (int m : NO_MAN) {
            s.no("say(" + m + ", 0)", x.say(m, 0));
        }
        for (int b : NO_BANK) {
            s.no("say(0, " + b + ")", x.say(0, b));
        }
        s.due("what he said ahead stands", x.trust(2), 1);
        s.due("nobody else", x.count(11), 1);
    }

    private void forget() {
        s.promise(41, "forget");
        s.of("All that was SEEN and SAID is forgotten: how many were SEEN.");
        WishBridges x = town();
        s.due("none", x.forget(), 0);
        for (int i = 0; i < 12; i++) {
            x.see(i % 4, i % 3);
        }
        x.say(0, 1);
        x.say(3, 1);
        s.due("twelve", x.forget(), 12);
        s.due("SEEN", x.count(9), 0);
        s.due("SAID", x.count(11), 0);
        s.due("all is open again", x.fits(0), 243);
        s.due("nothing is KNOWN", x.fits(1), -1);
        s.due("nobody is TRUE", x.trust(0), 0);
        s.due("again", x.forget(), 0);
        s.due("the next one's number", x.see(0, 0), 0);
    }

    private void fits() {
        s.promise(42, "fits");
        s.of("FITS;");
        WishBridges x = town();
        s.due("by 0", x.fits(0), 243);
        x.see(0, 1);
        s.due("by 1", x.fits(1), 81);
        x.see(0, 1);
        s.due("by 2", x.fits(2), 27);
        s.of("NONE: no such k.");
        for (int k : new int[] {-1, 3, 13, LEAST, MOST}) {
            s.due("by " + k, x.fits(k), -1);
        }
    }

    private void sure() {
        s.promise(43, "sure");
        s.of("SURE;");
        WishBridges x = town();
        x.see(0, 1);
        x.see(0, 2);
        x.see(0, 1);
        s.due("by 2", x.sure(2, 0), 2);
        s.of("-2: he may wish this or that, nothing FITS;");
        s.due("by 1", x.sure(1, 0), -2);
        s.due("of another one", x.sure(2, 1), -2);
        s.due("nothing FITS", x.sure(3, 0), -2);
        s.of("NONE: no such ones.");
        for (int k : new int[] {-1, 4, 13, LEAST, MOST}) {
            s.due("by " + k, x.sure(k, 0), -1);
        }
        for (int m : NO_MAN) {
            s.due("of " + m, x.sure(0, m), -1);
            s.due("of " + m + ", nothing FITS", x.sure(3, m), -1);
        }
    }

    private void trust() {
        s.promise(44, "trust");
        s.of("TRUE (bits);");
        WishBridges x = town();
        x.see(1, 1);
        x.see(1, 2);
        x.say(1, 2);
        x.say(3, 0);
        s.due("by 0", x.trust(0), 10);
        s.due("by 2", x.trust(2), 10);
        x.say(1, 0);
        s.due("by 2, not l", x.trust(2), 8);
        s.of("NONE: no such k.");
        for (int k : new int[] {-1, 3, 13, LEAST, MOST}) {
            s.due("by " + k, x.trust(k), -1);
        }
    }

    private void hold() {
        s.promise(45, "hold");
        s.of("All that goes on (not what is SEEN or SAID, nor the tape) is held in a SLOT (0 .. 2): true;");
        for (int slot = 0; slot < 3; slot++) {
            WishBridges x = Check.told(TOWN + "wishes k=0;goes=waited-1;");
            x.rule(1);
            x.cross(3, 1);
            x.hire(0, 1);
            x.cross(0, 0);
            String at = withoutThings(x);
            s.yes("hold(" + slot + ")", x.hold(slot));
            s.due("SLOTS", x.count(10), 1);
            s.due("things can be undone still", x.count(8), 4);
            x.rule(3);
            x.hire(1, 0);
            x.walk(2, 0);
            s.yes("restore(" + slot + ")", x.restore(slot));
            s.yes("all as it was in " + slot, withoutThings(x).equals(at.replaceFirst(" 0 0 -2 ", " 1 0 -2 ")));
        }
        WishBridges y = town();
        y.hold(0);
        y.see(0, 1);
        y.say(0, 1);
        y.feed(FOUR, FOUR, FOUR, FOUR, FOUR);
        y.restore(0);
        s.due("SEEN is not held", y.count(9), 1);
        s.due("SAID is not held", y.count(11), 1);
        s.due("nor the tape", y.count(7), 20);
        // Each holds its own; the later in place of the one ahead.
        WishBridges z = Check.told(TOWN);
        for (int slot = 0; slot < 3; slot++) {
            z.hours(slot + 1);
            z.hold(slot);
        }
        s.due("all three hold something", z.count(10), 3);
        z.hours(4);
        z.hold(1);
        int[] want = {1, 10, 6};
        for (int slot = 0; slot < 3; slot++) {
            z.restore(slot);
            s.due("hour of " + slot, z.count(4), want[slot]);
        }
        s.of("false: no such one.");
        WishBridges w = town();
        String before = picture(w);
        for (int slot : new int[] {-1, 3, LEAST, MOST}) {
            s.no("hold(" + slot + ")", w.hold(slot));
        }
        s.yes("nothing happened", picture(w).equals(before));
    }

    private void restore() {
        s.promise(46, "restore");
        s.of("It goes on from what a SLOT holds (that stays there; nothing can be undone then): true;");
        WishBridges x = town();
        x.hold(2);
        x.hours(5);
        s.yes("restore(2)", x.restore(2));
        s.due("hour", x.count(4), 1);
        s.due("nothing can be undone", x.count(8), 0);
        s.no("undo()", x.undo());
        s.due("it stays there", x.count(10), 1);
        x.hours(7);
        s.due("things from then on", x.count(8), 1);
        s.yes("restore(2) again", x.restore(2));
        s.due("hour again", x.count(4), 1);
        s.due("still nothing", x.count(8), 0);
        // It goes on: what comes later does not change what is held.
        x.cross(0, 0);
        x.restore(2);
        s.due("k has not crossed", x.man(0, 3), 0);
        s.of("false, and nothing happens: no such one, nothing is held.");
        x.hours(1);
        String before = picture(x);
        for (int slot : new int[] {-1, 3, LEAST, MOST}) {
            s.no("restore(" + slot + ")", x.restore(slot));
        }
        s.no("restore(0)", x.restore(0));
        s.no("restore(1)", x.restore(1));
        s.yes("nothing happened", picture(x).equals(before));
        s.yes("what was done can be undone still", x.undo());
        x.hold(0);
        x.hold(1);
        x.hours(1);
        before = picture(x);
        for (int slot : new int[] {-1, -30, -31, -32, -40, 3, 31, 32, 33, 34, LEAST, LEAST + 1, MOST}) {
            s.no("restore(" + slot + ") when all hold something", x.restore(slot));
        }
        s.yes("nothing happened", picture(x).equals(before));
    }

    private void count() {
        s.promise(47, "count");
        s.of("0 BANKS, 1 PATHS, 2 BRIDGES, 3 MEN, 4 the hour (from 0 on), 5 COSTS, 6 HIRED ones, 7 bytes on the tape, 8 things that "
                + "can be undone, 9 SEEN ones, 10 SLOTS that hold something, 11 MEN who SAID something (bits), 12 DAWN (-2: none).");
        WishBridges x = Check.told(TOWN + "dawn 17;hire 30;bridge z b;");
        int[] first = {3, 1, 3, 4, 0, 0, 0, 0, 0, 0, 0, 0, 17};
        for (int w = 0; w < 13; w++) {
            s.due("count(" + w + ")", x.count(w), first[w]);
        }
        x.hire(0, 1);
        x.hire(1, 1);
        x.hours(30);
        x.see(0, 1);
        x.see(0, 1);
        x.hold(0);
        x.hold(2);
        x.hold(2);
        x.say(1, 0);
        x.say(3, 2);
        x.feed(FOUR, FOUR, FOUR, FOUR, FOUR);
        int[] then = {3, 1, 3, 4, 32, 60, 2, 20, 3, 2, 2, 10, 17};
        for (int w = 0; w < 13; w++) {
            s.due("count(" + w + ") then", x.count(w), then[w]);
        }
        s.due("DAWN, none", town().count(12), -2);
        s.of("NONE for others.");
        for (int w : new int[] {-1, 13, 14, LEAST, MOST}) {
            s.due("count(" + w + ")", x.count(w), -1);
        }
    }

    /** As many of each sort as can be, and the last one of each. */
    private void fullTown() {
        s.of("0 BANKS, 1 PATHS, 2 BRIDGES, 3 MEN,");
        String text = "bank a;bank b;bank c;bank d;bank e;bank f;bridge w a;bridge x a;bridge y a;bridge z a f;path a f 9;";
        for (int i = 0; i < 9; i++) {
            text += "path a b 5;";
        }
        for (char m = 'g'; m <= 'm'; m++) {
            text += "man " + m + " a f 999;";
        }
        WishBridges x = Check.told(text);
        int[] counts = {6, 10, 4, 7};
        for (int w = 0; w < 4; w++) {
            s.due("count(" + w + ")", x.count(w), counts[w]);
        }
        s.due("bank(0)", x.bank(0), 127);
        s.due("bank(5)", x.bank(5), 0);
        s.due("bridge(3, 1)", x.bridge(3, 1), 5);
        s.due("bridge(3, 2)", x.bridge(3, 2), 0);
        s.due("wish(6, 3)", x.wish(6, 3), 5);
        s.due("follow(6, 3)", x.follow(6, 3), 0);
        s.due("way(6, 5, 0)", x.way(6, 5, 0), 1);
        s.due("reach(6, 10)", x.reach(6, 10), 35);
        s.due("reach(6, 11)", x.reach(6, 11), 63);
        s.due("where(6, 6)", x.where(6, 6), 0);
        s.due("where(6, 7)", x.where(6, 7), 5);
        s.due("homeBy(6)", x.homeBy(6), 7);
        s.due("allHome()", x.allHome(), 7);
        s.due("coins(300)", x.coins(300), 6993);
        s.due("odds(6, 7, 20)", x.odds(6, 7, 20), 20);
        s.due("waiting(6, 3)", x.waiting(6, 3), 0);
        fullRow(x);
        s.due("see(6, 5)", x.see(6, 5), 0);
        s.yes("say(6, 5)", x.say(6, 5));
        s.due("fits(1)", x.fits(1), 279936);
        s.due("sure(1, 6)", x.sure(1, 6), -2);
        s.due("trust(1)", x.trust(1), 64);
        s.due("count(11)", x.count(11), 64);
        s.due("walk(6, 5)", x.walk(6, 5), 9);
        s.yes("undo()", x.undo());
        s.due("pair(5, 6, 3)", x.pair(5, 6, 3), 5);
        s.due("homes()", x.homes(), 96);
        s.due("follow(0, 0): nobody wishes a", Check.told(text.replace(" a f 999", " a a 9") + "wishes m=1;wishes l=1;wishes k=1;"
                + "wishes j=1;wishes i=1;wishes h=1;").follow(0, 0), -2);
    }

    /** As many of each sort as can be; only the last MAN and the last BRIDGE do something. */
    private static final String FULL = "bank a;bank b;bank c;bank d;bank e;bank f;bridge w b;bridge x b;bridge y b;bridge z a;path e a 2;"
            + "man g b a 9;man h b a 9;man i b a 9;man j b a 9;man k b a 9;man l b a 9;man m e d 50;wishes m=3;toll z=5;";

    private static void lastOneDoes(WishBridges x, int i) {
        switch (i) {
            case 0: x.rule(3); break;
            case 1: x.walk(6, 0); break;
            case 2: x.rule(2); break;
            case 3: x.cross(6, 3); break;
            default: x.hire(3, 5);
        }
    }

    private void lastOnes() {
        s.promise(17, "undo");
        s.of("The last thing done (cross, pair, hire, walk, hours, rule) is undone: true;");
        WishBridges x = Check.told(FULL);
        s.due("where the last MAN is", x.man(6, 0), 4);
        String[] before = new String[5];
        for (int i = 0; i < 5; i++) {
            before[i] = withoutThings(x);
            lastOneDoes(x, i);
        }
        int[] man = {-2, 3, 45, 1, 0, 3};
        int[] bridge = {0, 5, 64, 1};
        for (int w = 0; w < 6; w++) {
            s.due("the last MAN, what " + w, x.man(6, w), man[w]);
            s.due("the last BRIDGE, what " + w, x.bridge(3, w), w < 4 ? bridge[w] : -1);
        }
        for (int i = 4; i >= 0; i--) {
            s.yes("undo() of " + i, x.undo());
            s.yes("as it was ahead of " + i, withoutThings(x).equals(before[i]));
        }
        s.promise(45, "hold");
        s.of("All that goes on (not what is SEEN or SAID, nor the tape) is held in a SLOT (0 .. 2): true;");
        for (int n = 0; n <= 5; n++) {
            WishBridges y = Check.told(FULL);
            for (int i = 0; i < n; i++) {
                lastOneDoes(y, i);
            }
            y.hold(2);
            String at = withoutThings(y);
            for (int i = n; i < 5; i++) {
                lastOneDoes(y, i);
            }
            y.rule(1);
            y.restore(2);
            s.yes("as it was held ahead of " + n, withoutThings(y).equals(at));
        }
        s.promise(19, "where");
        s.of("BEHIND n HOURS: the BANK where a MAN is (-2: ON a BRIDGE);");
        String men = "man g b b 0;man h b b 0;man i b b 0;man j b b 0;man k b b 0;man l b b 0;man m a b 1;";
        WishBridges w = Check.told("bank a;bank b;bridge z a b;" + men + "toll z=4-waited;");
        s.due("the last MAN behind 3", w.where(6, 3), 0);
        s.due("behind 4", w.where(6, 4), 1);
        w.rule(2);
        s.due("behind 1, as he has waited 2", w.where(6, 1), 0);
        s.due("behind 2, as he has waited 2", w.where(6, 2), 1);
        WishBridges t = Check.told(THREE + "bridge z a c;path a c 1;" + men + "wishes m=1;goes=times;");
        s.due("never, as he has not crossed", t.where(6, 9), 0);
        t.cross(6, 0);
        t.walk(6, 0);
        t.hire(0, 2);
        s.due("at once, as he has", t.where(6, 1), 2);
    }

    /** All seven are HOME by the last BRIDGE, in any order; each GAINS more the earlier he is. */
    private void fullRow(WishBridges x) {
        s.due("orders", x.orders(3, 127), 5040);
        s.due("orderAt(3, 127, 6)", x.orderAt(3, 127, 6), 6);
        s.due("wishers", x.wishers(3, 127), 0);
        s.due("wishers of a BRIDGE without LAST", x.wishers(0, 127), 0);
        s.due("wisherAt(3, 127, 6)", x.wisherAt(3, 127, 6), 6);
        for (int w = 0; w < 3; w++) {
            s.due("rings(3, 127, " + w + ")", x.rings(3, 127, w), w < 2 ? 1 : 0);
        }
        s.due("gain(3, 127, 0, 6)", x.gain(3, 127, 0, 6), 14);
        s.due("gain(3, 127, 63, 6)", x.gain(3, 127, 63, 6), 20);
        s.due("worth(3, 127, 127)", x.worth(3, 127, 127), 119);
        s.due("rests", x.rests(3, 127, -1), 2);
        s.due("the second of them", x.rests(3, 127, 1), 64);
        s.due("best", x.best(3, 127, false), 119);
        s.due("cost", x.best(3, 127, true), 0);
        s.due("prices", x.prices(3, 127, 3, -1), 5);
        s.due("price of the last BANK", x.prices(3, 127, 3, 5), 0);
    }
}
