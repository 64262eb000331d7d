import java.util.NoSuchElementException;

/** Each promise of the document with answers reckoned by hand: ordinary, at the edges, and refused. */
public final class PromiseTests {
    private static int wrong = 0;
    private static int checks = 0;

    private static void due(String what, long got, long want) {
        checks++;
        if (got != want) {
            wrong++;
            System.out.println(what + ": answered " + got + ", due is " + want);
        }
    }

    private static void is(String what, boolean got, boolean want) {
        due(what, got ? 1 : 0, want ? 1 : 0);
    }

    private static int feed(OneJoy joy, String text) {
        int size = joy.count(3);
        for (int i = 0; i < text.length(); i += 20) {
            int[] n = new int[5];
            for (int k = 0; k < 20; k++) {
                n[k / 4] = n[k / 4] << 8 | (i + k < text.length() ? text.charAt(i + k) : 0);
            }
            size = joy.feed(n[0], n[1], n[2], n[3], n[4]);
        }
        return size;
    }

    private static OneJoy village(String text) {
        OneJoy joy = new OneJoy();
        feed(joy, text);
        due("text(0) of " + text, joy.text(0), joy.count(0));
        is("houses of " + text, joy.count(0) > 0, true);
        return joy;
    }

    private static int faultOf(int sort, String text) {
        OneJoy joy = new OneJoy();
        feed(joy, text);
        int fault = joy.fault(sort);
        due("tape behind fault", joy.count(3), text.length());
        return fault;
    }

    private static void holdLaw(OneJoy joy, String text) {
        feed(joy, text);
        int law = joy.text(1);
        is("law " + text, law >= 0, true);
        is("holds " + text, joy.law(law), true);
    }

    private static boolean throwsNoSuch(OneJoy joy, int house, int what) {
        try {
            joy.house(house, what);
            return false;
        } catch (NoSuchElementException e) {
            return true;
        }
    }

    private static String many(String part, int n) {
        return part.repeat(n);
    }

    public static void main(String[] args) {
        p01new();
        p02feed();
        p03end();
        p04faultOfVillages();
        p04faultOfLaws();
        p05text();
        p06house();
        p07window();
        p08law();
        p09wish();
        p09laws();
        p10to13byHand();
        p14prescribe();
        p15lie();
        p16go();
        p17and18mist();
        p19undo();
        p20log();
        p21to25ahead();
        p26stand();
        p27lies();
        p28shutters();
        p29feast();
        p30and31odds();
        p32and33pretend();
        p34to36seen();
        p37sills();
        p38sees();
        p39and40laughs();
        p41and42image();
        p43count();
        System.out.println(checks + " checks, " + wrong + " wrong");
        if (wrong != 0) {
            System.exit(1);
        }
    }

    private static void p01new() {
        OneJoy joy = new OneJoy();
        due("houses of none", joy.count(0), 0);
        due("place of none", joy.count(6), -1);
        due("before of none", joy.count(7), -1);
        due("hour of none", joy.count(5), 0);
        due("wish of none", joy.wish(0), OneJoy.HIDDEN);
        is("turn of none", joy.turn(0, true), false);
        is("shut of none", joy.shut(0, true), false);
        due("constants", OneJoy.NONE, -1);
        due("constants", OneJoy.HIDDEN, -1000000);
    }

    private static void p02feed() {
        OneJoy joy = new OneJoy();
        due("bytes of 0 left out", joy.feed('d', 0, ';' << 24, 'd' << 8, 0), 3);
        due("highest first", joy.fault(0), -1);
        due("nothing", joy.feed(0, 0, 0, 0, 0), 3);
        due("high bytes", joy.feed(-1, 0, 0, 0, 0), 7);
        due("high bytes are signs", joy.fault(0), 3);
        joy.end(0);
        int d = 0x64646464;
        for (int i = 1; i <= 11; i++) {
            due("twenty more", joy.feed(d, d, d, d, d), 20 * i);
        }
        due("to 236", joy.feed(d, d, d, d, 0), 236);
        due("above 240", joy.feed(d, 0, 0, 0, 1), -1);
        due("nothing came", joy.count(3), 236);
        due("just 240", joy.feed(0, d, 0, 0, 0), 240);
        due("one above", joy.feed(0, 0, 0, 0, 1), -1);
        due("none above", joy.feed(0, 0, 0, 0, 0), 240);
    }

    private static void p03end() {
        OneJoy joy = new OneJoy();
        is("end 1 of none", joy.end(1), false);
        is("end 0 of none", joy.end(0), true);
        feed(joy, "d;d;x");
        is("below", joy.end(-1), false);
        is("above", joy.end(6), false);
        is("all", joy.end(5), true);
        is("three", joy.end(3), true);
        due("three left", joy.count(3), 3);
        due("two houses", joy.text(0), 2);
    }

    private static void p04faultOfVillages() {
        due("no such sort", faultOf(2, "d"), -2);
        due("no such sort", faultOf(-1, "d"), -2);
        due("none", faultOf(0, ""), 0);
        due("blanks alone", faultOf(0, "  "), 2);
        due("a house", faultOf(0, "d"), -1);
        due("blanks", faultOf(0, "  d  w 5 ; d "), -1);
        due("blank in a number", faultOf(0, "dw1 0"), 4);
        due("no house", faultOf(0, "v;w"), 3);
        due("ends with ;", faultOf(0, "d;"), 2);
        due("ends with ; and a blank", faultOf(0, "d; "), 3);
        due("ends at a letter", faultOf(0, "dw"), 2);
        due("house not told", faultOf(0, "d;d;va2"), 7);
        due("window to a house not told", faultOf(0, "d;d;wb2"), 7);
        due("window from a house not told", faultOf(0, "d;d;wa2"), 7);
        due("told behind", faultOf(0, "wb2;d;va2;d;d"), -1);
        due("window to itself", faultOf(0, "d;d;wa1"), 7);
        due("out of bounds at its last", faultOf(0, "vh24"), 3);
        due("out of bounds at its last", faultOf(0, "dw99;d"), 3);
        due("out of bounds, one digit", faultOf(0, "db2"), 2);
        due("a third digit, though out of bounds ahead", faultOf(0, "vh991"), 4);
        due("a third digit, though in bounds", faultOf(0, "dw001"), 4);
        due("naught ahead", faultOf(0, "dw09b01"), -1);
        due("letter again", faultOf(0, "dw1e2w3"), 5);
        due("letter of another clause", faultOf(0, "dh1"), 1);
        due("no number", faultOf(0, "dw;d"), 2);
        due("second v", faultOf(0, "v;d;v"), 4);
        due("thirteenth d", faultOf(0, "d" + many(";d", 12)), 24);
        due("twelve", faultOf(0, "d" + many(";d", 11)), -1);
        due("seventeenth w", faultOf(0, "d;d" + many(";w", 17)), 36);
        due("sixteen", faultOf(0, "d;d" + many(";w", 16)), -1);
        due("the bounds", faultOf(0, "va11h23m1" + many(";d", 12) + ";wa11b10o1"), -1);
        due("above them", faultOf(0, "va12;d"), 3);
        due("above them", faultOf(0, "d;d;wb12"), 7);
        due("above them", faultOf(0, "d;d;wo2"), 6);
        due("above them", faultOf(0, "vm2;d"), 2);
        due("above them", faultOf(0, "dt10"), 3);
    }

    private static void p04faultOfLaws() {
        due("none", faultOf(1, ""), 0);
        due("no sum", faultOf(1, "y:"), 2);
        due("sum", faultOf(1, "y:1"), -1);
        due("blanks", faultOf(1, " y : 1 + w ; y : w "), -1);
        due("blank in a number", faultOf(1, "y:1 2"), 4);
        due("four digits", faultOf(1, "y:9999"), -1);
        due("a fifth", faultOf(1, "y:00001"), 6);
        due("no such letter", faultOf(1, "y:a"), 2);
        due("condition without ?", faultOf(1, "y:w=1"), 5);
        due("condition without sum", faultOf(1, "y:w=1?"), 6);
        due("condition", faultOf(1, "y:w=1?2"), -1);
        due("second ?", faultOf(1, "y:w=1?2?"), 7);
        due("two signs", faultOf(1, "y:w=1=2"), 5);
        due("sum as a unit", faultOf(1, "y:w=1&k?2"), 7);
        due("sum in ( )", faultOf(1, "y:(w)"), 4);
        due("( ) has a condition", faultOf(1, "y:(w=1)"), 7);
        due("( ) is no atom", faultOf(1, "y:1+(w)"), 4);
        due("! before a sum", faultOf(1, "y:!w?1"), 4);
        due("! before a unit", faultOf(1, "y:!!(w=1|!e<2&k>[1])?1"), -1);
        due("six within", faultOf(1, "y:[[[[[[1]]]]]]"), -1);
        due("a seventh", faultOf(1, "y:[[[[[[[1"), 8);
        due("a seventh, mixed", faultOf(1, "y:!(!([[!"), 8);
        due("a seventh, mixed", faultOf(1, "y:!(!([[[1"), 8);
        due("side by side", faultOf(1, "y:[[[1]]]+[[[[[[1]]]]]]"), -1);
        due("a seventh !", faultOf(1, "y:!!!!!!!w=1?1"), 8);
        due("right of the sign too", faultOf(1, "y:!!!!!!w=[1]?1"), 10);
        due("the sum behind ? stands alone", faultOf(1, "y:!!!!!!w=1?[[[[[[1]]]]]]"), -1);
        due("ends with ;", faultOf(1, "y:1;"), 4);
        due("many clauses", faultOf(1, "y:1" + many(";y:1", 59)), -1);
        due("no negative", faultOf(1, "y:-1"), 2);
        due("closing alone", faultOf(1, "y:1]"), 3);
    }

    private static void p05text() {
        OneJoy joy = new OneJoy();
        feed(joy, "d;x");
        due("refused", joy.text(0), -1);
        due("no such sort", joy.text(2), -1);
        due("it stays", joy.count(3), 3);
        joy.end(1);
        due("one house", joy.text(0), 1);
        due("empty", joy.count(3), 0);
        due("the empty one is none", joy.text(0), -1);
        for (int i = 0; i < 4; i++) {
            feed(joy, "y:" + (i + 1));
            due("law's number", joy.text(1), i);
        }
        feed(joy, "y:5");
        due("four laws", joy.text(1), -1);
        due("it stays", joy.count(3), 3);
        joy.end(0);
        due("none holds of itself", joy.count(4), -1);
        is("one holds", joy.law(2), true);
        joy.mist(7);
        joy.fog(true);
        joy.go(3);
        joy.see(1, 0);
        joy.image();
        feed(joy, "va1h7m1;dw1e2p3k4t5b1;d;w");
        due("another", joy.text(0), 2);
        due("laws stay", joy.count(2), 4);
        due("which holds stays", joy.count(4), 2);
        due("mist stays", joy.count(11), 7);
        due("no fog", joy.count(9), 0);
        due("nothing seen", joy.count(12), 0);
        due("no log", joy.count(13), 0);
        due("no acts", joy.count(14), 0);
        due("no laughs", joy.count(10), 0);
        due("no image", joy.back(), -1);
        due("hour", joy.count(5), 7);
        due("place", joy.count(6), 1);
        due("before", joy.count(7), -1);
        due("music", joy.count(8), 1);
        joy.shut(0, true);
        feed(joy, "d;d;w");
        joy.text(0);
        due("open", joy.window(0, 3), 0);
        due("want at first", joy.house(0, 0), 5);
        due("back at first", joy.house(0, 5), 0);
    }

    private static void p06house() {
        OneJoy joy = village("dw1e2p3k4t6b1;d");
        for (int what = 0; what < 7; what++) {
            due("house(0, " + what + ")", joy.house(0, what), new int[] {1, 2, 3, 4, 6, 1, 0}[what]);
            due("house(1, " + what + ")", joy.house(1, what), new int[] {5, 1, 1, 0, 0, 0, 0}[what]);
        }
        joy.go(1);
        due("laughed", joy.house(0, 6), 1);
        is("below", throwsNoSuch(joy, -1, 0), true);
        is("above", throwsNoSuch(joy, 2, 0), true);
        is("what below", throwsNoSuch(joy, 0, -1), true);
        is("what above", throwsNoSuch(joy, 0, 7), true);
        is("no village", throwsNoSuch(new OneJoy(), 0, 0), true);
    }

    private static void p07window() {
        OneJoy joy = village("d;d;d;w;wa2b1o1");
        due("ends", joy.window(0, 0), 0);
        due("ends", joy.window(0, 1), 1);
        due("ends", joy.window(1, 0), 2);
        due("ends", joy.window(1, 1), 1);
        due("two ways", joy.window(0, 2), 0);
        due("one way", joy.window(1, 2), 1);
        due("open", joy.window(1, 3), 0);
        joy.shut(1, true);
        due("shut", joy.window(1, 3), 1);
        due("below", joy.window(-1, 0), -1);
        due("above", joy.window(2, 0), -1);
        due("what", joy.window(0, -1), -1);
        due("what", joy.window(0, 4), -1);
    }

    private static void p08law() {
        OneJoy joy = new OneJoy();
        is("none", joy.law(-1), true);
        is("no such", joy.law(0), false);
        is("below", joy.law(-2), false);
        feed(joy, "y:7");
        joy.text(1);
        is("it", joy.law(0), true);
        due("holds", joy.count(4), 0);
        is("above", joy.law(1), false);
        due("still holds", joy.count(4), 0);
        is("again", joy.law(0), true);
        is("none", joy.law(-1), true);
        due("none holds", joy.count(4), -1);
    }

    private static void p09wish() {
        OneJoy joy = village("dw7t2;dw8t9b1");
        due("want", joy.wish(0), 7);
        due("back", joy.wish(1), 0);
        joy.music(true);
        due("less tune", joy.wish(0), 5);
        due("0 less tune", joy.wish(1), -9);
        due("no such", joy.wish(2), -1000000);
        due("no such", joy.wish(-1), -1000000);
    }

    private static int worth(String law) {
        OneJoy joy = village("va0h5;dw1e2p3k4t6b1;d");
        joy.go(1);
        joy.music(true);
        holdLaw(joy, law);
        return joy.wish(0);
    }

    private static void p09laws() {
        due("letters", worth("y:w*1000+e*100+p*10+k"), 1234);
        due("letters", worth("y:t*1000+b*100+u*10+h"), 6116);
        due("left to right", worth("y:9-5-2"), 2);
        due("left to right", worth("y:9/2*2"), 8);
        due("stronger", worth("y:1+2*3"), 7);
        due("[ ]", worth("y:[1+2]*3"), 9);
        due("cut towards 0", worth("y:[0-7]/2"), -3);
        due("by 0", worth("y:7/[1-1]"), 0);
        due("bound", worth("y:9999*9999"), 1000000);
        due("bound below", worth("y:[0-9999]*9999+1"), -999999);
        due("bound behind each sign", worth("y:9999*9999-1+2"), 1000000);
        due("first that holds", worth("y:w=2?1;y:w=1?2;y:3"), 2);
        due("else", worth("y:w=2?1;y:w>1?2;y:3;y:4"), 3);
        due("none holds", worth("y:w=2?1"), 0);
        due("less", worth("y:w<e?1"), 1);
        due("not less", worth("y:w<1?1"), 0);
        due("more", worth("y:e>w?1"), 1);
        due("& is stronger than |", worth("y:w=1|w=2&w=3?1"), 1);
        due("& needs both", worth("y:w=1&w=2?1"), 0);
        due("( )", worth("y:(w=1|w=2)&w=3?1"), 0);
        due("! of a unit alone", worth("y:!w=2&w=1?1"), 1);
        due("! of ( )", worth("y:!(w=2|w=1)?1"), 0);
        due("!!", worth("y:!!w=1?1"), 1);
        due("deep", worth("y:!(!([[1+w]]=3))?5"), 0);
        due("deep", worth("y:!(!([[1+w]]=2))?5"), 5);
        due("the time goes round", timeBehindADay(), 5);
    }

    private static int timeBehindADay() {
        OneJoy joy = village("vh23;d");
        joy.go(6);
        holdLaw(joy, "y:h");
        return joy.wish(0);
    }

    private static void p10to13byHand() {
        OneJoy joy = village("d;db1;w");
        is("it is so", joy.turn(0, false), false);
        is("turn", joy.turn(0, true), true);
        is("turn back", joy.turn(1, false), true);
        due("turned", joy.house(0, 5), 1);
        due("turned", joy.house(1, 5), 0);
        is("no such", joy.turn(2, true), false);
        is("no such", joy.turn(-1, true), false);
        is("it is so", joy.shut(0, false), false);
        is("shut", joy.shut(0, true), true);
        is("it is so", joy.shut(0, true), false);
        is("no such", joy.shut(1, true), false);
        is("no such", joy.shut(-1, true), false);
        is("open", joy.shut(0, false), true);
        is("it is so", joy.music(false), false);
        is("music", joy.music(true), true);
        due("music", joy.count(8), 1);
        is("it is so", joy.fog(false), false);
        is("fog", joy.fog(true), true);
        due("fog", joy.count(9), 1);
        due("acts", joy.count(14), 6);
        is("none", new OneJoy().music(true), false);
        is("none", new OneJoy().fog(true), false);
    }

    private static void p14prescribe() {
        OneJoy joy = village("dw8");
        due("nine", joy.prescribe(0), 9);
        due("it has 9", joy.prescribe(0), -1);
        due("no such", joy.prescribe(1), -1);
        due("one act", joy.count(14), 1);
        due("want", joy.house(0, 0), 9);
    }

    private static void p15lie() {
        OneJoy joy = village("d;d;d;d;d");
        due("three on", joy.lie(), 3);
        due("round", joy.lie(), 1);
        due("before", joy.count(7), 3);
        due("acts", joy.count(14), 2);
        due("no hour", joy.count(5), 0);
        due("no log", joy.count(13), 0);
        due("none", new OneJoy().lie(), -1);
        due("one house", village("d").lie(), -1);
        OneJoy three = village("d;d;d");
        due("three houses", three.lie(), -1);
        due("no act", three.count(14), 0);
        due("two houses", village("d;d").lie(), 1);
    }

    private static void p16go() {
        OneJoy joy = village("va1;dw3;d;dw2;dw2;w;wa1b2;wa1b3");
        due("an hour", joy.go(1), 1);
        due("least wish, lowest", joy.count(6), 2);
        due("before", joy.count(7), 1);
        joy.go(1);
        due("never to before alone", joy.count(6), 2);
        due("before as it was", joy.count(7), 1);
        OneJoy peace = village("dp3;de1;de1;w;wa0b2");
        peace.go(1);
        due("less than its peace", peace.count(6), 0);
        OneJoy calm = village("dp2;de1;de1;w;wa0b2");
        calm.go(1);
        due("its peace", calm.count(6), 1);
        OneJoy still = village("dp0;d");
        due("none sees", still.go(2), 2);
        due("it stays", still.count(6), 0);
        OneJoy twice = village("dp2;de1;w;w");
        twice.go(1);
        due("two windows, one house", twice.count(6), 0);
        OneJoy way = village("va1;d;d;wo1");
        way.go(1);
        due("one way", way.count(6), 1);
        OneJoy back = village("dp0;dp2e0;d;w;wa1b2");
        back.go(2);
        due("envy of before counts, too", back.count(6), 2);
        kidsAndEnds();
    }

    private static void kidsAndEnds() {
        OneJoy joy = village("vh5;dk3;dk2");
        joy.go(1);
        due("not at 5", joy.count(10), 1);
        joy.go(1);
        due("at 6", joy.house(0, 6), 1 + 1 + 3);
        due("at 6", joy.house(1, 6), 2);
        joy.go(1);
        due("not at 7", joy.count(10), 8);
        joy.fog(true);
        joy.go(24);
        due("in fog, too", joy.house(1, 6), 4);
        due("none", new OneJoy().go(1), -1);
        due("bounds", joy.go(0), -1);
        due("bounds", joy.go(241), -1);
        OneJoy long1 = village("vh9;d");
        for (int i = 0; i < 41; i++) {
            long1.go(240);
        }
        due("hour", long1.count(5), 9849);
        due("above", long1.go(151), -1);
        due("changes nothing", long1.count(5), 9849);
        due("the last", long1.go(150), 9999);
        due("above", long1.go(1), -1);
        due("above", long1.mists(1, 1), -1);
        due("without end ahead", long1.ahead(9), 0);
    }

    private static void p17and18mist() {
        OneJoy joy = new OneJoy();
        is("it is so", joy.mist(0), false);
        is("99", joy.mist(99), true);
        is("it is so", joy.mist(99), false);
        is("above", joy.mist(100), false);
        is("below", joy.mist(-1), false);
        due("mist", joy.count(11), 99);
        due("none", joy.mists(1, 1), -1);
        long x = 12345L;
        int fogless = 0;
        for (int i = 0; i < 24; i++) {
            x = x * 6364136223846793005L + 1442695040888963407L;
            fogless += (x >>> 33) % 100 < 60 ? 0 : 1;
        }
        OneJoy ring = village("d;d;d;d;d;wo1;wa1b2o1;wa2b3o1;wa3b4o1;wa4b0o1");
        ring.mist(60);
        due("hours", ring.mists(24, 12345L), 24);
        due("one on in each without fog", ring.count(6), fogless % 5);
        due("no fog stays", ring.count(9), 0);
        due("acts", ring.count(14), 24);
        ring.fog(true);
        int at = ring.count(6);
        ring.mists(20, 5);
        due("fog by hand", ring.count(6), at);
        ring.fog(false);
        ring.mist(0);
        ring.mists(3, 5);
        due("no mist", ring.count(6), (at + 3) % 5);
        fogAheadOfAnHour();
        due("bounds", ring.mists(0, 1), -1);
        due("bounds", ring.mists(241, 1), -1);
        due("most", ring.mists(240, -1), 287);
    }

    private static long drawBehind(long seed, int n) {
        long x = seed;
        for (int i = 0; i < n; i++) {
            x = x * 6364136223846793005L + 1442695040888963407L;
        }
        return (x >>> 33) % 100;
    }

    private static void fogAheadOfAnHour() {
        long seed = 0;
        for (int i = 0; i < 1000 && (drawBehind(seed, 1) >= 50 || drawBehind(seed, 2) < 50); i++) {
            seed++;
        }
        OneJoy joy = village("dp0;d;dk1;w;wa0b2");
        holdLaw(joy, "y:h=1?9-k;y:k");
        joy.mist(50);
        due("fog, then none", joy.mists(2, seed), 2);
        due("the wish of the second hour", joy.count(6), 2);
        due("below, not at it", drawBehind(seed, 1) < 50 ? 1 : 0, 1);
        joy.undo();
        joy.undo();
        joy.mist((int) drawBehind(seed, 1));
        joy.mists(1, seed);
        due("a draw that is MIST is no fog", joy.count(6), 1);
        joy.undo();
        joy.mist((int) drawBehind(seed, 1) + 1);
        joy.mists(1, seed);
        due("a draw below MIST is fog", joy.count(6), 0);
    }

    private static void p19undo() {
        OneJoy joy = village("vh5;dk2w4;d;d;d;d;w");
        due("none", joy.undo(), -1);
        joy.go(2);
        joy.turn(0, true);
        joy.shut(0, true);
        joy.music(true);
        joy.fog(true);
        joy.prescribe(0);
        joy.lie();
        due("acts", joy.count(14), 8);
        due("lie", joy.undo(), 7);
        due("place", joy.count(6), 1);
        due("before", joy.count(7), 0);
        due("prescribed", joy.undo(), 6);
        due("want", joy.house(0, 0), 4);
        joy.undo();
        due("fog", joy.count(9), 0);
        joy.undo();
        due("music", joy.count(8), 0);
        joy.undo();
        due("shut", joy.window(0, 3), 0);
        joy.undo();
        due("back", joy.house(0, 5), 0);
        due("kids", joy.house(0, 6), 2);
        due("an hour", joy.undo(), 1);
        due("kids", joy.house(0, 6), 0);
        due("log", joy.count(13), 1);
        due("hour", joy.count(5), 6);
        due("the first", joy.undo(), 0);
        due("place", joy.count(6), 0);
        due("before", joy.count(7), -1);
        due("laughs", joy.count(10), 0);
        due("none", joy.undo(), -1);
        joy.mist(5);
        joy.law(-1);
        due("no acts", joy.count(14), 0);
        joy.go(50);
        due("forty", joy.count(14), 40);
        for (int i = 39; i >= 0; i--) {
            due("back by one", joy.undo(), i);
        }
        due("none", joy.undo(), -1);
        due("ten are left", joy.count(5), 15);
    }

    private static void p20log() {
        OneJoy joy = village("d;d;d;d;d;d;d;wo1;wa1b2o1;wa2b3o1;wa3b4o1;wa4b5o1;wa5b6o1;wa6b0o1");
        due("none", joy.log(0), -1);
        joy.go(3);
        due("latest", joy.log(0), 3);
        due("first", joy.log(2), 1);
        due("no such", joy.log(3), -1);
        due("no such", joy.log(-1), -1);
        joy.go(97);
        due("sixty", joy.count(13), 60);
        for (int i = 0; i < 60; i++) {
            due("log(" + i + ")", joy.log(i), (100 - i) % 7);
        }
        due("no such", joy.log(60), -1);
        for (int i = 0; i < 40; i++) {
            joy.undo();
        }
        due("still sixty", joy.count(13), 60);
        for (int i = 0; i < 60; i++) {
            due("undone log(" + i + ")", joy.log(i), (60 - i) % 7);
        }
        joy.lie();
        due("a lie is no hour", joy.log(0), 4);
    }

    private static void p21to25ahead() {
        OneJoy joy = village("vh23;d;d;d;d;d;wo1;wa1b2o1;wa2b3o1;wa3b1o1");
        joy.fog(true);
        due("as it is", joy.ahead(0), 0);
        due("without fog", joy.ahead(1), 1);
        due("round", joy.ahead(4), 1);
        due("the last", joy.ahead(99), 3);
        due("bounds", joy.ahead(100), -1);
        due("bounds", joy.ahead(-1), -1);
        due("when", joy.when(0), 0);
        due("when", joy.when(3), 3);
        due("never", joy.when(4), -1);
        due("no such", joy.when(5), -1);
        due("no such", joy.when(-1), -1);
        // At 1 from 0 it is but once: the loop has 1 from 3.
        due("ahead of the loop", joy.round(0), 2);
        due("24 hours and 3 houses", joy.round(1), 24);
        due("no such", joy.round(2), -1);
        due("no such", joy.round(-1), -1);
        due("never", joy.never(), 16);
        due("feud", joy.feud(), 14);
        due("nothing changed", joy.count(5), 23);
        OneJoy five = village("d;d;d;d;d;wo1;wa1b2o1;wa2b3o1;wa3b4o1;wa4b0o1");
        due("five by 24", five.round(1), 120);
        due("none before at first", five.round(0), 1);
        due("never", five.never(), 0);
        due("feud", five.feud(), 31);
    }

    private static void p26stand() {
        OneJoy joy = village("dp0;dw3;dw5;dw7b1;w;wa0b2;wa0b3");
        due("it goes to the back turned", joy.stand(3, 1), 0);
        due("of backs the lowest", joy.stand(1, 1), 2);
        due("behind the turned ones", joy.stand(2, 1), 4);
        due("none can", joy.stand(0, 1), -1);
        due("no such", joy.stand(4, 1), -1);
        due("no such", joy.stand(-1, 1), -1);
        due("bounds", joy.stand(1, 0), -1);
        due("bounds", joy.stand(1, 31), -1);
        due("as it was", joy.house(1, 5), 0);
        OneJoy two = village("dw5;dw5;dw9;dw5;dw9;w;wa0b2;wa2b3;wa2b4");
        due("two", two.stand(4, 2), 1 << 2 | 1 << 4);
        due("the last bound", two.stand(4, 30), 1 << 2 | 1 << 4);
        // Both 1 and 4 alone would do: 0, 1, 4 or 0, 2, 4.
        OneJoy ways = village("dp0;dw5;dw3;dw5;dw7;w;wa0b2;wa2b3;wa2b4;wa1b4");
        due("of several the least", ways.stand(4, 2), 2);
        // Both 1 and 4 alone would do: 0, 3, 1 or 0, 4, 1.
        OneJoy others = village("dp0;dw7;dw3;dw3;dw5;wa0b3;wa0b4;wa3b1;wa3b2;wa4b1");
        due("of several the least", others.stand(1, 2), 2);
        OneJoy either = village("de1w5;dw5;dw6;w;wa0b2");
        due("fewest first", either.stand(1, 1), 0);
    }

    private static void p27lies() {
        OneJoy joy = village("d;d;d;d;d");
        due("it is there", joy.lies(0, 0), 0);
        due("not ahead of none", joy.lies(3, 0), -1);
        due("one", joy.lies(3, 1), 1);
        due("one is enough", joy.lies(3, 30), 1);
        due("two", joy.lies(1, 2), 2);
        due("not so soon", joy.lies(1, 1), -1);
        due("four", joy.lies(2, 4), 4);
        due("none", joy.lies(0, 30), 0);
        due("no such", joy.lies(5, 3), -1);
        due("bounds", joy.lies(0, 31), -1);
        due("bounds", joy.lies(0, -1), -1);
        due("no lies among three", village("d;d;d").lies(1, 9), -1);
        OneJoy drawn = village("d;d;d;d;d;wa3b4");
        due("a lie and a window", drawn.lies(4, 1), 1);
        due("behind just so many", drawn.lies(3, 1), -1);
    }

    private static void p28shutters() {
        OneJoy joy = village("dp0;d;d;wa0b1;wa0b1;wa0b2;wa1b2");
        due("it is there", joy.shutters(0), -1);
        // It goes by 1 to 2, and at 1 it can only wait if the way on is shut.
        due("one", joy.shutters(2), 8);
        due("least bits of three", joy.shutters(1), 7);
        due("no such", joy.shutters(3), -1);
        due("no such", joy.shutters(-1), -1);
        OneJoy four = village("dp0;d;w;w;w;w");
        due("not by three", four.shutters(1), -1);
        four.shut(2, true);
        due("three open ones", four.shutters(1), 1 | 2 | 8);
        OneJoy none = village("d;d");
        due("none is enough", none.shutters(1), 0);
        due("as it was", four.window(0, 3), 0);
    }

    private static void p29feast() {
        OneJoy joy = village("dp0;dw5;dw3;dw9;w;wa0b2;wa0b3");
        due("none has to", joy.feast(2, 1, 0), 0);
        due("none has to", joy.feast(2, 1, 1), -1);
        due("as much is enough: 1 is lower", joy.feast(1, 1, 0), 2);
        due("who", joy.feast(1, 1, 1), 2);
        due("no such one alone", joy.feast(3, 1, 0), -1);
        due("no such one alone", joy.feast(3, 1, 1), -1);
        due("no such", joy.feast(4, 1, 0), -1);
        due("no such", joy.feast(1, 1, 2), -1);
        due("no such", joy.feast(1, 1, -1), -1);
        due("bounds", joy.feast(1, 0, 0), -1);
        due("bounds", joy.feast(1, 31, 0), -1);
        due("as it was", joy.house(2, 0), 3);
        due("the last bound", village("d").feast(0, 30, 0), 0);
        OneJoy full = village("dp0;dw9;dw9;w;wa0b2");
        due("nine at most", full.feast(2, 1, 0), -1);
        OneJoy nine = village("dp0;dw0;dw8;w;wa0b2");
        due("nine more", nine.feast(2, 1, 0), 9);
        due("who", nine.feast(2, 1, 1), 1);
    }

    private static void p30and31odds() {
        OneJoy joy = village("d;d;d;d;wo1;wa1b2o1;wa2b3o1");
        joy.fog(true);
        due("at once", joy.odds(0, 0, 30), 1000000000);
        due("elsewhere", joy.odds(1, 0, 30), 0);
        due("stays", joy.odds(0, 1, 30), 300000000);
        due("goes", joy.odds(1, 1, 30), 700000000);
        due("twice", joy.odds(0, 2, 30), 90000000);
        due("either", joy.odds(1, 2, 30), 420000000);
        due("all fog", joy.odds(0, 30, 100), 1000000000);
        due("no fog", joy.odds(3, 3, 0), 1000000000);
        // 33 of 100 again and again: 330000000, 108900000, 35937000, 11859210, 3913539, 1291467 (cut).
        due("cut", joy.odds(0, 6, 33), 1291467);
        due("bounds", joy.odds(0, 31, 30), -1);
        due("bounds", joy.odds(0, -1, 30), -1);
        due("bounds", joy.odds(0, 1, 101), -1);
        due("bounds", joy.odds(0, 1, -1), -1);
        due("no such", joy.odds(4, 1, 30), -1);
        OneJoy byTime = village("dp0;d;dk1;w;wa0b2");
        holdLaw(byTime, "y:h=1?9-k;y:k");
        due("an hour later another wish", byTime.odds(2, 2, 50), 250000000);
        due("to the first one at once alone", byTime.odds(1, 2, 50), 500000000);
        due("mean", joy.mean(1, 2, 30), (700000000 + 420000000) / 1000);
        due("mean, cut", joy.mean(0, 6, 33), (330000000 + 108900000 + 35937000 + 11859210 + 3913539 + 1291467) / 1000);
        due("mean at most", joy.mean(0, 30, 100), 30000000);
        due("bounds", joy.mean(0, 0, 30), -1);
        due("bounds", joy.mean(0, 31, 30), -1);
        due("bounds", joy.mean(0, 1, 101), -1);
        due("no such", joy.mean(-1, 1, 30), -1);
    }

    private static void p32and33pretend() {
        // It stands at 2 and looks at 0 and 1; from each of them there is no way on.
        OneJoy joy = village("va2;dw5k9;dw4k9;dp0;wa2b0o1;wa2b1o1");
        due("the lesser wish", joy.pretend(0, 1, 0, 0), -24);
        due("its back", joy.pretend(0, 1, 1, 0), 24);
        due("the other's back", joy.pretend(0, 1, 0, 1), -24);
        due("both: the lowest", joy.pretend(0, 1, 1, 1), 24);
        due("the other way", joy.pretend(1, 0, 0, 1), -24);
        due("no such", joy.pretend(0, 3, 0, 0), -1000000);
        due("no such", joy.pretend(-1, 0, 0, 0), -1000000);
        due("alike", joy.pretend(1, 1, 0, 0), -1000000);
        due("bounds", joy.pretend(0, 1, 2, 0), -1000000);
        due("bounds", joy.pretend(0, 1, 0, -1), -1000000);
        // The one has more with its back, whatever the other does: 10 and 11.
        due("how many", joy.rests(0, 1, -1), 2);
        due("first", joy.rests(0, 1, 0), 10);
        due("second", joy.rests(0, 1, 1), 11);
        due("no such", joy.rests(0, 1, 2), -1);
        due("no such", joy.rests(0, 1, -2), -1);
        // The other way round the lowest has the last word: x is free where y is 1.
        due("how many", joy.rests(1, 0, -1), 2);
        due("first", joy.rests(1, 0, 0), 1);
        due("second", joy.rests(1, 0, 1), 11);
        due("alike", joy.rests(1, 1, -1), -1);
        due("no such", joy.rests(0, 3, -1), -1);
    }

    private static void p34to36seen() {
        OneJoy joy = village("dp2;de2w5;de1w3;wo1;wa0b2o1");
        due("all sets", joy.envied(-1), 8);
        due("none in all", joy.sure(), 0);
        due("one", joy.see(1, 2), 1);
        // 1 alone or with any other has 2; 2 alone has 1 only.
        due("sets", joy.envied(-1), 4);
        due("rising", joy.envied(0), 2);
        due("rising", joy.envied(1), 3);
        due("rising", joy.envied(3), 7);
        due("no such", joy.envied(4), -1);
        due("no such", joy.envied(-2), -1);
        due("sure", joy.sure(), 2);
        due("bounds", joy.see(0, 0), -1);
        due("bounds", joy.see(21, 0), -1);
        due("no such", joy.see(1, 3), -1);
        for (int i = 2; i <= 12; i++) {
            due("seen", joy.see(20, 2), i);
        }
        due("twelve", joy.see(20, 2), -1);
        due("still", joy.envied(-1), 4);
        joy.go(1);
        due("from when it is asked", joy.envied(-1), 8);
        OneJoy not = village("d;d");
        not.see(3, 1);
        due("no set", not.envied(-1), 0);
        due("no set", not.envied(0), -1);
        due("no set", not.sure(), -1);
        due("none", new OneJoy().envied(-1), -1);
        due("none", new OneJoy().sure(), -1);
        due("none", new OneJoy().see(1, 0), -1);
        OneJoy wish = village("dp0;dw5e3;dw5e7;w;wa0b2");
        holdLaw(wish, "y:0-e");
        wish.see(1, 2);
        due("wishes with envy as it is", wish.envied(-1), 8);
    }

    private static void p37sills() {
        OneJoy joy = village("d;d;d;d;wa1b0o1;wa1b2;wa0b1o1;wa0b1;wa2b1;wa2b3");
        // 0 to 1 by the third, 1 to 2 by the second, 2 to 3 by the last.
        due("sills", joy.sills(), 1 << 2 | 1 << 1 | 1 << 5);
        joy.shut(2, true);
        joy.fog(true);
        due("the lowest open", joy.sills(), 1 << 3 | 1 << 1 | 1 << 5);
        due("none", new OneJoy().sills(), -1);
        sillsBehindTwoDays();
        OneJoy late = village("d;d;d;wa0b1");
        holdLaw(late, "y:w");
        due("one way on", late.sills(), 1);
        due("none", village("d").sills(), 0);
    }

    /** Round five houses; by the last window only from that house at that time, which is in just one of 120 hours. */
    private static void sillsBehindTwoDays() {
        String ring = "d;d;d;d;d;dk1;wo1;wa1b2o1;wa2b3o1;wa3b4o1;wa4b0o1;";
        OneJoy in = village(ring + "wa2b5o1");
        holdLaw(in, "y:h=23&k=1?0;y:k=1?9;y:5");
        due("in the 48th hour", in.sills(), 63);
        OneJoy behind = village(ring + "wa3b5o1");
        holdLaw(behind, "y:h=0&k=1?0;y:k=1?9;y:5");
        due("in the 49th hour", behind.sills(), 31);
        due("it goes there then", behind.ahead(49), 5);
    }

    private static void p38sees() {
        OneJoy joy = village("d;d;d;d;wo1;wa1b2;wa3b1o1");
        due("sees", joy.sees(0), 2);
        due("sees", joy.sees(1), 4);
        due("sees", joy.sees(2), 2);
        due("sees", joy.sees(3), 2);
        joy.shut(1, true);
        due("shut", joy.sees(1), 0);
        due("no such", joy.sees(4), -1);
        due("no such", joy.sees(-1), -1);
    }

    private static void p39and40laughs() {
        OneJoy joy = village("vh6;d;dk2;dk2;d");
        due("most of none", joy.most(), 0);
        due("all", joy.widows(), 15);
        joy.go(1);
        due("of several the lowest", joy.most(), 1);
        due("widows", joy.widows(), 8);
        joy.go(2);
        due("most", joy.most(), 0);
        due("none", new OneJoy().most(), -1);
        due("none", new OneJoy().widows(), -1);
    }

    private static void p41and42image() {
        OneJoy joy = village("vh5;dw4k1;d;d;d;d;w");
        due("no image", joy.back(), -1);
        due("none", new OneJoy().image(), -1);
        due("none", new OneJoy().back(), -1);
        joy.go(2);
        due("image", joy.image(), 7);
        due("acts stay", joy.count(14), 2);
        joy.turn(0, true);
        joy.shut(0, true);
        joy.music(true);
        joy.fog(true);
        joy.prescribe(0);
        joy.lie();
        joy.go(70);
        joy.see(1, 1);
        joy.mist(3);
        for (int i = 0; i < 2; i++) {
            due("back", joy.back(), 7);
            due("no act", joy.undo(), -1);
            due("place", joy.count(6), 1);
            due("before", joy.count(7), 0);
            due("music", joy.count(8), 0);
            due("fog", joy.count(9), 0);
            due("laughs", joy.count(10), 3);
            due("log", joy.count(13), 2);
            due("log", joy.log(1), 1);
            due("hour", joy.count(5), 7);
            due("shut", joy.window(0, 3), 0);
            due("turned", joy.house(0, 5), 0);
            due("want", joy.house(0, 0), 4);
            due("seen stays", joy.count(12), 1);
            due("mist stays", joy.count(11), 3);
            joy.go(1);
            due("an act again", joy.count(14), 1);
        }
        joy.image();
        joy.go(1);
        due("instead of the one ahead", joy.back(), 8);
    }

    private static void p43count() {
        OneJoy joy = village("va1h4m1;d;d;w");
        int[] first = {2, 1, 0, 0, -1, 4, 1, -1, 1, 0, 0, 0, 0, 0, 0};
        for (int i = 0; i < first.length; i++) {
            due("count(" + i + ")", joy.count(i), first[i]);
        }
        holdLaw(joy, "y:1");
        feed(joy, "d;d");
        joy.go(1);
        joy.mist(4);
        joy.music(false);
        joy.fog(true);
        joy.see(3, 1);
        int[] then = {2, 1, 1, 3, 0, 5, 0, 1, 0, 1, 1, 4, 1, 1, 3};
        for (int i = 0; i < then.length; i++) {
            due("count(" + i + ") then", joy.count(i), then[i]);
        }
        due("others", joy.count(15), -1000000);
        due("others", joy.count(-1), -1000000);
    }
}
