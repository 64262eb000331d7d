/** Boundaries of what is done by hand, of hours, mists, undoing and the log: promises 10 to 20. */
public final class EdgesByHand extends Edges {
    private static final String RING7 = "d;d;d;d;d;d;d;wo1;wa1b2o1;wa2b3o1;wa3b4o1;wa4b5o1;wa5b6o1;wa6b0o1";
    private static final String FOUR_WINDOWS = "d;d;d;w;wb2;wa1b2";

    public static void main(String[] args) {
        turn();
        shut();
        music();
        fog();
        prescribe();
        lie();
        goBounds();
        lastHour();
        whetherItGoes();
        whereItGoes();
        laughs();
        kids();
        mist();
        mistsBounds();
        draws();
        undo();
        undoEachKind();
        undoForty();
        noActs();
        log();
        logBehindUndo();
        finish(10, 11, 12, 13, 14, 15, 16, 17, 18, 19, 20);
    }

    private static void turn() {
        edge(10, "it turns its back", () -> {
            OneJoy joy = village("d;d");
            yes(joy.turn(1, true));
            due(1, joy.house(1, 5));
            due(0, joy.house(0, 5));
        });
        edge(10, "or not", () -> {
            OneJoy joy = village("d;db1");
            yes(joy.turn(1, false));
            due(0, joy.house(1, 5));
        });
        edge(10, "False: it is so, turned", 0, () -> bit(village("d;db1").turn(1, true)));
        edge(10, "False: it is so, not turned", 0, () -> bit(village("d;db1").turn(0, false)));
        edge(10, "False: house -1", 0, () -> bit(village("d;d").turn(-1, true)));
        edge(10, "False: one above", 0, () -> bit(village("d;d").turn(2, true)));
        edge(10, "False: a 13th", 0, () -> bit(village(TWELVE).turn(12, true)));
        edge(10, "False: no village", 0, () -> bit(new OneJoy().turn(0, true)));
        edge(10, "the last of twelve", () -> {
            OneJoy joy = village(TWELVE);
            yes(joy.turn(11, true));
            due(1, joy.house(11, 5));
            due(0, joy.wish(11));
        });
        edge(10, "an act", () -> {
            OneJoy joy = village("d");
            joy.turn(0, true);
            joy.turn(0, false);
            due(2, joy.count(14));
        });
    }

    private static void shut() {
        edge(11, "shut", () -> {
            OneJoy joy = village(FOUR_WINDOWS);
            yes(joy.shut(1, true));
            due(1, joy.window(1, 3));
            due(0, joy.window(0, 3));
            due(0, joy.window(2, 3));
        });
        edge(11, "or open", () -> {
            OneJoy joy = village(FOUR_WINDOWS);
            joy.shut(1, true);
            yes(joy.shut(1, false));
            due(0, joy.window(1, 3));
        });
        edge(11, "False: it is so, open", 0, () -> bit(village(FOUR_WINDOWS).shut(0, false)));
        edge(11, "False: it is so, shut", () -> {
            OneJoy joy = village(FOUR_WINDOWS);
            joy.shut(0, true);
            no(joy.shut(0, true));
            due(1, joy.count(14));
        });
        edge(11, "False: window -1", 0, () -> bit(village(FOUR_WINDOWS).shut(-1, true)));
        edge(11, "False: one above", 0, () -> bit(village(FOUR_WINDOWS).shut(3, true)));
        edge(11, "False: a 17th", 0, () -> bit(village("d;d" + many(";w", 16)).shut(16, true)));
        edge(11, "False: no windows", 0, () -> bit(village("d;d").shut(0, true)));
        edge(11, "False: no village", 0, () -> bit(new OneJoy().shut(0, true)));
        edge(11, "the last of sixteen", () -> {
            OneJoy joy = village("d;d" + many(";w", 16));
            yes(joy.shut(15, true));
            due(1, joy.window(15, 3));
            due(0, joy.window(14, 3));
        });
        edge(11, "a shut window is none: it stays", () -> {
            OneJoy joy = village("dp0;d;w");
            joy.shut(0, true);
            joy.go(1);
            due(0, joy.count(6));
        });
        edge(11, "a shut window is none: its envy is none", () -> {
            OneJoy joy = village("dp2;d;d;w;wb2");
            joy.shut(0, true);
            joy.go(1);
            due(0, joy.count(6));
        });
        edge(11, "another window of the two stays open", () -> {
            OneJoy joy = village("d;d;w;wa1b0");
            joy.shut(0, true);
            joy.go(1);
            due(1, joy.count(6));
        });
    }

    private static void music() {
        edge(12, "it begins", () -> {
            OneJoy joy = village("dt3");
            yes(joy.music(true));
            due(1, joy.count(8));
            due(2, joy.wish(0));
        });
        edge(12, "it ends", () -> {
            OneJoy joy = village("vm1;dt3");
            yes(joy.music(false));
            due(0, joy.count(8));
            due(5, joy.wish(0));
        });
        edge(12, "False: it is so, without", 0, () -> bit(village("d").music(false)));
        edge(12, "False: it is so, with", 0, () -> bit(village("vm1;d").music(true)));
        edge(12, "False: no village", () -> {
            OneJoy joy = new OneJoy();
            no(joy.music(true));
            no(joy.music(false));
            due(0, joy.count(8));
        });
    }

    private static void fog() {
        edge(13, "it begins", () -> {
            OneJoy joy = village("d");
            yes(joy.fog(true));
            due(1, joy.count(9));
        });
        edge(13, "it ends", () -> {
            OneJoy joy = village("d;d;w");
            joy.fog(true);
            yes(joy.fog(false));
            due(0, joy.count(9));
            joy.go(1);
            due(1, joy.count(6));
        });
        edge(13, "False: it is so, without", 0, () -> bit(village("d").fog(false)));
        edge(13, "False: it is so, with", () -> {
            OneJoy joy = village("d");
            joy.fog(true);
            no(joy.fog(true));
            due(1, joy.count(14));
        });
        edge(13, "False: no village", () -> {
            OneJoy joy = new OneJoy();
            no(joy.fog(true));
            no(joy.fog(false));
            due(0, joy.count(9));
        });
        edge(13, "it stays, laughs and is logged in fog", () -> {
            OneJoy joy = village(RING);
            joy.go(1);
            joy.fog(true);
            due(4, joy.go(3));
            due(1, joy.count(6));
            due(0, joy.count(7));
            due(4, joy.house(1, 6));
            due(4, joy.count(13));
        });
    }

    private static void prescribe() {
        edge(14, "WANT then", () -> {
            OneJoy joy = village("dw0;dw0");
            due(1, joy.prescribe(1));
            due(2, joy.prescribe(1));
            due(0, joy.house(0, 0));
        });
        edge(14, "9 at most: from 8", 9, () -> village("dw8").prescribe(0));
        edge(14, "NONE: it has 9, as told", NONE, () -> village("dw9").prescribe(0));
        edge(14, "NONE: it has 9 by prescriptions", () -> {
            OneJoy joy = village("dw8");
            joy.prescribe(0);
            due(NONE, joy.prescribe(0));
            due(9, joy.house(0, 0));
            due(1, joy.count(14));
        });
        edge(14, "NONE: house -1", NONE, () -> village("d;d").prescribe(-1));
        edge(14, "NONE: one above", NONE, () -> village("d;d").prescribe(2));
        edge(14, "NONE: a 13th", NONE, () -> village(TWELVE).prescribe(12));
        edge(14, "NONE: no village", NONE, () -> new OneJoy().prescribe(0));
        edge(14, "the last of twelve", 6, () -> village(TWELVE).prescribe(11));
        edge(14, "also with its back to it", 6, () -> village("db1").prescribe(0));
    }

    private static void lie() {
        edge(15, "three houses on", 3, () -> village("d;d;d;d").lie());
        edge(15, "by numbers, round: of four from 1", 0, () -> village("va1;d;d;d;d").lie());
        edge(15, "by numbers, round: of two", 1, () -> village("d;d").lie());
        edge(15, "by numbers, round: of two from 1", 0, () -> village("va1;d;d").lie());
        edge(15, "by numbers, round: of five from 4", 2, () -> village("va4;d;d;d;d;d").lie());
        edge(15, "by numbers: of twelve from 8", 11, () -> village("va8;" + TWELVE).lie());
        edge(15, "by numbers, round: of twelve from 9", 0, () -> village("va9;" + TWELVE).lie());
        edge(15, "before is where it was", () -> {
            OneJoy joy = village("va1;d;d;d;d;d");
            due(4, joy.lie());
            due(4, joy.count(6));
            due(1, joy.count(7));
        });
        edge(15, "NONE: where it is, one house; nothing is done", () -> {
            OneJoy joy = village("d");
            due(NONE, joy.lie());
            due(0, joy.count(14));
            due(NONE, joy.count(7));
        });
        edge(15, "NONE: where it is, three houses; nothing is done, no act", () -> {
            OneJoy joy = village("va2;d;d;d");
            due(NONE, joy.lie());
            due(2, joy.count(6));
            due(NONE, joy.count(7));
            due(0, joy.count(14));
            due(NONE, joy.undo());
        });
        edge(15, "NONE: no village", NONE, () -> new OneJoy().lie());
        edge(15, "six houses are not three", 3, () -> village("d;d;d;d;d;d").lie());
        edge(15, "no hour, no laugh, no log", () -> {
            OneJoy joy = village("d;d;d;d;d");
            joy.lie();
            due(0, joy.count(5));
            due(0, joy.count(10));
            due(0, joy.count(13));
        });
        edge(15, "in fog, too", () -> {
            OneJoy joy = village("d;d;d;d;d");
            joy.fog(true);
            due(3, joy.lie());
        });
        edge(15, "it does not go back to where the lie drove it from", () -> {
            OneJoy joy = village("d;d;dw9;dp0;w;wa0b3;wa3b2");
            joy.lie();
            joy.go(1);
            due(2, joy.count(6));
        });
    }

    private static void goBounds() {
        edge(16, "1 hour", 1, () -> village("d").go(1));
        edge(16, "240 hours", 240, () -> village("d").go(240));
        edge(16, "NONE: 0 hours", NONE, () -> village("d").go(0));
        edge(16, "NONE: -1 hours", NONE, () -> village("d").go(-1));
        edge(16, "NONE: 241 hours", () -> {
            OneJoy joy = village("d");
            due(NONE, joy.go(241));
            due(0, joy.count(5));
            due(0, joy.count(10));
        });
        edge(16, "NONE: the greatest number of hours", NONE, () -> village("d").go(Integer.MAX_VALUE));
        edge(16, "NONE: the least number of hours", NONE, () -> village("d").go(Integer.MIN_VALUE));
        edge(16, "NONE: no village", NONE, () -> new OneJoy().go(1));
        edge(16, "the hour as it was told goes on", 263, () -> village("vh23;d").go(240));
    }

    private static void lastHour() {
        edge(16, "9,999 is not above 9,999", 9999, () -> atHour(9998, "d").go(1));
        edge(16, "9,999 by 240 hours", 9999, () -> atHour(9759, "d").go(240));
        edge(16, "NONE: above 9,999 by one", NONE, () -> atHour(9999, "d").go(1));
        edge(16, "NONE: above 9,999; none of the hours goes by", () -> {
            OneJoy joy = atHour(9990, RING);
            int at = joy.count(6);
            due(NONE, joy.go(10));
            due(9990, joy.count(5));
            due(at, joy.count(6));
            due(9990, joy.count(10));
            due(at, joy.log(0));
        });
        edge(16, "an hour undone at 9,999 can go by again", () -> {
            OneJoy joy = atHour(9999, "d");
            joy.undo();
            due(9999, joy.go(1));
        });
        edge(18, "NONE: above 9,999 by one", NONE, () -> atHour(9999, "d").mists(1, 3));
        edge(18, "NONE: above 9,999; none of the hours goes by", () -> {
            OneJoy joy = atHour(9990, RING);
            due(NONE, joy.mists(10, 3));
            due(9990, joy.count(5));
            due(9990, joy.count(10));
        });
        edge(18, "9,999 is not above 9,999", 9999, () -> atHour(9759, "d").mists(240, 3));
    }

    private static void goes(String sentence, String text, int hours, int where) {
        edge(16, sentence + ": '" + text + "'", where, () -> {
            OneJoy joy = village(text);
            joy.go(hours);
            return joy.count(6);
        });
    }

    private static void whetherItGoes() {
        goes("ENVY together is PEACE", "dp3;de1;de2;w;wb2", 1, 1);
        goes("ENVY together is one less than PEACE", "dp4;de1;de2;w;wb2", 1, 0);
        goes("ENVY together is more than PEACE", "dp2;de1;de2;w;wb2", 1, 1);
        goes("PEACE 0 and no ENVY", "dp0;de0;w", 1, 1);
        goes("PEACE 9 and ENVY 9", "dp9;de9;w", 1, 1);
        goes("none sees it, PEACE 0: it stays", "dp0;d", 1, 0);
        goes("two windows to one house: its ENVY counts once", "dp2;de1;w;w", 1, 0);
        goes("two windows, from each side: its ENVY counts once", "dp2;de1;w;wa1b0", 1, 0);
        goes("ENVY of BEFORE counts with the others", "d;dp2;d;w;wa1b2", 2, 2);
        goes("ENVY of a house that one way leads from does not count", "dp2;de1;de1;w;wa2b0o1", 1, 0);
        goes("one way from a", "d;d;wo1", 1, 1);
        goes("one way, not from b", "va1;d;d;wo1", 1, 1);
        goes("both ways, from b", "va1;d;d;w", 1, 0);
        goes("its own ENVY does not count", "de9p2;de1;w", 1, 0);
        edge(16, "BEFORE alone sees it: it stays, BEFORE as it was", () -> {
            OneJoy joy = village("d;d;w");
            joy.go(2);
            due(1, joy.count(6));
            due(0, joy.count(7));
        });
        edge(16, "it stays for its PEACE: BEFORE as it was", () -> {
            OneJoy joy = village("d;dp9;d;w;wa1b2");
            joy.go(5);
            due(1, joy.count(6));
            due(0, joy.count(7));
        });
        edge(16, "it stays: no BEFORE at first", () -> {
            OneJoy joy = village("dp9;d;w");
            joy.go(2);
            due(NONE, joy.count(7));
        });
        edge(16, "it goes: BEFORE is where it was", () -> {
            OneJoy joy = village(RING);
            joy.go(3);
            due(3, joy.count(6));
            due(2, joy.count(7));
        });
    }

    private static void whereItGoes() {
        goes("the least WISH", "dp0;dw5;dw4;dw6;w;wb2;wb3", 1, 2);
        goes("of several the lowest", "dp0;dw5;dw4;dw4;wb3;wb2;w", 1, 2);
        goes("but BEFORE, with the least WISH", "dw0;d;dw9;w;wa1b2", 2, 2);
        goes("with its back to it: 0", "dp0;dw1;dw9b1;w;wb2", 1, 2);
        goes("a WISH below 0", "vm1;dp0;dw0;dw1t2;w;wb2", 1, 2);
        goes("house 0, with no BEFORE at first", "va1;d;d;dw9;w;wa1b2", 1, 0);
        goes("the last of twelve", "va0;dp0;d;d;d;d;d;d;d;d;d;d;d;wb11", 1, 11);
        goes("BEFORE by two hours: it may go back", "d;d;d;wo1;wa1b2o1;wa2b0o1", 3, 0);
        edge(16, "WISH at the time as the hour begins", () -> {
            OneJoy joy = villageBy("y:h=5&k=1?0;y:k=1?9;y:5", "vh5;dp0;d;dk1;w;wb2");
            joy.go(1);
            due(2, joy.count(6));
        });
        edge(16, "WISH not at the time as the hour ends", () -> {
            OneJoy joy = villageBy("y:h=6&k=1?0;y:k=1?9;y:5", "vh5;dp0;d;dk1;w;wb2");
            joy.go(1);
            due(1, joy.count(6));
        });
        edge(16, "WISH at time 0 behind 23", () -> {
            OneJoy joy = villageBy("y:h=0&k=1?0;y:k=1?9;y:5", "vh23;dp0;d;dp0k1;d;wo1;wa1b2o1;wa1b3o1");
            joy.go(2);
            due(2, joy.count(6));
        });
        edge(16, "by the law that holds in each call", () -> {
            OneJoy joy = villageBy("y:9-w", "dp0;dw3;dw4;dw9;w;wb2;wa2b3;wa2b1");
            joy.go(1);
            due(2, joy.count(6));
            joy.law(NONE);
            joy.go(1);
            due(1, joy.count(6));
        });
    }

    private static void laughs() {
        edge(16, "where it is laughs once, behind its going", () -> {
            OneJoy joy = village(RING);
            joy.go(1);
            due(0, joy.house(0, 6));
            due(1, joy.house(1, 6));
            due(1, joy.count(10));
        });
        edge(16, "where it stays laughs once in each hour", () -> {
            OneJoy joy = village("d;d");
            joy.go(5);
            due(5, joy.house(0, 6));
            due(0, joy.house(1, 6));
        });
    }

    private static void kids() {
        int[] hours = {5, 6, 7};
        for (int hour : hours) {
            edge(16, "KIDS laugh if the time is 6 as the hour begins: " + hour, hour == 6 ? 3 + 4 + 1 : 1, () -> {
                OneJoy joy = village("vh" + hour + ";dk3;dk4;d");
                joy.go(1);
                return joy.count(10);
            });
        }
        edge(16, "each house as often as it has KIDS, where it is, too", () -> {
            OneJoy joy = village("vh6;dk3;dk9;dk0");
            joy.go(1);
            due(4, joy.house(0, 6));
            due(9, joy.house(1, 6));
            due(0, joy.house(2, 6));
        });
        edge(16, "the time is the hour modulo 24: 30", () -> {
            OneJoy joy = village("vh23;dk3");
            joy.go(7);
            due(7, joy.count(10));
            joy.go(1);
            due(11, joy.count(10));
        });
        edge(16, "KIDS laugh ten times in 240 hours", 240 + 20, () -> {
            OneJoy joy = village("d;dk2");
            joy.go(240);
            return joy.count(10);
        });
        edge(16, "KIDS laugh in fog, too", 1 + 2, () -> {
            OneJoy joy = village("vh6;d;dk2");
            joy.fog(true);
            joy.go(1);
            return joy.count(10);
        });
        edge(16, "KIDS laugh with its back to it, too", 2, () -> {
            OneJoy joy = village("vh6;d;dk2b1");
            joy.go(1);
            return joy.house(1, 6);
        });
    }

    private static void mist() {
        edge(17, "99", () -> {
            OneJoy joy = new OneJoy();
            yes(joy.mist(99));
            due(99, joy.count(11));
        });
        edge(17, "0 again", () -> {
            OneJoy joy = new OneJoy();
            joy.mist(1);
            yes(joy.mist(0));
            due(0, joy.count(11));
        });
        edge(17, "False: it is so, 0 at first", 0, () -> bit(new OneJoy().mist(0)));
        edge(17, "False: it is so", () -> {
            OneJoy joy = new OneJoy();
            joy.mist(50);
            no(joy.mist(50));
            due(50, joy.count(11));
        });
        edge(17, "False: 100", () -> {
            OneJoy joy = new OneJoy();
            joy.mist(50);
            no(joy.mist(100));
            due(50, joy.count(11));
        });
        edge(17, "False: -1", () -> {
            OneJoy joy = new OneJoy();
            no(joy.mist(-1));
            due(0, joy.count(11));
        });
        edge(17, "False: the greatest", 0, () -> bit(new OneJoy().mist(Integer.MAX_VALUE)));
        edge(17, "False: the least", 0, () -> bit(new OneJoy().mist(Integer.MIN_VALUE)));
        edge(17, "go knows no mist", () -> {
            OneJoy joy = village(RING);
            joy.mist(99);
            joy.go(4);
            due(4, joy.count(6));
        });
    }

    private static void mistsBounds() {
        edge(18, "1 hour", 1, () -> village("d").mists(1, 3));
        edge(18, "240 hours", 240, () -> village("d").mists(240, 3));
        edge(18, "NONE: 0 hours", NONE, () -> village("d").mists(0, 3));
        edge(18, "NONE: -1 hours", NONE, () -> village("d").mists(-1, 3));
        edge(18, "NONE: 241 hours", () -> {
            OneJoy joy = village("d");
            due(NONE, joy.mists(241, 3));
            due(0, joy.count(5));
        });
        edge(18, "NONE: no village", NONE, () -> new OneJoy().mists(1, 3));
        edge(18, "NONE: the greatest number of hours", NONE, () -> village("d").mists(Integer.MAX_VALUE, 3));
        edge(18, "MIST 0 at first: no fog at any draw", () -> {
            OneJoy joy = village(RING);
            joy.mists(1, 17);
            due(1, joy.count(6));
        });
        edge(18, "each hour is an act, laughs and is logged", () -> {
            OneJoy joy = village(RING);
            joy.mist(99);
            joy.mists(7, 3);
            due(7, joy.count(14));
            due(7, joy.count(10));
            due(7, joy.count(13));
        });
    }

    /** Behind as many hours round the ring: how many of them were without fog. */
    private static void draw(String sentence, int mist, long seed, int hours, int without) {
        edge(18, sentence + " (" + mist + ", seed " + seed + ", " + hours + ")", without % 5, () -> {
            OneJoy joy = village(RING);
            joy.mist(mist);
            joy.mists(hours, seed);
            due(0, joy.count(9));
            return joy.count(6);
        });
    }

    private static void draws() {
        // By seed 0 the draws are 7, 24, 37, 36, 25, 91; by seed -1 they are 88, 43, 77, 2, 64, 87.
        draw("a draw that is MIST is no fog", 7, 0, 1, 1);
        draw("a draw below MIST is fog", 8, 0, 1, 0);
        draw("the second draw is MIST", 24, 0, 2, 1);
        draw("the second draw is below MIST", 25, 0, 2, 0);
        draw("six draws, 37 is MIST", 37, 0, 6, 2);
        draw("six draws, 37 is below MIST", 38, 0, 6, 1);
        draw("a seed below 0", 88, -1, 1, 1);
        draw("a seed below 0, below MIST", 89, -1, 1, 0);
        draw("six draws of a seed below 0", 64, -1, 6, 4);
        draw("the draw 0 at MIST 1", 1, 17, 1, 0);
        draw("the draw 99 at MIST 99", 99, 89, 1, 1);
        draw("the draw 98 at MIST 99", 99, 63, 1, 0);
        // By these seeds x is below 0 behind the first step: the draws are 92 and 40.
        draw("shifted without sign, no fog", 50, 5, 1, 1);
        draw("shifted without sign, no fog by one", 40, 2, 1, 1);
        draw("shifted without sign, fog", 41, 2, 1, 0);
        // The greatest seed: 64, 19, 53, 26; the least: 31, 48, 13, 60.
        draw("the greatest seed", 26, Long.MAX_VALUE, 4, 3);
        draw("the least seed", 48, Long.MIN_VALUE, 4, 2);
        draw("a seed's upper bits count: 25, not 7", 20, 1L << 32, 1, 1);
        edge(18, "fog by hand, whatever is drawn", () -> {
            OneJoy joy = village(RING);
            joy.fog(true);
            joy.mists(9, 0);
            due(0, joy.count(6));
            due(1, joy.count(9));
        });
        edge(18, "each call begins with its seed", () -> {
            OneJoy joy = village(RING);
            joy.mist(8);
            joy.mists(1, 0);
            joy.mists(1, 0);
            due(0, joy.count(6));
        });
        edge(18, "BEFORE as it was in a fog by mist", () -> {
            OneJoy joy = village(RING);
            joy.go(2);
            joy.mist(8);
            joy.mists(1, 0);
            due(2, joy.count(6));
            due(1, joy.count(7));
        });
        edge(18, "the time goes on in a fog by mist", () -> {
            OneJoy joy = villageBy("y:h=1&k=1?0;y:k=1?9;y:5", "dp0;d;dk1;w;wb2");
            joy.mist(8);
            joy.mists(2, 0);
            due(2, joy.count(6));
        });
        edge(18, "KIDS laugh in a fog by mist", 1 + 3, () -> {
            OneJoy joy = village("vh6;d;dk3;w");
            joy.mist(8);
            joy.mists(1, 0);
            return joy.count(10);
        });
    }

    private static void undo() {
        edge(19, "NONE: no act", NONE, () -> village("d").undo());
        edge(19, "NONE: no village", NONE, () -> new OneJoy().undo());
        edge(19, "how many still can be: the last one", 0, () -> {
            OneJoy joy = village("d");
            joy.turn(0, true);
            return joy.undo();
        });
        edge(19, "NONE: behind the last one", NONE, () -> {
            OneJoy joy = village("d");
            joy.turn(0, true);
            joy.undo();
            return joy.undo();
        });
        edge(19, "one by one, the latest first", () -> {
            OneJoy joy = village("d;d");
            joy.turn(0, true);
            joy.turn(1, true);
            due(1, joy.undo());
            due(1, joy.house(0, 5));
            due(0, joy.house(1, 5));
        });
        edge(19, "no act itself", () -> {
            OneJoy joy = village("d");
            joy.go(3);
            joy.undo();
            due(2, joy.count(14));
        });
        edge(19, "each hour of go is one", () -> {
            OneJoy joy = village(RING);
            joy.go(3);
            due(3, joy.count(14));
            due(2, joy.undo());
            due(2, joy.count(5));
            due(2, joy.count(6));
            due(1, joy.count(7));
        });
        edge(19, "each hour of mists is one", () -> {
            OneJoy joy = village(RING);
            joy.mists(3, 0);
            due(2, joy.undo());
            due(2, joy.count(5));
        });
        edge(19, "acts go on behind an undone one", () -> {
            OneJoy joy = village("dw3;d");
            joy.turn(0, true);
            joy.go(2);
            joy.undo();
            joy.prescribe(0);
            due(3, joy.count(14));
            joy.undo();
            due(3, joy.house(0, 0));
            joy.undo();
            due(0, joy.count(5));
            joy.undo();
            due(0, joy.house(0, 5));
            due(NONE, joy.undo());
        });
    }

    private static void undone(String what, String text, Act act, int count, int want) {
        edge(19, "undone: " + what, want, () -> {
            OneJoy joy = village(text);
            joy.go(1);
            act.on(joy);
            due(2, joy.count(14));
            due(1, joy.undo());
            return count < 20 ? joy.count(count) : count < 30 ? joy.house(1, count - 20) : joy.window(0, count - 30);
        });
    }

    private static void asItWas(String what, Act act) {
        edge(19, "undone, all is as it was: " + what, () -> {
            OneJoy joy = busy();
            act.on(joy);
            due(5, joy.count(14));
            joy.undo();
            due(told(busy()), told(joy));
        });
    }

    /** Acts of some kinds, at a time at which KIDS laugh in the next hour. */
    private static OneJoy busy() {
        OneJoy joy = village("vh5m1;dk2t3w4;dk4w3;d;d;d;w;wa1b2");
        joy.go(1);
        joy.turn(3, true);
        joy.prescribe(0);
        joy.shut(1, true);
        joy.mist(9);
        return joy;
    }

    interface Act {
        void on(OneJoy joy);
    }

    private static void undoEachKind() {
        String text = "vh5;dp9k2;dw3k4;d;d;d;w";
        undone("a back turned", text, j -> j.turn(1, true), 25, 0);
        undone("a back turned no more", "d;db1", j -> j.turn(1, false), 25, 1);
        undone("a window shut", text, j -> j.shut(0, true), 33, 0);
        undone("music begun", text, j -> j.music(true), 8, 0);
        undone("music ended", "vm1;" + text.substring(4), j -> j.music(false), 8, 1);
        undone("fog begun", text, j -> j.fog(true), 9, 0);
        undone("a prescription", text, j -> j.prescribe(1), 20, 3);
        undone("a lie: where it is", text, j -> j.lie(), 6, 0);
        undone("a lie: no BEFORE", text, j -> j.lie(), 7, NONE);
        undone("a lie: BEFORE", RING, j -> j.lie(), 7, 0);
        undone("an hour: the hour", text, j -> j.go(1), 5, 6);
        undone("an hour: where it is", RING, j -> j.go(1), 6, 1);
        undone("an hour: BEFORE", RING, j -> j.go(1), 7, 0);
        undone("an hour: laughs of all, KIDS, too", text, j -> j.go(1), 10, 1);
        undone("an hour: laughs of KIDS", text, j -> j.go(1), 26, 0);
        undone("an hour: the log", text, j -> j.go(1), 13, 1);
        undone("an hour of mists", RING, j -> j.mists(1, 9), 6, 1);
        asItWas("a back turned", j -> j.turn(1, true));
        asItWas("a window shut", j -> j.shut(0, true));
        asItWas("music ended", j -> j.music(false));
        asItWas("fog begun", j -> j.fog(true));
        asItWas("a prescription", j -> j.prescribe(1));
        asItWas("a lie", j -> j.lie());
        asItWas("an hour", j -> j.go(1));
        asItWas("an hour of mists", j -> j.mists(1, 0));
        edge(19, "undone: a window opened", () -> {
            OneJoy joy = village("d;d;w");
            joy.shut(0, true);
            joy.shut(0, false);
            due(1, joy.undo());
            due(1, joy.window(0, 3));
        });
        edge(19, "undone: fog ended", () -> {
            OneJoy joy = village("d;d;w");
            joy.fog(true);
            joy.fog(false);
            joy.undo();
            due(1, joy.count(9));
        });
        edge(19, "undone: the first hour, no BEFORE", () -> {
            OneJoy joy = village(RING);
            joy.go(1);
            due(0, joy.undo());
            due(0, joy.count(6));
            due(NONE, joy.count(7));
            due(0, joy.count(5));
            due(0, joy.count(13));
            due(NONE, joy.log(0));
        });
        edge(19, "undone: the last of twelve houses turned", () -> {
            OneJoy joy = village(TWELVE);
            joy.turn(11, true);
            joy.undo();
            due(0, joy.house(11, 5));
        });
        edge(19, "undone: the last of sixteen windows shut", () -> {
            OneJoy joy = village("d;d" + many(";w", 16));
            joy.shut(15, true);
            joy.undo();
            due(0, joy.window(15, 3));
        });
    }

    private static void undoForty() {
        edge(19, "39 acts", 39, () -> acts(39));
        edge(19, "40 acts", 40, () -> acts(40));
        edge(19, "the latest 40 alone: 41 acts", 40, () -> acts(41));
        edge(19, "the latest 40: how many still can be", () -> {
            OneJoy joy = village(RING);
            joy.go(41);
            for (int i = 39; i >= 0; i--) {
                due(i, joy.undo());
            }
            due(NONE, joy.undo());
            due(1, joy.count(5));
            due(1, joy.count(6));
        });
        edge(19, "just 40: all undone", () -> {
            OneJoy joy = village(RING);
            joy.go(40);
            for (int i = 39; i >= 0; i--) {
                due(i, joy.undo());
            }
            due(NONE, joy.undo());
            due(0, joy.count(5));
            due(NONE, joy.count(7));
        });
        edge(19, "40 of several kinds, each in its turn", () -> {
            OneJoy joy = village("dw0;d;d;d;d");
            for (int i = 0; i < 15; i++) {
                joy.turn(1, i % 2 == 0);
                joy.music(i % 2 == 0);
                joy.lie();
                joy.go(1);
            }
            due(40, joy.count(14));
            for (int i = 14; i >= 5; i--) {
                due(i + 1, joy.count(5));
                due((i + 1) * 3 % 5, joy.count(6));
                joy.undo();
                due(i, joy.count(5));
                joy.undo();
                due(i * 3 % 5, joy.count(6));
                joy.undo();
                due(i % 2, joy.count(8));
                joy.undo();
                due(i % 2, joy.house(1, 5));
            }
            due(NONE, joy.undo());
        });
        edge(19, "forty again behind some undone", () -> {
            OneJoy joy = village("d");
            joy.go(60);
            for (int i = 0; i < 5; i++) {
                joy.undo();
            }
            due(35, joy.count(14));
            joy.go(4);
            due(39, joy.count(14));
            joy.go(4);
            due(40, joy.count(14));
        });
    }

    private static long acts(int hours) {
        OneJoy joy = village("d");
        joy.go(hours);
        return joy.count(14);
    }

    private static void noActs() {
        edge(19, "mist, laws, sights, images and texts are no acts", () -> {
            OneJoy joy = villageBy("y:3", "d");
            joy.mist(3);
            joy.see(1, 0);
            joy.image();
            feed(joy, "y:4");
            joy.text(1);
            joy.law(1);
            joy.end(0);
            due(0, joy.count(14));
            due(NONE, joy.undo());
            due(3, joy.count(11));
            due(1, joy.count(4));
        });
        edge(19, "what is refused is no act", () -> {
            OneJoy joy = village("dw9;d;d");
            joy.turn(0, false);
            joy.turn(3, true);
            joy.shut(0, true);
            joy.music(false);
            joy.fog(false);
            joy.prescribe(0);
            joy.lie();
            joy.go(0);
            joy.mists(241, 0);
            due(0, joy.count(14));
        });
        edge(19, "what is asked is no act", () -> {
            OneJoy joy = village(RING);
            joy.ahead(9);
            joy.stand(1, 2);
            joy.lies(1, 3);
            joy.shutters(3);
            joy.feast(1, 2, 0);
            joy.rests(0, 1, NONE);
            joy.envied(NONE);
            due(0, joy.count(14));
        });
    }

    private static void log() {
        edge(20, "NONE: no hour yet", NONE, () -> village("d").log(0));
        edge(20, "NONE: no village", NONE, () -> new OneJoy().log(0));
        edge(20, "the latest", 1, () -> logged(1, 0));
        edge(20, "the one ahead of it", 1, () -> logged(2, 1));
        edge(20, "the first of seven", 1, () -> logged(7, 6));
        edge(20, "NONE: as many as there are", NONE, () -> logged(7, 7));
        edge(20, "NONE: -1", NONE, () -> logged(7, -1));
        edge(20, "the least i", NONE, () -> logged(7, Integer.MIN_VALUE));
        edge(20, "the greatest i", NONE, () -> logged(7, Integer.MAX_VALUE));
        edge(20, "sixty: the first", 1, () -> logged(60, 59));
        edge(20, "the latest 60: the first of 61 is gone", NONE, () -> logged(61, 60));
        edge(20, "the latest 60: the second of 61", 2, () -> logged(61, 59));
        edge(20, "the latest 60 of 238", () -> {
            OneJoy joy = village(RING7);
            joy.go(238);
            due(60, joy.count(13));
            for (int i = 0; i < 60; i++) {
                due((238 - i) % 7, joy.log(i));
            }
            due(NONE, joy.log(60));
        });
        edge(20, "59 hours", 59, () -> {
            OneJoy joy = village(RING);
            joy.go(59);
            return joy.count(13);
        });
        edge(20, "behind each hour, by a lie, too", () -> {
            OneJoy joy = village("d;d;d;d;d");
            joy.go(1);
            joy.lie();
            due(1, joy.count(13));
            due(0, joy.log(0));
            joy.go(1);
            due(3, joy.log(0));
            due(0, joy.log(1));
        });
    }

    private static long logged(int hours, int i) {
        OneJoy joy = village(RING);
        joy.go(hours);
        return joy.log(i);
    }

    private static void logBehindUndo() {
        int[] hours = {60, 61, 99, 100, 101, 160, 240};
        for (int n : hours) {
            edge(20, "the log as it was 40 hours ago: " + n, () -> {
                OneJoy joy = village(RING7);
                joy.go(n);
                for (int i = 0; i < 40; i++) {
                    joy.undo();
                }
                int left = n - 40;
                int kept = Math.min(left, 60);
                due(kept, joy.count(13));
                for (int i = 0; i < kept; i++) {
                    due((left - i) % 7, joy.log(i));
                }
                due(NONE, joy.log(kept));
            });
        }
        edge(20, "the log goes on behind undone hours", () -> {
            OneJoy joy = village(RING);
            joy.go(70);
            for (int i = 0; i < 30; i++) {
                joy.undo();
            }
            due(40, joy.count(13));
            joy.lie();
            joy.go(1);
            due(41, joy.count(13));
            due(4, joy.log(0));
            due(0, joy.log(1));
            due(1, joy.log(40));
            due(NONE, joy.log(41));
        });
    }
}
