/** Boundaries of what is seen, of windows, laughs, images and counts: promises 34 to 43. */
public final class EdgesSeen extends Edges {
    /** It goes by the envy of the next one alone: who is not envious holds it one house ahead. */
    private static final String BOX = "dp2;de2w5;de1w3;wo1;wb2o1";

    public static void main(String[] args) {
        seeBounds();
        envied();
        enviedBySeen();
        sure();
        sills();
        sillsOfTwoDays();
        sees();
        most();
        widows();
        image();
        back();
        whatIsKept();
        backBehindManyHours();
        count();
        finish(34, 35, 36, 37, 38, 39, 40, 41, 42, 43);
    }

    private static void seeBounds() {
        edge(34, "how many there are: one", 1, () -> village("d;d").see(1, 0));
        edge(34, "12 at most: the 12th", 12, () -> seen(12, "d;d").count(12));
        edge(34, "how many there are: the 12th", 12, () -> seen(11, "d;d").see(1, 0));
        edge(34, "NONE: there are 12", NONE, () -> seen(12, "d;d").see(1, 0));
        edge(34, "the same again counts again", 2, () -> {
            OneJoy joy = village("d");
            joy.see(1, 0);
            return joy.see(1, 0);
        });
        edge(34, "what it never can be is seen, too", 2, () -> {
            OneJoy joy = village("d;d");
            joy.see(1, 0);
            return joy.see(1, 1);
        });
        edge(34, "behind 20 hours", 1, () -> village("d;d").see(20, 1));
        edge(34, "NONE: behind 21 hours", NONE, () -> village("d;d").see(21, 1));
        edge(34, "NONE: behind 0 hours", NONE, () -> village("d;d").see(0, 0));
        edge(34, "NONE: behind -1 hours", NONE, () -> village("d;d").see(-1, 0));
        edge(34, "NONE: house -1", NONE, () -> village("d;d").see(1, -1));
        edge(34, "NONE: one above", NONE, () -> village("d;d").see(1, 2));
        edge(34, "NONE: a 13th", NONE, () -> village(TWELVE).see(1, 12));
        edge(34, "the last of twelve", 1, () -> village(TWELVE).see(1, 11));
        edge(34, "NONE: no village", NONE, () -> new OneJoy().see(1, 0));
        edge(34, "NONE: the greatest and the least", NONE, () -> village("d").see(Integer.MAX_VALUE, Integer.MIN_VALUE));
        edge(34, "what is refused is not among them", () -> {
            OneJoy joy = village("d;d");
            joy.see(21, 1);
            joy.see(1, 2);
            due(0, joy.count(12));
            due(4, joy.envied(NONE));
        });
    }

    private static OneJoy seen(int times, String text) {
        OneJoy joy = village(text);
        for (int i = 0; i < times; i++) {
            joy.see(20, 0);
        }
        return joy;
    }

    private static void envied() {
        edge(35, "how many without anything seen: of one house", 2, () -> village("d").envied(NONE));
        edge(35, "how many without anything seen: of twelve", 4096, () -> village(TWELVE).envied(NONE));
        edge(35, "the first, without any house", 0, () -> village(TWELVE).envied(0));
        edge(35, "the last, all of twelve", 4095, () -> village(TWELVE).envied(4095));
        edge(35, "NONE: behind the last", NONE, () -> village(TWELVE).envied(4096));
        edge(35, "NONE: i -2", NONE, () -> village("d").envied(-2));
        edge(35, "NONE: the least i", NONE, () -> village("d").envied(Integer.MIN_VALUE));
        edge(35, "NONE: the greatest i", NONE, () -> village("d").envied(Integer.MAX_VALUE));
        edge(35, "NONE: no village, how many", NONE, () -> new OneJoy().envied(NONE));
        edge(35, "NONE: no village, the first", NONE, () -> new OneJoy().envied(0));
        edge(35, "0: no set", 0, () -> nowhere().envied(NONE));
        edge(35, "NONE: the first of none", NONE, () -> nowhere().envied(0));
        edge(35, "rising", () -> {
            OneJoy joy = village(BOX);
            joy.see(1, 2);
            due(4, joy.envied(NONE));
            due(2, joy.envied(0));
            due(3, joy.envied(1));
            due(6, joy.envied(2));
            due(7, joy.envied(3));
            due(NONE, joy.envied(4));
        });
    }

    private static OneJoy nowhere() {
        OneJoy joy = village("d;d");
        joy.see(3, 1);
        return joy;
    }

    private static int sets(String text, int... seen) {
        OneJoy joy = village(text);
        for (int i = 0; i + 1 < seen.length; i += 2) {
            joy.see(seen[i], seen[i + 1]);
        }
        return joy.envied(NONE);
    }

    private static void enviedBySeen() {
        // Round the ring it is held at 0 for ever without 1; with all of them it is at 0 behind 20 hours.
        edge(35, "behind 1 hour", 16, () -> sets(RING, 1, 1));
        edge(35, "behind 20 hours, not 19 or 21", 16 + 1, () -> sets(RING, 20, 0));
        edge(35, "behind 19 hours", 1 + 1, () -> sets(RING, 19, 4));
        edge(35, "all that is seen", 1, () -> sets(RING, 5, 0, 1, 1));
        edge(35, "two houses behind the same hours", 0, () -> sets(RING, 1, 0, 1, 1));
        edge(35, "the twelfth counts", 1, () -> {
            OneJoy joy = seen(11, RING);
            joy.see(1, 1);
            return joy.envied(NONE);
        });
        edge(35, "the others are without ENVY", 2, () -> sets("dp3;de1;de2;w;wb2", 1, 1));
        edge(35, "without ENVY where PEACE is 0 it goes, too", 4, () -> sets("dp0;d;w", 1, 1));
        edge(35, "a house without ENVY is in sets and not", 4, () -> sets("dp0;de0;w", 1, 1));
        edge(35, "WISHES as they are", 8, () -> {
            OneJoy joy = villageBy("y:0-e", "dp0;dw5e3;dw5e7;w;wb2");
            joy.see(1, 2);
            return joy.envied(NONE);
        });
        edge(35, "from when it is asked", () -> {
            OneJoy joy = village(RING);
            joy.see(1, 1);
            due(16, joy.envied(NONE));
            joy.lie();
            due(0, joy.envied(NONE));
            joy.undo();
            due(16, joy.envied(NONE));
        });
        edge(35, "without fog, also if there is fog by hand", 16, () -> {
            OneJoy joy = village(RING);
            joy.fog(true);
            joy.see(1, 1);
            return joy.envied(NONE);
        });
        edge(35, "the last of twelve", 2048, () -> {
            OneJoy joy = village("d;d;d;d;d;d;d;d;d;d;d;d;wb11");
            joy.see(1, 11);
            due(2048, joy.envied(0));
            return joy.envied(NONE);
        });
        edge(35, "hours without end: beyond 9,999", 16, () -> {
            OneJoy joy = atHour(9999, RING);
            joy.see(1, 0);
            return joy.envied(NONE);
        });
    }

    private static void sure() {
        edge(36, "none is in all: nothing seen", 0, () -> village("d;d").sure());
        edge(36, "who is in all", 0b10, () -> {
            OneJoy joy = village(BOX);
            joy.see(1, 2);
            return joy.sure();
        });
        edge(36, "all of one set", 0b11110, () -> {
            OneJoy joy = village(RING);
            joy.see(20, 4);
            due(1, joy.envied(NONE));
            return joy.sure();
        });
        edge(36, "NONE: there is no such set", NONE, () -> nowhere().sure());
        edge(36, "NONE: no village", NONE, () -> new OneJoy().sure());
        edge(36, "none is in all, though there are some sets", 0, () -> {
            OneJoy joy = village("dp1;d;d;wo1;wb2o1");
            joy.see(1, 1);
            due(6, joy.envied(NONE));
            return joy.sure();
        });
        edge(36, "the last of twelve", 2048, () -> {
            OneJoy joy = village("d;d;d;d;d;d;d;d;d;d;d;d;wb11");
            joy.see(1, 11);
            return joy.sure();
        });
    }

    private static void sills() {
        edge(37, "by one way on", 0b1, () -> village("d;d;w").sills());
        edge(37, "none, where it stays", 0, () -> village("dp9;d;w").sills());
        edge(37, "none, no windows", 0, () -> village("d").sills());
        edge(37, "NONE: no village", NONE, () -> new OneJoy().sills());
        edge(37, "of several the same way the lowest", 0b10, () -> village("d;d;d;wa1b2o1;w;w").sills() & 0b110);
        edge(37, "of several the same way the lowest open one", 0b10, () -> {
            OneJoy joy = village("d;d;w;w;w");
            joy.shut(0, true);
            return joy.sills();
        });
        edge(37, "one way the other way is not the same way", 0b10, () -> village("d;d;wa1b0o1;w").sills());
        edge(37, "both ways from b", 0b1, () -> village("va1;d;d;w").sills());
        edge(37, "both ways from b, the other way told", 0b1, () -> village("d;d;wa1b0").sills());
        edge(37, "both ways from b is the same way", 0b01, () -> village("d;d;wa1b0;w").sills());
        edge(37, "the last of sixteen", 1 << 15, () -> village("d;d;d;d" + many(";wa2b3", 15) + ";w").sills());
        edge(37, "without fog, also if there is fog by hand", 0b1, () -> {
            OneJoy joy = village("d;d;w");
            joy.fog(true);
            return joy.sills();
        });
        edge(37, "from now on, not those it went by", 0b10, () -> {
            OneJoy joy = village("d;d;d;wo1;wa1b2o1");
            joy.go(1);
            return joy.sills();
        });
        edge(37, "hours without end: beyond 9,999", 0b11111, () -> atHour(9999, RING).sills());
    }

    private static void sillsOfTwoDays() {
        String ring = "d;d;d;d;d;dk1;wo1;wa1b2o1;wa2b3o1;wa3b4o1;wa4b0o1;";
        edge(37, "the next 48 hours: in the last of them", 0b111111, () ->
            villageBy("y:h=23&k=1?0;y:k=1?9;y:5", ring + "wa2b5o1").sills());
        edge(37, "the next 48 hours: not in the one behind", 0b011111, () -> {
            OneJoy joy = villageBy("y:h=0&k=1?0;y:k=1?9;y:5", ring + "wa3b5o1");
            due(3, joy.ahead(48));
            due(5, joy.ahead(49));
            return joy.sills();
        });
    }

    private static void sees() {
        String text = "d;d;d;d;wo1;wa1b2;wa3b1o1";
        edge(38, "by one way", 0b0010, () -> village(text).sees(0));
        edge(38, "not against one way", 0b0100, () -> village(text).sees(1));
        edge(38, "both ways from b", 0b0010, () -> village(text).sees(2));
        edge(38, "one way from its a", 0b0010, () -> village(text).sees(3));
        edge(38, "none", 0, () -> village("d;d").sees(1));
        edge(38, "a shut one is none", 0, () -> {
            OneJoy joy = village("d;d;w");
            joy.shut(0, true);
            return joy.sees(0);
        });
        edge(38, "two windows, one shut", 0b10, () -> {
            OneJoy joy = village("d;d;w;w");
            joy.shut(0, true);
            return joy.sees(0);
        });
        edge(38, "NONE: house -1", NONE, () -> village(text).sees(-1));
        edge(38, "NONE: one above", NONE, () -> village(text).sees(4));
        edge(38, "NONE: a 13th", NONE, () -> village(TWELVE).sees(12));
        edge(38, "NONE: no village", NONE, () -> new OneJoy().sees(0));
        edge(38, "the last of twelve", 1 << 11, () -> village(TWELVE + ";wb11").sees(0));
        edge(38, "from the last of twelve", 0b1, () -> village(TWELVE + ";wb11").sees(11));
        edge(38, "BEFORE, too", 0b101, () -> {
            OneJoy joy = village("d;d;d;w;wa1b2");
            joy.go(1);
            return joy.sees(1);
        });
        edge(38, "by the last of sixteen", 0b10, () -> village("d;d;d;d" + many(";wa2b3", 15) + ";w").sees(0));
    }

    private static void most() {
        edge(39, "of several the lowest: none has", 0, () -> village("va2;d;d;d").most());
        edge(39, "of several the lowest", 1, () -> {
            OneJoy joy = village("vh6;dk1;dk2;dk2;dp9");
            joy.fog(true);
            joy.lie();
            joy.go(1);
            return joy.most();
        });
        edge(39, "the one that did once", 2, () -> {
            OneJoy joy = village("va2;d;d;d");
            joy.go(1);
            return joy.most();
        });
        edge(39, "the last of twelve", 11, () -> {
            OneJoy joy = village("va11;" + TWELVE);
            joy.go(1);
            return joy.most();
        });
        edge(39, "NONE: no village", NONE, () -> new OneJoy().most());
        edge(39, "as it is behind an undone hour", 0, () -> {
            OneJoy joy = village("va2;d;d;d");
            joy.go(1);
            joy.undo();
            return joy.most();
        });
    }

    private static void widows() {
        edge(40, "all at first", 0b111, () -> village("d;d;d").widows());
        edge(40, "all of twelve at first", 4095, () -> village(TWELVE).widows());
        edge(40, "none", 0, () -> {
            OneJoy joy = village(RING);
            joy.go(5);
            return joy.widows();
        });
        edge(40, "one that laughed once is none", 0b11101, () -> {
            OneJoy joy = village(RING);
            joy.go(1);
            return joy.widows();
        });
        edge(40, "one whose KIDS laughed is none", 0b10, () -> {
            OneJoy joy = village("vh6;d;d;dk1");
            joy.go(1);
            return joy.widows();
        });
        edge(40, "NONE: no village", NONE, () -> new OneJoy().widows());
        edge(40, "as it is behind an undone hour", 0b111, () -> {
            OneJoy joy = village("d;d;d");
            joy.go(1);
            joy.undo();
            return joy.widows();
        });
    }

    private static void image() {
        edge(41, "the hour", 9, () -> {
            OneJoy joy = village("vh7;d");
            joy.go(2);
            return joy.image();
        });
        edge(41, "the hour 9,999", 9999, () -> atHour(9999, "d").image());
        edge(41, "NONE: no village", NONE, () -> new OneJoy().image());
        edge(41, "no act, and acts can be undone still", () -> {
            OneJoy joy = village("d");
            joy.go(2);
            joy.image();
            due(2, joy.count(14));
            due(1, joy.undo());
            due(1, joy.count(5));
        });
        edge(41, "instead of the one ahead", () -> {
            OneJoy joy = village("d");
            joy.image();
            joy.go(3);
            due(3, joy.image());
            joy.go(4);
            due(3, joy.back());
        });
        edge(41, "refused: the one ahead stays", () -> {
            OneJoy joy = village("d");
            joy.go(1);
            joy.image();
            feed(joy, "x");
            due(NONE, joy.text(0));
            due(1, joy.back());
        });
        edge(41, "an image stays as it was, whatever is undone", () -> {
            OneJoy joy = village("d");
            joy.go(3);
            joy.image();
            joy.undo();
            joy.undo();
            due(3, joy.back());
            due(3, joy.house(0, 6));
        });
    }

    private static void back() {
        edge(42, "the hour", 0, () -> {
            OneJoy joy = village("d");
            joy.image();
            joy.go(3);
            return joy.back();
        });
        edge(42, "NONE: no image", () -> {
            OneJoy joy = village("d");
            joy.go(2);
            due(NONE, joy.back());
            due(2, joy.count(5));
            due(2, joy.count(14));
        });
        edge(42, "NONE: no village", NONE, () -> new OneJoy().back());
        edge(42, "NONE: no image of this village", () -> {
            OneJoy joy = village("d;d");
            joy.image();
            feed(joy, "d");
            joy.text(0);
            due(NONE, joy.back());
            due(1, joy.count(0));
        });
        edge(42, "NONE: no image of this village, told alike", () -> {
            OneJoy joy = village("d");
            joy.image();
            feed(joy, "d");
            joy.text(0);
            due(NONE, joy.back());
        });
        edge(42, "again and again", () -> {
            OneJoy joy = village(RING);
            joy.go(1);
            joy.image();
            joy.go(2);
            due(1, joy.back());
            joy.go(3);
            due(1, joy.back());
            due(1, joy.back());
            due(1, joy.count(6));
        });
        edge(42, "no act can be undone then", () -> {
            OneJoy joy = village("d");
            joy.go(2);
            joy.image();
            joy.turn(0, true);
            joy.back();
            due(0, joy.count(14));
            due(NONE, joy.undo());
            due(2, joy.count(5));
        });
        edge(42, "new acts can be undone", () -> {
            OneJoy joy = village("d");
            joy.go(50);
            joy.image();
            joy.back();
            joy.go(1);
            due(0, joy.undo());
            due(NONE, joy.undo());
            due(50, joy.count(5));
        });
        edge(42, "back to an hour ahead of now", () -> {
            OneJoy joy = village("d");
            joy.go(30);
            joy.image();
            for (int i = 0; i < 20; i++) {
                joy.undo();
            }
            due(10, joy.count(5));
            due(30, joy.back());
            due(30, joy.count(13));
        });
        edge(42, "from 9,999 hours can go by again", () -> {
            OneJoy joy = atHour(9998, "d");
            joy.image();
            joy.go(1);
            due(NONE, joy.go(1));
            joy.back();
            due(9999, joy.go(1));
        });
    }

    /** A village with an image, then something of each kind done, then back. */
    private static OneJoy keptBack() {
        OneJoy joy = village("vh5;dw4k1;d;db1;d;d;w;wb2");
        joy.shut(1, true);
        joy.go(2);
        joy.image();
        joy.turn(0, true);
        joy.turn(2, false);
        joy.shut(0, true);
        joy.shut(1, false);
        joy.music(true);
        joy.fog(true);
        joy.prescribe(0);
        joy.lie();
        joy.go(70);
        joy.see(1, 1);
        joy.mist(3);
        feed(joy, "y:w");
        joy.text(1);
        joy.law(0);
        feed(joy, "d;");
        joy.back();
        return joy;
    }

    private static void whatIsKept() {
        int[] counts = {5, 2, 1, 2, 0, 7, 1, 0, 0, 0, 3, 3, 1, 2, 0};
        String[] what = {"houses", "windows", "not laws", "not the tape", "not the law that holds", "the hour", "where it is",
            "BEFORE", "music", "fog", "laughs of all", "not mist", "but what is seen", "the log's length", "no acts"};
        for (int i = 0; i < counts.length; i++) {
            int n = i;
            edge(42, "kept: " + what[i], counts[i], () -> keptBack().count(n));
        }
        edge(42, "kept: wants", 4, () -> keptBack().house(0, 0));
        edge(42, "kept: a back not turned", 0, () -> keptBack().house(0, 5));
        edge(42, "kept: a back turned", 1, () -> keptBack().house(2, 5));
        edge(42, "kept: a window open", 0, () -> keptBack().window(0, 3));
        edge(42, "kept: a window shut", 1, () -> keptBack().window(1, 3));
        edge(42, "kept: laughs of a house", 1, () -> keptBack().house(0, 6));
        edge(42, "kept: the log", () -> {
            OneJoy joy = keptBack();
            due(1, joy.log(0));
            due(1, joy.log(1));
            due(NONE, joy.log(2));
        });
        edge(42, "kept: music and fog, if there were", () -> {
            OneJoy joy = village("vm1;d");
            joy.fog(true);
            joy.image();
            joy.fog(false);
            joy.music(false);
            joy.back();
            due(1, joy.count(8));
            due(1, joy.count(9));
        });
    }

    private static void backBehindManyHours() {
        edge(42, "the log of 60 as it was", () -> {
            OneJoy joy = village(RING);
            joy.go(103);
            joy.image();
            joy.fog(true);
            joy.go(211);
            joy.back();
            due(60, joy.count(13));
            for (int i = 0; i < 60; i++) {
                due((103 - i) % 5, joy.log(i));
            }
            due(NONE, joy.log(60));
        });
        edge(42, "the log of 60 as it was, behind hours undone since", () -> {
            OneJoy joy = village(RING);
            joy.go(103);
            joy.image();
            joy.fog(true);
            joy.go(7);
            joy.back();
            joy.fog(true);
            joy.go(39);
            for (int i = 0; i < 40; i++) {
                joy.undo();
            }
            due(103, joy.count(5));
            for (int i = 0; i < 60; i++) {
                due((103 - i) % 5, joy.log(i));
            }
        });
    }

    private static void count() {
        int[] told = {5, 2, 2, 3, 1, 9, 1, 0, 1, 1, 8, 9, 2, 3, 5};
        for (int i = 0; i < told.length; i++) {
            int what = i;
            edge(43, "count(" + i + ") of a village", told[i], () -> counted().count(what));
        }
        edge(43, "HIDDEN: 15", HIDDEN, () -> village("d").count(15));
        edge(43, "HIDDEN: -1", HIDDEN, () -> village("d").count(-1));
        edge(43, "HIDDEN: the greatest", HIDDEN, () -> village("d").count(Integer.MAX_VALUE));
        edge(43, "HIDDEN: the least", HIDDEN, () -> new OneJoy().count(Integer.MIN_VALUE));
        edge(43, "HIDDEN: 15 of no village", HIDDEN, () -> new OneJoy().count(15));
        edge(43, "NONE: no law holds", NONE, () -> village("d").count(4));
        edge(43, "NONE: no BEFORE", NONE, () -> village("d").count(7));
        edge(43, "twelve houses", 12, () -> village(TWELVE).count(0));
        edge(43, "sixteen windows", 16, () -> village("d;d" + many(";w", 16)).count(1));
        edge(43, "240 bytes of the tape", 240, () -> fed(many("d", 240)).count(3));
        edge(43, "the log's length: 60 at most", 60, () -> {
            OneJoy joy = village("d");
            joy.go(61);
            return joy.count(13);
        });
        edge(43, "acts that can be undone: 40 at most", 40, () -> {
            OneJoy joy = village("d");
            joy.go(41);
            return joy.count(14);
        });
        edge(43, "laughs of all, many", 9999 + 417 * 9 * 12, () -> atHour(9999,
            "dk9;dk9;dk9;dk9;dk9;dk9;dk9;dk9;dk9;dk9;dk9;dk9").count(10));
    }

    /** Five houses; three hours, two of them in fog, and what was undone. */
    private static OneJoy counted() {
        OneJoy joy = village("vh6;dk1;dk4;d;d;d;w;wa3b1");
        feed(joy, "y:1");
        joy.text(1);
        holdLaw(joy, "y:w");
        joy.mist(9);
        joy.go(1);
        joy.fog(true);
        joy.music(true);
        joy.go(1);
        joy.see(1, 0);
        joy.see(2, 0);
        feed(joy, "d;d");
        joy.lie();
        joy.undo();
        joy.fog(false);
        joy.undo();
        joy.go(1);
        joy.lie();
        joy.undo();
        return joy;
    }
}
