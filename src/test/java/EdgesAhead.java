/** Boundaries of what is ahead and of how to have it otherwise: promises 21 to 33. */
public final class EdgesAhead extends Edges {
    private static final String CHAIN = "d;d;d;wo1;wa1b2o1";
    /** Round eleven houses; from the tenth to the last it goes at 23 alone: there 264 hours from now, and for good. */
    private static final String LATE = "d;d;d;d;d;d;d;d;d;d;d;dk1;wo1;wa1b2o1;wa2b3o1;wa3b4o1;wa4b5o1;wa5b6o1;wa6b7o1"
        + ";wa7b8o1;wa8b9o1;wa9b10o1;wa10b0o1;wa10b11o1";
    private static final String LATE_LAW = "y:h=23&k=1?0;y:k=1?9;y:5";
    private static final String RING12 = TWELVE + ";wo1;wa1b2o1;wa2b3o1;wa3b4o1;wa4b5o1;wa5b6o1;wa6b7o1;wa7b8o1;wa8b9o1"
        + ";wa9b10o1;wa10b11o1;wa11b0o1";
    /** It stands at 0 and sees 1, 2, 3 with wishes 5, 3, 9. */
    private static final String STAR = "dp0;dw5;dw3;dw9;w;wb2;wb3";
    /** Round five houses; at 23 it goes from 2 by 5 to 4: there behind 48 hours, and each 120 hours again. */
    private static final String ASIDE = "d;d;d;d;d;dk1;wo1;wa1b2o1;wa2b3o1;wa3b4o1;wa4b0o1;wa2b5o1;wa5b4o1";
    private static final int ALL = 1000000000;

    public static void main(String[] args) {
        ahead();
        when();
        round();
        never();
        feud();
        standBounds();
        stand();
        liesBounds();
        lies();
        shuttersBounds();
        shutters();
        feastBounds();
        feast();
        oddsBounds();
        odds();
        mean();
        pretendBounds();
        pretend();
        rests();
        finish(21, 22, 23, 24, 25, 26, 27, 28, 29, 30, 31, 32, 33);
    }

    private static OneJoy late() {
        return villageBy(LATE_LAW, LATE);
    }

    private static OneJoy aside(int hours) {
        OneJoy joy = villageBy(LATE_LAW, ASIDE);
        joy.go(hours);
        return joy;
    }

    private static OneJoy inFog(String text) {
        OneJoy joy = village(text);
        joy.fog(true);
        return joy;
    }

    private static void ahead() {
        edge(21, "behind 0 hours: where it is", 2, () -> village("va2;d;d;d").ahead(0));
        edge(21, "behind 1 hour", 1, () -> village(RING).ahead(1));
        edge(21, "behind 99 hours", 99 % 5, () -> village(RING).ahead(99));
        edge(21, "NONE: 100 hours", NONE, () -> village(RING).ahead(100));
        edge(21, "NONE: -1 hours", NONE, () -> village(RING).ahead(-1));
        edge(21, "NONE: the greatest number of hours", NONE, () -> village(RING).ahead(Integer.MAX_VALUE));
        edge(21, "NONE: the least number of hours", NONE, () -> village(RING).ahead(Integer.MIN_VALUE));
        edge(21, "NONE: no village", NONE, () -> new OneJoy().ahead(0));
        edge(21, "without fog, also if there is fog by hand", 3, () -> inFog(RING).ahead(3));
        edge(21, "hours without end: beyond 9,999", (9999 + 99) % 5, () -> atHour(9999, RING).ahead(99));
        edge(21, "from as it is, BEFORE, too", 1, () -> {
            OneJoy joy = village("d;d;w");
            joy.go(1);
            return joy.ahead(9);
        });
        edge(21, "from as it is, at its time", 2, () -> villageBy("y:h=23&k=1?0;y:k=1?9;y:5", "vh23;dp0;d;dk1;w;wb2").ahead(1));
        edge(21, "without mist", 3, () -> {
            OneJoy joy = village(RING);
            joy.mist(99);
            return joy.ahead(3);
        });
    }

    private static void when() {
        edge(22, "0 if it is there", 0, () -> village("va1;d;d").when(1));
        edge(22, "behind 1 hour", 1, () -> village(RING).when(1));
        edge(22, "behind 4 hours", 4, () -> village(RING).when(4));
        edge(22, "first, not again", 1, () -> {
            OneJoy joy = village(RING);
            joy.go(5);
            return joy.when(1);
        });
        edge(22, "NONE: never", NONE, () -> village("d;d;d;w").when(2));
        edge(22, "NONE: never again where it was", NONE, () -> {
            OneJoy joy = village(CHAIN);
            joy.go(1);
            return joy.when(0);
        });
        edge(22, "NONE: house -1", NONE, () -> village(RING).when(-1));
        edge(22, "NONE: one above", NONE, () -> village(RING).when(5));
        edge(22, "NONE: a 13th", NONE, () -> village(RING12).when(12));
        edge(22, "NONE: no village", NONE, () -> new OneJoy().when(0));
        edge(22, "hours without end: behind 264", 264, () -> late().when(11));
        edge(22, "hours without end: beyond 9,999", 1, () -> atHour(9999, RING).when(0));
        edge(22, "without fog, also if there is fog by hand", 3, () -> inFog(RING).when(3));
        edge(22, "the last of twelve", 11, () -> village(RING12).when(11));
    }

    private static void round(String sentence, String text, int behind, int more) {
        edge(23, sentence + ", behind how many: '" + text + "'", behind, () -> village(text).round(0));
        edge(23, sentence + ", how many more: '" + text + "'", more, () -> village(text).round(1));
    }

    private static void round() {
        round("0, if all is as it is now again", "d", 0, 24);
        round("where it stays is the same but for the time", "va1;dp9;d;w", 2 - 1, 24);
        round("BEFORE is not as it was", CHAIN, 2, 24);
        round("where it is and the time are again, BEFORE is not", RING12, 1, 24);
        round("five houses by 24 hours", RING, 1, 120);
        edge(23, "a house but once in 120 hours", 120, () -> aside(49).round(1));
        edge(23, "a house but once in 120 hours, it is so now", 0, () -> aside(49).round(0));
        edge(23, "0 with BEFORE as it will be", 0, () -> {
            OneJoy joy = village(RING);
            joy.go(1);
            return joy.round(0);
        });
        edge(23, "behind 264 hours", 264, () -> late().round(0));
        edge(23, "24 more behind 264 hours", 24, () -> late().round(1));
        edge(23, "264 more", 264, () -> villageBy("y:k*9", LATE).round(1));
        edge(23, "NONE: what -1", NONE, () -> village(RING).round(-1));
        edge(23, "NONE: what 2", NONE, () -> village(RING).round(2));
        edge(23, "NONE: no village, what 0", NONE, () -> new OneJoy().round(0));
        edge(23, "NONE: no village, what 1", NONE, () -> new OneJoy().round(1));
        edge(23, "without fog, also if there is fog by hand", 120, () -> inFog(RING).round(1));
        edge(23, "hours without end: beyond 9,999", 120, () -> atHour(9999, RING).round(1));
    }

    private static void never() {
        edge(24, "where it never is from now on", 0b11000, () -> village("d;d;d;d;d;wo1;wa1b2o1;wa3b4").never());
        edge(24, "where it is now is not among them", 0b110, () -> village("d;d;d").never());
        edge(24, "where it was is", 0b001, () -> {
            OneJoy joy = village(CHAIN);
            joy.go(1);
            return joy.never();
        });
        edge(24, "none", 0, () -> village(RING).never());
        edge(24, "all but one of twelve", 0b011111111111, () -> village("va11;" + TWELVE).never());
        edge(24, "hours without end: at the last behind 264", 0, () -> late().never());
        edge(24, "each time anew", 0b001, () -> {
            OneJoy joy = village(CHAIN);
            due(0, joy.never());
            joy.go(1);
            return joy.never();
        });
        edge(24, "not a house that it is at in the last of 120 hours alone", 0, () -> aside(49).never());
        edge(24, "NONE: no village", NONE, () -> new OneJoy().never());
        edge(24, "without fog, also if there is fog by hand", 0, () -> inFog(RING).never());
        edge(24, "hours without end: beyond 9,999", 0, () -> atHour(9999, RING).never());
    }

    private static void feud() {
        edge(25, "not where it is but once", 0b100, () -> village(CHAIN).feud());
        edge(25, "where it stays", 0b1, () -> village("d;d").feud());
        edge(25, "round", 0b11111, () -> village(RING).feud());
        edge(25, "round behind one house that is ahead of it", 0b1110, () -> village("d;d;d;d;wo1;wa1b2o1;wa2b3o1;wa3b1o1").feud());
        edge(25, "all of twelve", 0b111111111111, () -> village(RING12).feud());
        edge(25, "not where it is often, then no more", 1 << 11, () -> late().feud());
        edge(25, "a house that it is at now and each 120 hours", 0b111111, () -> aside(48).feud());
        edge(25, "a house that it is at in the last of each 120 hours", 0b111111, () -> aside(49).feud());
        edge(25, "NONE: no village", NONE, () -> new OneJoy().feud());
        edge(25, "without fog, also if there is fog by hand", 0b11111, () -> inFog(RING).feud());
    }

    private static void standBounds() {
        edge(26, "NONE: house -1", NONE, () -> village(STAR).stand(-1, 1));
        edge(26, "NONE: one above", NONE, () -> village(STAR).stand(4, 1));
        edge(26, "NONE: a 13th", NONE, () -> village(TWELVE).stand(12, 1));
        edge(26, "NONE: no village", NONE, () -> new OneJoy().stand(0, 1));
        edge(26, "NONE: 0 hours", NONE, () -> village("d").stand(0, 0));
        edge(26, "NONE: -1 hours", NONE, () -> village("d").stand(0, -1));
        edge(26, "NONE: 31 hours", NONE, () -> village("d").stand(0, 31));
        edge(26, "1 hour", 0, () -> village("d").stand(0, 1));
        edge(26, "30 hours", 0, () -> village(RING).stand(0, 30));
        edge(26, "30 hours, not 29", NONE, () -> village(RING).stand(4, 30));
        edge(26, "the greatest number of hours", NONE, () -> village("d").stand(0, Integer.MAX_VALUE));
    }

    private static void stand() {
        edge(26, "none can be enough", 0, () -> village(STAR).stand(2, 1));
        edge(26, "one", 0b10, () -> village(STAR).stand(1, 1));
        edge(26, "NONE: none is enough", NONE, () -> village(STAR).stand(0, 1));
        edge(26, "NONE: behind just n hours, not by then", NONE, () -> village(CHAIN).stand(1, 2));
        edge(26, "besides those who do", 0b100, () -> village("dp0;dw3;dw5;dw9b1;w;wb2;wb3").stand(2, 1));
        edge(26, "those who do turn no more", NONE, () -> village("dp0;dw3b1;dw3;w;wb2").stand(2, 1));
        edge(26, "the fewest ahead of the least", 0b1000, () ->
            villageBy("y:5+b*[3-k]", "dp0;d;d;dk9;w;wb2;wb3").stand(3, 1));
        edge(26, "of several the least", 0b10, () -> village("dp0;dw5;dw3;dw5;dw7;w;wb2;wa2b3;wa2b4;wa1b4").stand(4, 2));
        edge(26, "of several the least, told the other way", 0b10, () ->
            village("dp0;dw7;dw3;dw3;dw5;wb3;wb4;wa3b1;wa3b2;wa4b1").stand(1, 2));
        edge(26, "two", 0b10100, () -> village("dw5;dw5;dw9;dw5;dw9;w;wb2;wa2b3;wa2b4").stand(4, 2));
        edge(26, "three", 0b1110, () -> villageBy("y:w+b*9", "dp0;d;d;d;d;w;wb2;wb3;wb4").stand(4, 1));
        edge(26, "ten of twelve", 0b011111111110, () -> villageBy("y:w+b*9",
            "dp0;d;d;d;d;d;d;d;d;d;d;d;w;wb2;wb3;wb4;wb5;wb6;wb7;wb8;wb9;wb10;wb11").stand(11, 1));
        edge(26, "by way of all twelve", 0b001111111110, () -> villageBy("y:w+b*9",
            "d;d;d;d;d;d;d;d;d;d;d;d;wo1;wb2o1;wb3o1;wb4o1;wb5o1;wb6o1;wb7o1;wb8o1;wb9o1;wb10o1;wb11o1;wa10b11o1;wa11b0o1;wa11b1o1")
            .stand(0, 3));
        edge(26, "the last of twelve alone", 1 << 11, () -> village("dp0;d;d;d;d;d;d;d;d;d;d;d;w;wb11").stand(11, 1));
        edge(26, "none, where it stays", 0, () -> village("dp9;d;w").stand(0, 7));
        edge(26, "without fog, also if there is fog by hand", 0b10, () -> inFog(STAR).stand(1, 1));
        edge(26, "the first house", 0b1, () -> village("va1;dw9;dp0;dw3;wa1b0;wa1b2").stand(0, 1));
        edge(26, "where it was is not gone back to, whoever turns", NONE, () -> village("dw9;d;dw3;wo1;wa1b0;wa1b2").stand(0, 2));
    }

    private static void liesBounds() {
        edge(27, "NONE: house -1", NONE, () -> village(RING).lies(-1, 1));
        edge(27, "NONE: one above", NONE, () -> village(RING).lies(5, 1));
        edge(27, "NONE: no village", NONE, () -> new OneJoy().lies(0, 0));
        edge(27, "NONE: -1 hours", NONE, () -> village("d").lies(0, -1));
        edge(27, "NONE: 31 hours", NONE, () -> village("d").lies(0, 31));
        edge(27, "0 hours, where it is", 0, () -> village("va3;d;d;d;d").lies(3, 0));
        edge(27, "0 hours: no lie ahead of none", NONE, () -> village("d;d;d;d").lies(3, 0));
        edge(27, "30 hours", 0, () -> village(RING).lies(0, 30));
        edge(27, "30 hours, another house", 1, () -> village("d;d;d;d;d").lies(3, 30));
        edge(27, "the least number of hours", NONE, () -> village("d").lies(0, Integer.MIN_VALUE));
    }

    private static void lies() {
        edge(27, "no lie", 0, () -> village(RING).lies(3, 3));
        edge(27, "one ahead of one hour", 1, () -> village(RING).lies(4, 1));
        edge(27, "NONE: no two ahead of one hour", NONE, () -> village("d;d;d;d;d;d;d").lies(6, 1));
        edge(27, "one ahead of each of two", 2, () -> village("d;d;d;d;d;d;d").lies(6, 2));
        edge(27, "NONE: not behind the last hour", NONE, () -> village(RING).lies(3, 1));
        edge(27, "ten of eleven houses in ten hours", 10, () -> village("d;d;d;d;d;d;d;d;d;d;d").lies(8, 10));
        edge(27, "NONE: ten of eleven houses in nine hours", NONE, () -> village("d;d;d;d;d;d;d;d;d;d;d").lies(8, 9));
        edge(27, "NONE: three doors on is where it is, of three", NONE, () -> village("d;d;d").lies(1, 30));
        edge(27, "none of one house", 0, () -> village("d").lies(0, 30));
        edge(27, "of two houses", 1, () -> village("d;d").lies(1, 30));
        edge(27, "NONE: not by any of twelve", NONE, () -> village(TWELVE).lies(1, 30));
        edge(27, "round by numbers", 1, () -> village("va4;d;d;d;d;d").lies(2, 1));
        edge(27, "BEFORE is where it was ahead of a lie", NONE, () -> village("d;d;d;dp0;wa3b0").lies(0, 1));
        edge(27, "behind just n hours, not by then", NONE, () -> village(CHAIN).lies(1, 2));
        edge(27, "fewest, though more would do it, too", 1, () -> village("d;d;d;d").lies(3, 5));
        edge(27, "the time goes on", 0, () -> villageBy("y:h=1&k=1?0;y:k=1?9;y:5", "d;d;d;dk1;wo1;wa1b2o1;wa1b3o1").lies(3, 2));
        edge(27, "the time goes on behind a lie", 1, () ->
            villageBy("y:h=1&k=1?0;y:k=1?9;y:5", "d;d;d;d;d;dk1;wa3b2o1;wa2b4o1;wa2b5o1").lies(5, 2));
        edge(27, "the time goes round behind 23", 0, () ->
            villageBy("y:h=0&k=1?0;y:k=1?9;y:5", "vh23;d;d;d;dk1;wo1;wa1b2o1;wa1b3o1").lies(3, 2));
        edge(27, "without fog, also if there is fog by hand", 0, () -> inFog(RING).lies(3, 3));
    }

    private static void shuttersBounds() {
        edge(28, "NONE: house -1", NONE, () -> village(RING).shutters(-1));
        edge(28, "NONE: one above", NONE, () -> village(RING).shutters(5));
        edge(28, "NONE: a 13th", NONE, () -> village(TWELVE).shutters(12));
        edge(28, "NONE: no village", NONE, () -> new OneJoy().shutters(0));
        edge(28, "NONE: it is there now", NONE, () -> village(RING).shutters(0));
        edge(28, "0 of a village without windows", 0, () -> village("d;d").shutters(1));
    }

    private static void shutters() {
        edge(28, "none can be enough", 0, () -> village("d;d;d;wa1b2").shutters(2));
        edge(28, "three at most", 0b111, () -> village("dp0;d;w;w;w").shutters(1));
        edge(28, "NONE: not by three", NONE, () -> village("dp0;d;w;w;w;w").shutters(1));
        edge(28, "open ones alone", 0b1011, () -> {
            OneJoy joy = village("dp0;d;w;w;w;w");
            joy.shut(2, true);
            return joy.shutters(1);
        });
        edge(28, "the fewest ahead of the least", 0b100, () -> village("d;d;d;w;w;wa1b2").shutters(2));
        edge(28, "two ahead of three", 0b11000, () -> village("d;d;d;w;w;w;wa1b2;wa1b2").shutters(2));
        edge(28, "of several the least, one", 0b01, () -> village("d;d;d;w;wa1b2").shutters(2));
        edge(28, "of several the least, two", 0b0011, () -> village("d;d;d;w;w;wa1b2;wa1b2").shutters(2));
        edge(28, "of several the least, three", 0b000111, () -> village("d;d;d;w;w;w;wa1b2;wa1b2;wa1b2").shutters(2));
        edge(28, "three of sixteen, the last", 7 << 13, () -> village("d;d;d;d" + many(";wa2b3", 13) + ";w;w;w").shutters(1));
        edge(28, "the last of sixteen", 1 << 15, () -> village("d;d;d;d" + many(";wa2b3", 15) + ";w").shutters(1));
        edge(28, "by envy that is less", 0b100, () -> village("dp2;dw0;d;w;w;wb2").shutters(1));
        edge(28, "never, though it would come behind 264 hours alone", 1, () -> late().shutters(11));
        edge(28, "without fog, also if there is fog by hand", 1, () -> inFog(CHAIN).shutters(1));
    }

    private static void feastBounds() {
        edge(29, "NONE: house -1", NONE, () -> village(STAR).feast(-1, 1, 0));
        edge(29, "NONE: one above", NONE, () -> village(STAR).feast(4, 1, 0));
        edge(29, "NONE: no village", NONE, () -> new OneJoy().feast(0, 1, 0));
        edge(29, "NONE: 0 hours", NONE, () -> village("d").feast(0, 0, 0));
        edge(29, "NONE: -1 hours", NONE, () -> village("d").feast(0, -1, 0));
        edge(29, "NONE: 31 hours", NONE, () -> village("d").feast(0, 31, 0));
        edge(29, "1 hour", 0, () -> village("d").feast(0, 1, 0));
        edge(29, "30 hours", 0, () -> village(RING).feast(0, 30, 0));
        edge(29, "30 hours, not 29", NONE, () -> village(RING).feast(4, 30, 0));
        edge(29, "NONE: what -1", NONE, () -> village(STAR).feast(1, 1, -1));
        edge(29, "NONE: what 2", NONE, () -> village(STAR).feast(1, 1, 2));
        edge(29, "the greatest number of hours", NONE, () -> village("d").feast(0, Integer.MAX_VALUE, 0));
    }

    private static void feast(String sentence, String text, int house, int n, int more, int who) {
        edge(29, sentence + ", how many more", more, () -> village(text).feast(house, n, 0));
        edge(29, sentence + ", which house", who, () -> village(text).feast(house, n, 1));
    }

    private static void feast() {
        feast("none has to", STAR, 2, 1, 0, NONE);
        feast("as much is enough where the lowest is lower", STAR, 1, 1, 2, 2);
        feast("one more is needed where it is not", "dp0;dw3;dw5;w;wb2", 2, 1, 3, 1);
        feast("none is enough of one alone", STAR, 3, 1, NONE, NONE);
        feast("none is enough at all", STAR, 0, 1, NONE, NONE);
        feast("of several houses the lowest", "dp0;dw3;dw4;dw5;dw6;w;wb2;wa1b3;wa1b4;wa2b4", 4, 2, 2, 1);
        feast("the least ahead of the lowest", "dp0;dw3;dw5;dw5;dw6;w;wb2;wa1b3;wa1b4;wa2b4", 4, 2, 2, 3);
        feast("1 more", "dp0;dw3;dw3;w;wb2", 2, 1, 1, 1);
        feast("of the first house", "va1;dw3;dp0;dw3;wa1b0;wa1b2", 2, 1, 1, 0);
        feast("9 more", "dp0;dw0;dw8;w;wb2", 2, 1, 9, 1);
        feast("9 at most: up to it", "dp0;dw1;dw8;w;wb2", 2, 1, 8, 1);
        feast("9 at most: not above it", "dp0;dw9;dw9;w;wb2", 2, 1, NONE, NONE);
        feast("9 at most: 9 is needed and 10 would be", "dp0;dw5;dw9;w;wb2", 2, 1, NONE, NONE);
        feast("behind just n hours", CHAIN, 1, 2, NONE, NONE);
        feast("with its back to it its want is no wish", "dp0;db1;d;w;wb2", 2, 1, NONE, NONE);
        edge(29, "by a law by which more is less", 3, () -> villageBy("y:9-w", "dp0;dw7;dw5;w;wb2").feast(2, 1, 0));
        edge(29, "without fog, also if there is fog by hand", 2, () -> inFog(STAR).feast(1, 1, 0));
        edge(29, "the last of twelve", 11, () -> villageBy("y:9-w", "dp0;d;d;d;d;d;d;d;d;d;d;d;w;wb11").feast(11, 1, 1));
    }

    private static void oddsBounds() {
        edge(30, "NONE: house -1", NONE, () -> village(CHAIN).odds(-1, 1, 30));
        edge(30, "NONE: one above", NONE, () -> village(CHAIN).odds(3, 1, 30));
        edge(30, "NONE: no village", NONE, () -> new OneJoy().odds(0, 0, 30));
        edge(30, "NONE: -1 hours", NONE, () -> village(CHAIN).odds(0, -1, 30));
        edge(30, "NONE: 31 hours", NONE, () -> village(CHAIN).odds(0, 31, 30));
        edge(30, "NONE: chance -1", NONE, () -> village(CHAIN).odds(0, 1, -1));
        edge(30, "NONE: chance 101", NONE, () -> village(CHAIN).odds(0, 1, 101));
        edge(30, "0 hours, where it is", ALL, () -> village(CHAIN).odds(0, 0, 30));
        edge(30, "0 hours, where it is not", 0, () -> village(CHAIN).odds(1, 0, 30));
        edge(30, "30 hours", ALL, () -> village(RING).odds(0, 30, 0));
        edge(30, "chance 0", ALL, () -> village(CHAIN).odds(1, 1, 0));
        edge(30, "chance 100", ALL, () -> village(CHAIN).odds(0, 30, 100));
        edge(30, "chance 99", 990000000, () -> village(CHAIN).odds(0, 1, 99));
        edge(30, "chance 1", 10000000, () -> village(CHAIN).odds(0, 1, 1));
        edge(30, "the greatest of all", NONE, () -> village(CHAIN).odds(0, Integer.MAX_VALUE, Integer.MAX_VALUE));
    }

    private static void odds() {
        String chain = "d;d;d;d;wo1;wa1b2o1;wa2b3o1";
        // By 33 of 100: 330000000, 108900000, 35937000, 11859210, 3913539 (.3), 1291467 (.87), 426184 (.11).
        edge(30, "nothing to cut", 11859210, () -> village(chain).odds(0, 4, 33));
        edge(30, "cut", 3913539, () -> village(chain).odds(0, 5, 33));
        edge(30, "cut, not rounded", 1291467, () -> village(chain).odds(0, 6, 33));
        edge(30, "cut again of what was cut", 426184, () -> village(chain).odds(0, 7, 33));
        edge(30, "the rest go", ALL - 330000000, () -> village(chain).odds(1, 1, 33));
        edge(30, "nothing stays in the end, all has gone", ALL, () -> village(CHAIN).odds(2, 30, 1));
        edge(30, "all parts together", ALL, () -> {
            OneJoy joy = village(RING);
            long together = 0;
            for (int h = 0; h < 5; h++) {
                together += joy.odds(h, 29, 37);
            }
            return together;
        });
        // At 1 from 0 and from 2: cut together it would be 364254070.
        edge(30, "each by where it is and BEFORE is cut of itself", 364254069, () ->
            villageBy("y:h=1&k=1?0;y:k=1?9;y:5", "d;d;dk1;d;wo1;wb2o1;wa2b1o1;wa1b3o1").odds(1, 5, 67));
        edge(30, "none BEFORE is not the last house", ALL, () ->
            village("d;d;d;d;d;d;d;d;d;d;d;dw0;wb11;wo1;wa11b9o1;wa9b10o1;wa10b11o1").odds(11, 1, 0));
        edge(30, "BEFORE the last house, it is not gone back to", ALL, () ->
            village("dw4;d;d;d;d;d;d;d;d;d;d;dw0;wb11;wo1;wa11b9o1;wa9b10o1;wa10b11o1").odds(1, 6, 0));
        edge(30, "at the chance, also if there is fog by hand", 700000000, () -> inFog(CHAIN).odds(1, 1, 30));
        edge(30, "the time goes on for what stays", 250000000, () ->
            villageBy("y:h=1?9-k;y:k", "dp0;d;dk1;w;wb2").odds(2, 2, 50));
        edge(30, "hours without end: beyond 9,999", ALL, () -> atHour(9999, RING).odds(0, 1, 0));
        edge(30, "where it would stay without fog, too", ALL, () -> village("d;d").odds(0, 30, 33));
    }

    private static void mean() {
        String chain = "d;d;d;d;wo1;wa1b2o1;wa2b3o1";
        edge(31, "NONE: house -1", NONE, () -> village(CHAIN).mean(-1, 1, 30));
        edge(31, "NONE: one above", NONE, () -> village(CHAIN).mean(3, 1, 30));
        edge(31, "NONE: no village", NONE, () -> new OneJoy().mean(0, 1, 30));
        edge(31, "NONE: 0 hours", NONE, () -> village(CHAIN).mean(0, 0, 30));
        edge(31, "NONE: -1 hours", NONE, () -> village(CHAIN).mean(0, -1, 30));
        edge(31, "NONE: 31 hours", NONE, () -> village(CHAIN).mean(0, 31, 30));
        edge(31, "NONE: chance -1", NONE, () -> village(CHAIN).mean(0, 1, -1));
        edge(31, "NONE: chance 101", NONE, () -> village(CHAIN).mean(0, 1, 101));
        edge(31, "1 hour", 300000, () -> village(CHAIN).mean(0, 1, 30));
        edge(31, "behind each hour, not as it is now", 0, () -> village(CHAIN).mean(0, 1, 0));
        edge(31, "30 hours, all at one", 30000000, () -> village("d").mean(0, 30, 50));
        edge(31, "30 hours, chance 100", 30000000, () -> village(CHAIN).mean(0, 30, 100));
        edge(31, "30 hours, chance 0", 29000000, () -> village(CHAIN).mean(2, 30, 0));
        // 330000000 + 108900000 + 35937000 + 11859210 = 486696210.
        edge(31, "by 1,000, cut", 486696, () -> village(chain).mean(0, 4, 33));
        // 600000000 and 360000000 (.. 216000000, 129600000, 77760000, 46656000): 1430016000 in six hours.
        edge(31, "by 1,000, nothing to cut", 1430016, () -> village(chain).mean(0, 6, 60));
        // 330000000 + 108900000 + 35937000 + 11859210 + 3913539 + 1291467 = 491901216: each cut alone it would be 491900.
        edge(31, "together, then by 1,000, cut", 491901, () -> village(chain).mean(0, 6, 33));
        edge(31, "by 1,000, cut, not rounded", 490609, () -> village(chain).mean(0, 5, 33));
        // 1631463999 and 2703151999 in all.
        edge(31, "by 1,000, cut, one below the next", 1631463, () -> village(chain).mean(0, 20, 62));
        edge(31, "together beyond 31 bits", 2703151, () -> village(chain).mean(0, 27, 73));
        edge(31, "KIDS apart", 1000000, () -> village("vh6;dk9;dk9").mean(0, 1, 30));
        edge(31, "KIDS of another house apart", 0, () -> village("vh6;dk9;dk9").mean(1, 1, 30));
        edge(31, "at the chance, also if there is fog by hand", 700000, () -> inFog(CHAIN).mean(1, 1, 30));
    }

    private static void pretendBounds() {
        edge(32, "HIDDEN: the one -1", HIDDEN, () -> village(STAR).pretend(-1, 0, 0, 0));
        edge(32, "HIDDEN: the one above", HIDDEN, () -> village(STAR).pretend(4, 0, 0, 0));
        edge(32, "HIDDEN: the other -1", HIDDEN, () -> village(STAR).pretend(0, -1, 0, 0));
        edge(32, "HIDDEN: the other above", HIDDEN, () -> village(STAR).pretend(0, 4, 0, 0));
        edge(32, "HIDDEN: alike", HIDDEN, () -> village(STAR).pretend(1, 1, 0, 0));
        edge(32, "HIDDEN: no village", HIDDEN, () -> new OneJoy().pretend(0, 1, 0, 0));
        edge(32, "HIDDEN: x 2", HIDDEN, () -> village(STAR).pretend(0, 1, 2, 0));
        edge(32, "HIDDEN: x -1", HIDDEN, () -> village(STAR).pretend(0, 1, -1, 0));
        edge(32, "HIDDEN: y 2", HIDDEN, () -> village(STAR).pretend(0, 1, 0, 2));
        edge(32, "HIDDEN: y -1", HIDDEN, () -> village(STAR).pretend(0, 1, 0, -1));
        edge(32, "HIDDEN: one house has no other", HIDDEN, () -> village("d").pretend(0, 1, 0, 0));
    }

    private static void pretend() {
        // From 2 it goes to 0 or 1 at once, where it stays.
        String two = "va2;dw5;dw4;dp0;wa2b0o1;wa2b1o1";
        edge(32, "none has its back to it", -24, () -> village(two).pretend(0, 1, 0, 0));
        edge(32, "the one has", 24, () -> village(two).pretend(0, 1, 1, 0));
        edge(32, "the other has", -24, () -> village(two).pretend(0, 1, 0, 1));
        edge(32, "both have: the lowest", 24, () -> village(two).pretend(0, 1, 1, 1));
        edge(32, "the one is the other: less the other", -24, () -> village(two).pretend(1, 0, 1, 1));
        edge(32, "0: one as often as the other", 0, () -> village("va2;d;d;d").pretend(0, 1, 0, 0));
        edge(32, "the next 24 hours, not 25", -1, () -> village(RING).pretend(0, 1, 0, 0));
        edge(32, "the next 24 hours, not 23", 0, () -> village(RING).pretend(4, 3, 0, 0));
        edge(32, "a back that is turned is not, if it pretends so", -24, () ->
            village("va2;dw5b1;dw4;dp0;wa2b0o1;wa2b1o1").pretend(0, 1, 0, 0));
        edge(32, "the other's back that is turned is not, if it pretends so", 24, () ->
            village("va2;dw3;dw4b1;dp0;wa2b0o1;wa2b1o1").pretend(0, 1, 0, 0));
        edge(32, "all else as it is: another's back", 0, () ->
            village("va2;dw5;dw4;dp0;db1;wa2b0o1;wa2b1o1;wa2b3o1").pretend(0, 1, 0, 0));
        edge(32, "KIDS apart", -24, () -> village("va2h6;dw5k9;dw4;dp0;wa2b0o1;wa2b1o1").pretend(0, 1, 0, 0));
        edge(32, "KIDS of the other apart", 24, () -> village("va2h6;dw5;dw4k9;dp0;wa2b0o1;wa2b1o1").pretend(0, 1, 1, 0));
        edge(32, "without fog, also if there is fog by hand", -24, () -> inFog(two).pretend(0, 1, 0, 0));
        edge(32, "as it is now does not count", 0, () -> village("d;d;d;wb2o1").pretend(0, 1, 0, 0));
    }

    private static OneJoy matching() {
        return villageBy("y:b=1?h;y:w", "dp0;d;d;d;wa1b3;wa2b0;wa3b2;wb3");
    }

    private static void rests(String sentence, String text, int... rests) {
        edge(33, sentence + ", how many", rests.length, () -> village(text).rests(0, 1, NONE));
        edge(33, sentence + ", rising", () -> {
            OneJoy joy = village(text);
            for (int i = 0; i < rests.length; i++) {
                due(rests[i], joy.rests(0, 1, i));
            }
            due(NONE, joy.rests(0, 1, rests.length));
        });
    }

    private static void rests() {
        rests("none is less: all four", "va2;d;d;d", 0, 1, 10, 11);
        rests("by the one's back, whatever the other does", "va2;dw5;dw4;dp0;wa2b0o1;wa2b1o1", 10, 11);
        rests("by its own", "d;dw1;dw5;d;wa1b2;wa2b3;wa3b0o1;wa1b3;wa0b1", 0, 1);
        rests("no less with another y", "d;dw9;d;wa0b1o1;wa1b2;wa0b2", 0, 10);
        rests("both", "d;d;dw2;dw5;wa2b1;wa3b2o1;wa0b3;wa3b1", 11);
        rests("the other alone", "dp2;d;d;dw2;wa0b2o1;wa3b2;wa1b2;wa3b1o1;wa3b0", 1);
        rests("the one alone", "d;dw9;d;d;wa1b3o1;wa2b0;wa3b2;wa1b2", 10);
        edge(33, "none at all", 0, () -> {
            OneJoy joy = matching();
            due(8, joy.pretend(0, 1, 0, 0));
            due(-22, joy.pretend(0, 1, 0, 1));
            due(-14, joy.pretend(0, 1, 1, 0));
            due(8, joy.pretend(0, 1, 1, 1));
            return joy.rests(0, 1, NONE);
        });
        edge(33, "NONE: the first of none", NONE, () -> matching().rests(0, 1, 0));
        String two = "va2;dw5;dw4;dp0;wa2b0o1;wa2b1o1";
        edge(33, "NONE: i -2", NONE, () -> village(two).rests(0, 1, -2));
        edge(33, "NONE: i as many as there are", NONE, () -> village(two).rests(0, 1, 2));
        edge(33, "NONE: i 4 of four", NONE, () -> village("va2;d;d;d").rests(0, 1, 4));
        edge(33, "NONE: the greatest i", NONE, () -> village(two).rests(0, 1, Integer.MAX_VALUE));
        edge(33, "NONE: the least i", NONE, () -> village(two).rests(0, 1, Integer.MIN_VALUE));
        edge(33, "NONE: the one -1", NONE, () -> village(two).rests(-1, 0, NONE));
        edge(33, "NONE: the one above", NONE, () -> village(two).rests(3, 0, NONE));
        edge(33, "NONE: the other -1", NONE, () -> village(two).rests(0, -1, NONE));
        edge(33, "NONE: the other above", NONE, () -> village(two).rests(0, 3, NONE));
        edge(33, "NONE: alike", NONE, () -> village(two).rests(1, 1, NONE));
        edge(33, "NONE: no village", NONE, () -> new OneJoy().rests(0, 1, NONE));
        edge(33, "the backs as they are do not matter", 10, () ->
            village("va2;dw5b1;dw4b1;dp0;wa2b0o1;wa2b1o1").rests(0, 1, 0));
    }
}
