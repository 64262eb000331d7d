/** What is refused answers as told and changes nothing; nor does what is only asked: all promises. */
public final class EdgesOfRefusals extends Edges {
    private static final int MOST = Integer.MAX_VALUE;
    private static final int LEAST = Integer.MIN_VALUE;

    interface Recipe {
        OneJoy make();
    }

    interface Call {
        long on(OneJoy joy);
    }

    public static void main(String[] args) {
        tapeAndTexts();
        housesAndLaws();
        byHand();
        hours();
        undoAndLog();
        ahead();
        plans();
        fogAndPairs();
        seenAndImages();
        noVillage();
        asked();
        finish(2, 3, 4, 5, 6, 7, 8, 9, 10, 11, 12, 13, 14, 15, 16, 17, 18, 19, 20, 21, 22, 23, 24, 25, 26, 27, 28, 29, 30,
            31, 32, 33, 34, 35, 36, 37, 38, 39, 40, 41, 42, 43);
    }

    /** Something of everything: four laws, an image, acts of each kind, a log, twelve seen, a tape that is no text. */
    private static OneJoy rich() {
        OneJoy joy = village("vh4m1;dw9k2t3;dp2b1;d;de0;d;w;wa1b2;wa2b3o1;wa3b4");
        for (int i = 0; i < 4; i++) {
            feed(joy, "y:w+" + i + "*h");
            joy.text(1);
        }
        joy.law(2);
        joy.mist(7);
        joy.go(2);
        joy.image();
        joy.turn(4, true);
        joy.shut(3, true);
        joy.fog(true);
        joy.prescribe(2);
        joy.go(1);
        joy.lie();
        joy.mists(1, 3);
        for (int j = 1; j <= 12; j++) {
            joy.see(20, 4);
        }
        feed(joy, "d;d;x");
        return joy;
    }

    /** Laws and a tape and a mist, but no village. */
    private static OneJoy none() {
        OneJoy joy = fed("y:w+1");
        joy.text(1);
        joy.law(0);
        joy.mist(7);
        feed(joy, "x");
        return joy;
    }

    /** Three houses, without an image or music. */
    private static OneJoy three() {
        OneJoy joy = village("d;d;d;wo1;wa1b2");
        joy.go(1);
        joy.see(1, 2);
        return joy;
    }

    private static OneJoy lateThree() {
        OneJoy joy = atHour(9990, "d;dk3;d;wo1;wa1b2");
        joy.image();
        return joy;
    }

    private static OneJoy longTape() {
        OneJoy joy = three();
        feed(joy, "d;d" + many(" ", 218));
        return joy;
    }

    private static OneJoy fullTape() {
        OneJoy joy = longTape();
        feed(joy, many(" ", 19));
        return joy;
    }

    private static void refused(int promise, String what, Recipe recipe, long want, Call call) {
        edge(promise, "refused, changes nothing: " + what, () -> {
            OneJoy joy = recipe.make();
            due(want, call.on(joy));
            due(told(recipe.make()), told(joy));
        });
    }

    private static void refused(int promise, String what, long want, Call call) {
        refused(promise, what, EdgesOfRefusals::rich, want, call);
    }

    private static void tapeAndTexts() {
        refused(2, "more than 240 by one", EdgesOfRefusals::longTape, NONE, j -> j.feed(-1, -1, -1, -1, -1));
        refused(2, "more than 240 by one behind 240", EdgesOfRefusals::fullTape, NONE, j -> j.feed(0, 0, 0, 0, 32));
        refused(3, "n below 0", 0, j -> bit(j.end(-1)));
        refused(3, "n above", 0, j -> bit(j.end(6)));
        refused(4, "no such sort", -2, j -> j.fault(2));
        refused(4, "no such sort below", -2, j -> j.fault(LEAST));
        refused(5, "a fault of a village", NONE, j -> j.text(0));
        refused(5, "a fault of a law", EdgesOfRefusals::none, NONE, j -> j.text(1));
        refused(5, "there are four laws", EdgesOfRefusals::richWithLaw, NONE, j -> j.text(1));
        refused(5, "no such sort", NONE, j -> j.text(2));
        refused(5, "no such sort below", NONE, j -> j.text(-1));
        refused(5, "no such sort of a tape that is a village", EdgesOfRefusals::fullTape, NONE, j -> j.text(MOST));
    }

    private static OneJoy richWithLaw() {
        OneJoy joy = rich();
        joy.end(0);
        feed(joy, "y:1");
        return joy;
    }

    private static void housesAndLaws() {
        refused(6, "no such house", NO_SUCH, j -> house(j, 5, 0));
        refused(6, "no such what", NO_SUCH, j -> house(j, 0, 7));
        refused(7, "no such window", NONE, j -> j.window(4, 0));
        refused(7, "no such what", NONE, j -> j.window(0, 4));
        refused(8, "no such law", 0, j -> bit(j.law(4)));
        refused(8, "no such law below", 0, j -> bit(j.law(-2)));
        refused(9, "no such house", HIDDEN, j -> j.wish(5));
    }

    private static void byHand() {
        refused(10, "no such house", 0, j -> bit(j.turn(5, true)));
        refused(10, "no such house below", 0, j -> bit(j.turn(-1, true)));
        refused(10, "no such house by 32", 0, j -> bit(j.turn(32, true)));
        refused(10, "it is so, turned", 0, j -> bit(j.turn(1, true)));
        refused(10, "it is so, not turned", 0, j -> bit(j.turn(0, false)));
        refused(11, "no such window", 0, j -> bit(j.shut(4, true)));
        refused(11, "no such window below", 0, j -> bit(j.shut(-1, true)));
        refused(11, "no such window by 32", 0, j -> bit(j.shut(32, true)));
        refused(11, "it is so, shut", 0, j -> bit(j.shut(3, true)));
        refused(11, "it is so, open", 0, j -> bit(j.shut(0, false)));
        refused(12, "it is so", 0, j -> bit(j.music(true)));
        refused(12, "it is so, without", EdgesOfRefusals::three, 0, j -> bit(j.music(false)));
        refused(13, "it is so", 0, j -> bit(j.fog(true)));
        refused(13, "it is so, without", EdgesOfRefusals::three, 0, j -> bit(j.fog(false)));
        refused(14, "it has 9", NONE, j -> j.prescribe(0));
        refused(14, "no such house", NONE, j -> j.prescribe(5));
        refused(14, "no such house below", NONE, j -> j.prescribe(-1));
        refused(15, "three doors on is where it is", EdgesOfRefusals::three, NONE, j -> j.lie());
    }

    private static void hours() {
        refused(16, "0", NONE, j -> j.go(0));
        refused(16, "241", NONE, j -> j.go(241));
        refused(16, "far below", NONE, j -> j.go(LEAST));
        refused(16, "above 9,999", EdgesOfRefusals::lateThree, NONE, j -> j.go(10));
        refused(16, "far above 9,999", EdgesOfRefusals::lateThree, NONE, j -> j.go(240));
        refused(17, "100", 0, j -> bit(j.mist(100)));
        refused(17, "-1", 0, j -> bit(j.mist(-1)));
        refused(17, "it is so", 0, j -> bit(j.mist(7)));
        refused(18, "0", NONE, j -> j.mists(0, 1));
        refused(18, "241", NONE, j -> j.mists(241, 1));
        refused(18, "above 9,999", EdgesOfRefusals::lateThree, NONE, j -> j.mists(10, 1));
    }

    private static void undoAndLog() {
        refused(19, "none to be undone", EdgesOfRefusals::untouched, NONE, j -> j.undo());
        refused(20, "no such one", NONE, j -> j.log(4));
        refused(20, "no such one below", NONE, j -> j.log(-1));
    }

    private static OneJoy untouched() {
        OneJoy joy = village("vm1;d;d;d;d;d;w");
        joy.image();
        joy.see(1, 2);
        return joy;
    }

    private static void ahead() {
        refused(21, "100", NONE, j -> j.ahead(100));
        refused(21, "-1", NONE, j -> j.ahead(-1));
        refused(22, "no such house", NONE, j -> j.when(5));
        refused(22, "never", EdgesOfRefusals::three, NONE, j -> j.when(0));
        refused(23, "no such what", NONE, j -> j.round(2));
    }

    private static void plans() {
        refused(26, "no such house", NONE, j -> j.stand(5, 1));
        refused(26, "0 hours", NONE, j -> j.stand(0, 0));
        refused(26, "31 hours", NONE, j -> j.stand(0, 31));
        refused(26, "none is enough", EdgesOfRefusals::three, NONE, j -> j.stand(0, 3));
        refused(27, "no such house", NONE, j -> j.lies(5, 1));
        refused(27, "31 hours", NONE, j -> j.lies(0, 31));
        refused(27, "-1 hours", NONE, j -> j.lies(0, -1));
        refused(27, "not by any", EdgesOfRefusals::three, NONE, j -> j.lies(0, 30));
        refused(28, "no such house", NONE, j -> j.shutters(5));
        refused(28, "not by three", EdgesOfRefusals::three, NONE, j -> j.shutters(1));
        refused(29, "no such house", NONE, j -> j.feast(5, 1, 0));
        refused(29, "0 hours", NONE, j -> j.feast(0, 0, 0));
        refused(29, "31 hours", NONE, j -> j.feast(0, 31, 1));
        refused(29, "no such what", NONE, j -> j.feast(0, 1, 2));
        refused(29, "none is enough", EdgesOfRefusals::three, NONE, j -> j.feast(0, 5, 0));
    }

    private static void fogAndPairs() {
        refused(30, "no such house", NONE, j -> j.odds(5, 1, 1));
        refused(30, "31 hours", NONE, j -> j.odds(0, 31, 1));
        refused(30, "chance 101", NONE, j -> j.odds(0, 1, 101));
        refused(31, "no such house", NONE, j -> j.mean(5, 1, 1));
        refused(31, "0 hours", NONE, j -> j.mean(0, 0, 1));
        refused(31, "chance 101", NONE, j -> j.mean(0, 1, 101));
        refused(32, "no such houses", HIDDEN, j -> j.pretend(0, 5, 0, 0));
        refused(32, "alike", HIDDEN, j -> j.pretend(4, 4, 1, 1));
        refused(32, "out of bounds", HIDDEN, j -> j.pretend(0, 1, 2, 0));
        refused(33, "no such houses", NONE, j -> j.rests(5, 0, NONE));
        refused(33, "alike", NONE, j -> j.rests(4, 4, 0));
        refused(33, "no such one", NONE, j -> j.rests(0, 1, 4));
    }

    private static void seenAndImages() {
        refused(34, "there are 12", NONE, j -> j.see(1, 0));
        refused(34, "no such house", EdgesOfRefusals::three, NONE, j -> j.see(1, 3));
        refused(34, "0 hours", EdgesOfRefusals::three, NONE, j -> j.see(0, 2));
        refused(34, "21 hours", EdgesOfRefusals::three, NONE, j -> j.see(21, 2));
        refused(35, "no such one", NONE, j -> j.envied(4096));
        refused(35, "no such one below", NONE, j -> j.envied(-2));
        refused(36, "no such set", EdgesOfRefusals::contradicted, NONE, j -> j.sure());
        refused(38, "no such house", NONE, j -> j.sees(5));
        refused(42, "no image", EdgesOfRefusals::three, NONE, j -> j.back());
        refused(43, "others", HIDDEN, j -> j.count(15));
    }

    private static OneJoy contradicted() {
        OneJoy joy = three();
        joy.see(1, 0);
        return joy;
    }

    private static void noVillage() {
        refusedWithout(6, NO_SUCH, j -> house(j, 0, 0));
        refusedWithout(7, NONE, j -> j.window(0, 0));
        refusedWithout(9, HIDDEN, j -> j.wish(0));
        refusedWithout(10, 0, j -> bit(j.turn(0, true)));
        refusedWithout(11, 0, j -> bit(j.shut(0, true)));
        refusedWithout(12, 0, j -> bit(j.music(true)));
        refusedWithout(13, 0, j -> bit(j.fog(true)));
        refusedWithout(14, NONE, j -> j.prescribe(0));
        refusedWithout(15, NONE, j -> j.lie());
        refusedWithout(16, NONE, j -> j.go(1));
        refusedWithout(18, NONE, j -> j.mists(1, 1));
        refusedWithout(19, NONE, j -> j.undo());
        refusedWithout(20, NONE, j -> j.log(0));
        refusedWithout(21, NONE, j -> j.ahead(0));
        refusedWithout(22, NONE, j -> j.when(0));
        refusedWithout(23, NONE, j -> j.round(0));
        refusedWithout(24, NONE, j -> j.never());
        refusedWithout(25, NONE, j -> j.feud());
        refusedWithout(26, NONE, j -> j.stand(0, 1));
        refusedWithout(27, NONE, j -> j.lies(0, 0));
        refusedWithout(28, NONE, j -> j.shutters(0));
        refusedWithout(29, NONE, j -> j.feast(0, 1, 0));
        refusedWithout(30, NONE, j -> j.odds(0, 0, 0));
        refusedWithout(31, NONE, j -> j.mean(0, 1, 0));
        refusedWithout(32, HIDDEN, j -> j.pretend(0, 1, 0, 0));
        refusedWithout(33, NONE, j -> j.rests(0, 1, NONE));
        refusedWithout(34, NONE, j -> j.see(1, 0));
        refusedWithout(35, NONE, j -> j.envied(NONE));
        refusedWithout(36, NONE, j -> j.sure());
        refusedWithout(37, NONE, j -> j.sills());
        refusedWithout(38, NONE, j -> j.sees(0));
        refusedWithout(39, NONE, j -> j.most());
        refusedWithout(40, NONE, j -> j.widows());
        refusedWithout(41, NONE, j -> j.image());
        refusedWithout(42, NONE, j -> j.back());
    }

    private static void refusedWithout(int promise, long want, Call call) {
        refused(promise, "no village", EdgesOfRefusals::none, want, call);
    }

    private static void asks(int promise, Call call) {
        edge(promise, "apart: what is asked changes nothing", () -> {
            OneJoy joy = rich();
            long first = call.on(joy);
            due(first, call.on(joy));
            due(told(rich()), told(joy));
        });
    }

    private static void asked() {
        asks(4, j -> j.fault(0) * 1000 + j.fault(1));
        asks(6, j -> house(j, 0, 6));
        asks(7, j -> j.window(3, 3));
        asks(9, j -> j.wish(2));
        asks(20, j -> j.log(1));
        asks(21, j -> j.ahead(99));
        asks(22, j -> j.when(0));
        asks(23, j -> j.round(0) * 1000 + j.round(1));
        asks(24, j -> j.never());
        asks(25, j -> j.feud());
        asks(26, j -> j.stand(0, 4));
        asks(27, j -> j.lies(0, 4));
        asks(28, j -> j.shutters(0));
        asks(29, j -> j.feast(0, 4, 0) * 100 + j.feast(0, 4, 1));
        asks(30, j -> j.odds(0, 9, 33));
        asks(31, j -> j.mean(0, 9, 33));
        asks(32, j -> j.pretend(0, 1, 1, 0));
        asks(33, j -> j.rests(0, 1, NONE) * 100 + j.rests(0, 1, 0));
        asks(35, j -> j.envied(NONE) * 10000 + j.envied(3));
        asks(36, j -> j.sure());
        asks(37, j -> j.sills());
        asks(38, j -> j.sees(2));
        asks(39, j -> j.most());
        asks(40, j -> j.widows());
        asks(43, j -> j.count(10));
    }
}
