/** Boundaries of the tape, of villages and laws as texts, and of wishes: promises 1 to 9. */
public final class EdgesOfTexts extends Edges {
    private static final String[] VILLAGE_ITEMS = {"a11", "h23", "m1"};
    private static final String[] HOUSE_ITEMS = {"w9", "e9", "p9", "k9", "t9", "b1"};
    private static final String[] WINDOW_ITEMS = {"a11", "b11", "o1"};

    public static void main(String[] args) {
        newObject();
        calls512();
        feedOrder();
        feedFull();
        end();
        faultSorts();
        numbersOfVillages();
        lettersOfVillages();
        clausesOfVillages();
        housesNotTold();
        blanksOfVillages();
        numbersOfLaws();
        lettersOfLaws();
        clausesOfLaws();
        conditionsOfLaws();
        depthOfLaws();
        textOfVillages();
        textOfLaws();
        newVillage();
        house();
        window();
        law();
        wish();
        lawNumbers();
        lawConditions();
        lawLetters();
        finish(1, 2, 3, 4, 5, 6, 7, 8, 9);
    }

    private static void newObject() {
        int[] counts = {0, 0, 0, 0, NONE, 0, NONE, NONE, 0, 0, 0, 0, 0, 0, 0};
        for (int i = 0; i < counts.length; i++) {
            int what = i;
            edge(1, "a new object's count(" + i + ")", counts[i], () -> new OneJoy().count(what));
        }
        edge(1, "NONE", -1, () -> OneJoy.NONE);
        edge(1, "HIDDEN", -1000000, () -> OneJoy.HIDDEN);
        edge(1, "objects stand apart", () -> {
            OneJoy one = village("d;d");
            OneJoy other = new OneJoy();
            one.go(3);
            due(0, other.count(0));
            due(0, other.count(5));
        });
    }

    private static void calls512() {
        edge(1, "at most 512 calls: the 512th feed", () -> {
            OneJoy joy = new OneJoy();
            for (int i = 1; i <= 511; i++) {
                joy.feed(i <= 239 ? 'd' : 0, 0, 0, 0, 0);
            }
            due(240, joy.feed('d', 0, 0, 0, 0));
        });
        edge(1, "at most 512 calls: the 512th way round", () -> {
            OneJoy joy = village(RING);
            for (int i = joy.count(13) + 6; i <= 511; i++) {
                due(120, joy.round(1));
            }
            due(1, joy.round(0));
        });
        edge(1, "at most 512 calls: the 512th hour by hand", () -> {
            OneJoy joy = village("d;d;d;d;d");
            for (int i = 0; i < 253; i++) {
                joy.lie();
                joy.go(1);
            }
            due(40, joy.count(14));
            due(253, joy.count(5));
            due(60, joy.count(13));
            due(253 * 3 % 5, joy.count(6));
        });
    }

    private static void feedOrder() {
        edge(2, "of each number the highest first", () -> {
            OneJoy joy = new OneJoy();
            due(4, joy.feed('d' << 24 | 'w' << 16 | '7' << 8 | 'e', 0, 0, 0, 0));
            due(4, joy.fault(0));
            joy.end(3);
            joy.text(0);
            due(7, joy.house(0, 0));
        });
        edge(2, "the five numbers in their order", () -> {
            OneJoy joy = new OneJoy();
            due(5, joy.feed('d', 'w', '2', 'k', '3'));
            joy.text(0);
            due(2, joy.house(0, 0));
            due(3, joy.house(0, 3));
        });
        edge(2, "bytes of 0 are left out, ahead", 1, () -> new OneJoy().feed('d', 0, 0, 0, 0));
        edge(2, "bytes of 0 are left out, between", () -> {
            OneJoy joy = new OneJoy();
            due(4, joy.feed('d' << 24 | 'w', 0, '7' << 16, 0, ' '));
            due(-1, joy.fault(0));
            joy.text(0);
            due(7, joy.house(0, 0));
        });
        edge(2, "nothing but bytes of 0", 0, () -> new OneJoy().feed(0, 0, 0, 0, 0));
        edge(2, "bytes above 127 are bytes", 20, () -> new OneJoy().feed(-1, -1, -1, -1, -1));
        edge(2, "twenty bytes", 20, () -> new OneJoy().feed(0x64646464, 0x64646464, 0x64646464, 0x64646464, 0x64646464));
        edge(2, "a byte above 127 is no other sign", () -> {
            OneJoy joy = new OneJoy();
            joy.feed('d' << 24 | (128 + 'w') << 16 | '7' << 8, 0, 0, 0, 0);
            due(1, joy.fault(0));
        });
    }

    private static void feedFull() {
        int d = 0x64646464;
        edge(2, "240 bytes are not more than 240", () -> {
            OneJoy joy = fed(many("d", 220));
            due(240, joy.feed(d, d, d, d, d));
            due(240, joy.count(3));
        });
        edge(2, "NONE: 241 bytes", NONE, () -> fed(many("d", 240)).feed(0, 0, 0, 0, 1));
        edge(2, "NONE: twenty behind 221", NONE, () -> fed(many("d", 221)).feed(d, d, d, d, d));
        edge(2, "nineteen behind 221", 240, () -> fed(many("d", 221)).feed(d, d, d, d, d >>> 8));
        edge(2, "bytes of 0 make a full tape no fuller", 240, () -> fed(many("d", 240)).feed(0, 0, 0, 0, 0));
        edge(2, "one byte and nineteen of 0 behind 239", 240, () -> fed(many("d", 239)).feed(0, 0, 1 << 16, 0, 0));
        edge(2, "more than 240: not even the first bytes come", () -> {
            OneJoy joy = fed("d" + many(" ", 236));
            due(NONE, joy.feed(d, 0, 0, 0, 0));
            due(237, joy.count(3));
            due(-1, joy.fault(0));
        });
    }

    private static void end() {
        edge(3, "the first n bytes alone", () -> {
            OneJoy joy = fed("d;d;d");
            yes(joy.end(3));
            due(3, joy.count(3));
            due(2, joy.text(0));
        });
        edge(3, "what is fed then comes behind the first n", () -> {
            OneJoy joy = fed("dw99");
            joy.end(2);
            feed(joy, "7;d");
            due(2, joy.text(0));
            due(7, joy.house(0, 0));
        });
        edge(3, "n 0: an empty tape", () -> {
            OneJoy joy = fed("d;d");
            yes(joy.end(0));
            due(0, joy.count(3));
        });
        edge(3, "n 0 of an empty tape", 1, () -> bit(new OneJoy().end(0)));
        edge(3, "n as many as there are", () -> {
            OneJoy joy = fed("d;d");
            yes(joy.end(3));
            due(3, joy.count(3));
        });
        edge(3, "n 240 of 240", 1, () -> bit(fed(many("d", 240)).end(240)));
        edge(3, "n 241 of 240", 0, () -> bit(fed(many("d", 240)).end(241)));
        edge(3, "False: n one above", () -> {
            OneJoy joy = fed("d;d");
            no(joy.end(4));
            due(3, joy.count(3));
        });
        edge(3, "False: n 1 of an empty tape", 0, () -> bit(new OneJoy().end(1)));
        edge(3, "False: n below 0", () -> {
            OneJoy joy = fed("d;d");
            no(joy.end(-1));
            due(3, joy.count(3));
        });
        edge(3, "False: the least n", 0, () -> bit(fed("d").end(Integer.MIN_VALUE)));
        edge(3, "False: the greatest n", 0, () -> bit(fed("d").end(Integer.MAX_VALUE)));
        edge(3, "bytes ahead of the end do not come back", () -> {
            OneJoy joy = fed("d;d");
            joy.end(1);
            no(joy.end(3));
        });
    }

    private static void faultSorts() {
        edge(4, "-2: sort 2", -2, () -> fed("d").fault(2));
        edge(4, "-2: sort -1", -2, () -> fed("d").fault(-1));
        edge(4, "-2: no such sort of an empty tape", -2, () -> new OneJoy().fault(Integer.MAX_VALUE));
        edge(4, "NONE: a village", NONE, () -> fed("d").fault(0));
        edge(4, "NONE: a law", NONE, () -> fed("y:1").fault(1));
        edge(4, "a village is no law", 0, () -> fed("d").fault(1));
        edge(4, "a law is no village", 0, () -> fed("y:1").fault(0));
        edge(4, "the tape stays", () -> {
            OneJoy joy = fed("d;x");
            due(2, joy.fault(0));
            due(0, joy.fault(1));
            due(2, joy.fault(0));
            due(3, joy.count(3));
        });
        edge(4, "the village stays", () -> {
            OneJoy joy = village("va1;d;d;dk3");
            feed(joy, "vh9;dw2");
            due(NONE, joy.fault(0));
            due(3, joy.count(0));
            due(0, joy.count(5));
            due(5, joy.house(0, 0));
        });
    }

    private static void fault(String sentence, int sort, String text, int want) {
        edge(4, sentence + ": '" + text + "'", want, () -> fed(text).fault(sort));
    }

    /** An item in a clause of its kind, all else such that it is a village. */
    private static String around(char clause, String item) {
        if (clause == 'w') {
            return TWELVE + ";w" + item + (item.startsWith("b") ? "a2" : "");
        }
        return clause + item + ";" + (clause == 'v' ? TWELVE : "d");
    }

    private static void bounds(char clause, String item) {
        char letter = item.charAt(0);
        int most = Integer.parseInt(item.substring(1));
        int at = clause == 'w' ? TWELVE.length() + 2 : 1;
        String above = "" + letter + (most + 1);
        String what = clause + " " + letter;
        fault(what + " at its most", 0, around(clause, item), NONE);
        fault(what + " at its least", 0, around(clause, letter + "0"), NONE);
        fault(what + " in two digits, a 0 ahead", 0, around(clause, letter + "00"), NONE);
        fault(what + " out of bounds is wrong at its last digit", 0, around(clause, above), at + above.length() - 1);
        fault(what + " far out of bounds is wrong at its last digit", 0, around(clause, letter + "99"), at + 2);
        fault(what + " a third digit itself", 0, around(clause, letter + "001"), at + 3);
        fault(what + " a third digit itself, whatever stands ahead of it", 0, around(clause, letter + "991"), at + 3);
        fault(what + " without a number", 0, around(clause, letter + "x"), at + 1);
        fault(what + " was there", 0, around(clause, letter + "0" + letter + "0"), at + 2);
        fault(what + " at an early end", 0, around(clause, "" + letter).substring(0, at + 1), at + 1);
    }

    private static void numbersOfVillages() {
        for (String item : VILLAGE_ITEMS) {
            bounds('v', item);
        }
        for (String item : HOUSE_ITEMS) {
            bounds('d', item);
        }
        for (String item : WINDOW_ITEMS) {
            bounds('w', item);
        }
        fault("a number below 0", 0, "dw-1", 2);
        fault("the first of two faults", 0, "vh24;x", 3);
        fault("a 0 ahead of 1 is no third digit", 0, "db01", NONE);
        fault("a 0 ahead of 9 is no third digit", 0, "dw09", NONE);
        fault("out of bounds at its last digit, blanks behind", 0, "vh24 ;d", 3);
        fault("a first digit that no number within bounds goes on from", 0, "db20", 3);
    }

    private static void lettersOfVillages() {
        fault("a letter again in another house", 0, "dw1;dw2", NONE);
        fault("a letter again in another window", 0, "d;d;wa0;wa0", NONE);
        fault("a letter that was there, others between", 0, "dw1e2p3w4", 7);
        fault("a letter of v in d", 0, "dh1", 1);
        fault("a letter of d in v", 0, "vw1;d", 1);
        fault("a letter of d in w", 0, "d;d;wk1", 5);
        fault("a letter of w in d", 0, "do1", 1);
        fault("a capital letter", 0, "dW1", 1);
        fault("a clause letter as an item", 0, "dd", 1);
        fault("all letters of d", 0, "db1t2k3p4e5w6", NONE);
        fault("all letters of v", 0, "vm1h2a0;d", NONE);
        fault("all letters of w", 0, "d;d;wo1b0a1", NONE);
        fault("an item is a letter and a number", 0, "d5", 1);
        fault("a number alone behind an item", 0, "dw5 5", 4);
    }

    private static void clausesOfVillages() {
        fault("a village of one house", 0, "d", NONE);
        fault("an empty tape ends too early", 0, "", 0);
        fault("no such clause", 0, "x", 0);
        fault("no clause ahead of ;", 0, ";d", 0);
        fault("no clause between ; and ;", 0, "d;;d", 2);
        fault("no clause behind ;", 0, "d;", 2);
        fault("two clauses without ;", 0, "dd", 1);
        fault("another sign between clauses", 0, "d:d", 1);
        fault("v once behind all", 0, "d;d;w;v", NONE);
        fault("a second v", 0, "v;d;v", 4);
        fault("a second v at once", 0, "v;v", 2);
        fault("twelve d", 0, TWELVE, NONE);
        fault("a 13th d", 0, TWELVE + ";d", 24);
        fault("a 13th d behind a blank", 0, TWELVE + "; d", 25);
        fault("a 13th d, windows between", 0, "w;" + TWELVE + ";v;d", 28);
        fault("no w", 0, "v;d;d", NONE);
        fault("sixteen w", 0, "d;d" + many(";w", 16), NONE);
        fault("a 17th w", 0, "d;d" + many(";w", 17), 36);
        fault("a 17th w ahead of all d", 0, many("w;", 17) + "d;d", 32);
        fault("without a house, v alone", 0, "v", 1);
        fault("without a house, w alone", 0, "w", 1);
        fault("without a house, both", 0, "v;w", 3);
        fault("any order", 0, "w;d;v;d", NONE);
        fault("a village of 240 bytes", 0, "d" + many(" ", 239), NONE);
        fault("240 bytes that end too early", 0, "d" + many(" ", 238) + ";", 240);
        fault("240 bytes, the last wrong", 0, "d" + many(" ", 238) + "x", 239);
        fault("as many clauses as may be", 0, "v;" + TWELVE + many(";w", 16), NONE);
    }

    private static void housesNotTold() {
        fault("a house of v that is the last", 0, "va1;d;d", NONE);
        fault("a house of v that is not told", 0, "va2;d;d", 7);
        fault("a house of v that is not told, v last", 0, "d;d;va2", 7);
        fault("a house of v that is not told, of one", 0, "d;va1", 5);
        fault("a window's a that is the last", 0, "d;d;d;wa2", NONE);
        fault("a window's a that is not told", 0, "d;d;wa2", 7);
        fault("a window's b that is the last", 0, "d;d;d;wb2", NONE);
        fault("a window's b that is not told", 0, "d;d;wb2", 7);
        fault("a window's b that is not told, as it is at first", 0, "d;w", 3);
        fault("a window told ahead of its houses", 0, "wa2b1;d;d;d", NONE);
        fault("a window from a house to itself", 0, "d;d;d;wa2b2", 11);
        fault("a window from 1 to the b that is at first", 0, "d;d;wa1", 7);
        fault("a window from the a that is at first to 0", 0, "d;d;wb0", 7);
        fault("a window wrong among others", 0, "d;d;w;wa0b0;w", 13);
        fault("the last window wrong", 0, "d;d" + many(";w", 15) + ";wb2", 37);
        fault("a house not told, blanks behind", 0, "d;va1  ", 7);
        fault("a wrong byte comes ahead of a house not told", 0, "va3;d;x", 6);
    }

    private static void blanksOfVillages() {
        fault("blanks between all signs", 0, "  v a 0 h 1 ; d w 5 ; d ; w o 1  ", NONE);
        fault("a blank within a number", 0, "dw0 5", 4);
        fault("a blank within a number of v", 0, "vh1 2;d", 4);
        fault("nothing but blanks", 0, "   ", 3);
        fault("a blank behind ; at the end", 0, "d; ", 3);
        fault("a blank behind a letter at the end", 0, "dw ", 3);
        fault("another blank sign (9)", 0, "d\t", 1);
        fault("another blank sign (10)", 0, "d\n;d", 1);
        fault("another blank sign (160)", 0, "d" + (char) 160, 1);
        fault("a wrong byte behind blanks", 0, "d   x", 4);
    }

    private static void numbersOfLaws() {
        fault("one digit", 1, "y:0", NONE);
        fault("four digits", 1, "y:9999", NONE);
        fault("a fifth digit itself", 1, "y:10000", 6);
        fault("a fifth digit itself, whatever stands ahead of it", 1, "y:00001", 6);
        fault("a fifth digit in a condition", 1, "y:w=00001?1", 8);
        fault("a fifth digit behind a sign", 1, "y:1+12345", 8);
        fault("a blank within a number", 1, "y:1 2", 4);
        fault("a blank ahead of a fifth digit", 1, "y:1234 5", 7);
        fault("a number below 0", 1, "y:-1", 2);
        fault("a number behind a letter", 1, "y:w1", 3);
        fault("a letter behind a number", 1, "y:1w", 3);
    }

    private static void lettersOfLaws() {
        for (char c : "wepktbuh".toCharArray()) {
            fault("a letter of laws", 1, "y:" + c, NONE);
        }
        for (char c : "adimovxyWH:?;".toCharArray()) {
            fault("no letter of laws", 1, "y:" + c, 2);
        }
        fault("a letter as often as one likes", 1, "y:w+w*w", NONE);
        fault("a byte above 127 is no letter", 1, "y:" + (char) (128 + 'w'), 2);
    }

    private static void clausesOfLaws() {
        fault("one clause at least", 1, "", 0);
        fault("nothing but blanks", 1, "  ", 2);
        fault("ends behind y", 1, "y", 1);
        fault("ends behind :", 1, "y:", 2);
        fault("ends behind + ", 1, "y:1+", 4);
        fault("ends behind *", 1, "y:1*", 4);
        fault("ends behind a clause's ;", 1, "y:1;", 4);
        fault("no clause ahead of ;", 1, ";y:1", 0);
        fault("no clause between ; and ;", 1, "y:1;;y:1", 4);
        fault("without :", 1, "y1", 1);
        fault("sixty clauses", 1, "y:1" + many(";y:1", 59), NONE);
        fault("240 bytes, the last too early", 1, "y:1" + many(";y:1", 59) + ";", 240);
        fault("two signs", 1, "y:1++1", 4);
        fault("[ not closed", 1, "y:[1", 4);
        fault("] not opened", 1, "y:1]", 3);
        fault("[ ] empty", 1, "y:[]", 3);
        fault("[ closed by )", 1, "y:[1)", 4);
        fault("blanks between all signs", 1, " y : w = 1 ? [ 2 + w ] * 3 ; y : 1 ", NONE);
        fault("signs of one byte each, 240 of them", 1, "y:w" + many("+w", 118) + " ", NONE);
    }

    private static void conditionsOfLaws() {
        fault("a condition without ?", 1, "y:w=1", 5);
        fault("a condition without a sum", 1, "y:w=1?", 6);
        fault("a condition and a sum", 1, "y:w=1?2", NONE);
        fault("a sum and ?", 1, "y:w?2", 3);
        fault("? again", 1, "y:w=1?2?3", 7);
        fault("two compared signs", 1, "y:w=1=2?3", 5);
        fault("two signs in one", 1, "y:w<=1?3", 4);
        fault("a condition behind ?", 1, "y:w=1?w=2", 7);
        fault("goes on with ( behind its : without ?", 1, "y:(w=1)", 7);
        fault("goes on with ( behind its : a sum in it", 1, "y:(w)", 4);
        fault("goes on with ! behind its : without ?", 1, "y:!w=1", 6);
        fault("goes on with ! behind its : a sum alone", 1, "y:!w", 4);
        fault("( ) is no atom", 1, "y:1+(w)", 4);
        fault("! is no atom", 1, "y:1+!w", 4);
        fault("[ behind : begins a sum", 1, "y:[w]", NONE);
        fault("[ behind : begins a condition, too", 1, "y:[w]=1?2", NONE);
        fault("[ holds no condition", 1, "y:[w=1]", 4);
        fault("( ) compared", 1, "y:(w=1)=1?2", 7);
        fault("( not closed", 1, "y:(w=1?2", 6);
        fault("& without a unit ahead", 1, "y:w&k=1?2", 3);
        fault("& without a unit behind", 1, "y:w=1&k?2", 7);
        fault("& at the end", 1, "y:w=1&", 6);
        fault("| without a unit ahead", 1, "y:w|k=1?2", 3);
        fault("| and &", 1, "y:w=1|k=1&e<2|p>3?2", NONE);
        fault("a ( behind ?", 1, "y:w=1?(2)", 6);
        fault("a clause of its own for each ?", 1, "y:w=1?2;y:w=2?3;y:4", NONE);
    }

    private static void depthOfLaws() {
        fault("six [", 1, "y:" + many("[", 6) + "1" + many("]", 6), NONE);
        fault("a seventh [", 1, "y:" + many("[", 7) + "1" + many("]", 7), 8);
        fault("six (", 1, "y:" + many("(", 6) + "w=1" + many(")", 6) + "?1", NONE);
        fault("a seventh (", 1, "y:" + many("(", 7) + "w=1" + many(")", 7) + "?1", 8);
        fault("six !", 1, "y:" + many("!", 6) + "w=1?1", NONE);
        fault("a seventh !", 1, "y:" + many("!", 7) + "w=1?1", 8);
        fault("a seventh [ within ( and !", 1, "y:(!(!(!w=[1])))?1", 10);
        fault("a sixth [ within ( and !", 1, "y:(!(!(w=[1])))?1", NONE);
        fault("a seventh ( within !", 1, "y:!!!!!!(w=1)?1", 8);
        fault("a seventh ! within (", 1, "y:((((((!w=1))))))?1", 8);
        fault("right of the sign, within ! too", 1, "y:!!!!!!w=[1]?1", 10);
        fault("six [ right of the sign", 1, "y:w=[[[[[[1]]]]]]?1", NONE);
        fault("a seventh [ right of the sign", 1, "y:w=[[[[[[[1", 10);
        fault("six [ left of the sign", 1, "y:[[[[[[1]]]]]]=w?1", NONE);
        fault("a seventh [ left of the sign", 1, "y:[[[[[[[1", 8);
        fault("six ( behind &", 1, "y:w=1&((((((w=1))))))?1", NONE);
        fault("a seventh ( behind &", 1, "y:w=1&(((((((w=1", 12);
        fault("six ( behind |", 1, "y:w=1|((((((w=1))))))?1", NONE);
        fault("a seventh ( behind |", 1, "y:w=1|(((((((w=1", 12);
        fault("six [ behind ?", 1, "y:w=1?[[[[[[1]]]]]]", NONE);
        fault("a seventh [ behind ?", 1, "y:w=1?[[[[[[[1", 12);
        fault("six side by side with six", 1, "y:[[[[[[1]]]]]]+[[[[[[1]]]]]]", NONE);
        fault("a seventh behind six that ended", 1, "y:[[[[[[1]]]]]]+[[[[[[[1]]]]]]]", 22);
        fault("! ends with its unit", 1, "y:!!!!!!w=1&[[[[[[1]]]]]]=1?1", NONE);
        fault("six in each sum of a clause", 1, "y:!!!!!!w=1?[[[[[[1]]]]]]", NONE);
        fault("six in each clause", 1, "y:[[[[[[1]]]]]];y:[[[[[[1]]]]]]", NONE);
        fault("a seventh [ behind blanks", 1, "y: [ [ [ [ [ [ [", 15);
    }

    private static void textOfVillages() {
        edge(5, "how many houses: one", 1, () -> fed("d").text(0));
        edge(5, "how many houses: twelve", 12, () -> fed(TWELVE).text(0));
        edge(5, "the tape is empty then", () -> {
            OneJoy joy = fed("d;d");
            joy.text(0);
            due(0, joy.count(3));
        });
        edge(5, "NONE: a fault; the tape stays", () -> {
            OneJoy joy = fed("d;x");
            due(NONE, joy.text(0));
            due(3, joy.count(3));
            due(2, joy.fault(0));
        });
        edge(5, "NONE: an empty tape", NONE, () -> new OneJoy().text(0));
        edge(5, "NONE: a law as a village", NONE, () -> fed("y:1").text(0));
        edge(5, "NONE: sort 2; the tape stays", () -> {
            OneJoy joy = fed("d");
            due(NONE, joy.text(2));
            due(1, joy.count(3));
        });
        edge(5, "NONE: sort -1; the tape stays", () -> {
            OneJoy joy = fed("d");
            due(NONE, joy.text(-1));
            due(1, joy.count(3));
        });
        edge(5, "NONE: a house not told; no village comes", () -> {
            OneJoy joy = fed("va1;d");
            due(NONE, joy.text(0));
            due(0, joy.count(0));
            due(NONE, joy.count(6));
        });
        edge(5, "refused: the village ahead stays", () -> {
            OneJoy joy = village("va1h7;d;d;w");
            joy.go(2);
            feed(joy, "d;d;d;w;");
            due(NONE, joy.text(0));
            due(2, joy.count(0));
            due(1, joy.count(1));
            due(9, joy.count(5));
            due(2, joy.count(14));
        });
        edge(5, "a village is taken with four laws, too", () -> {
            OneJoy joy = new OneJoy();
            for (int i = 0; i < 4; i++) {
                feed(joy, "y:1");
                joy.text(1);
            }
            feed(joy, "d");
            due(1, joy.text(0));
        });
    }

    private static void textOfLaws() {
        edge(5, "a law's number: 0 to 3", () -> {
            OneJoy joy = new OneJoy();
            for (int i = 0; i < 4; i++) {
                feed(joy, "y:" + i);
                due(i, joy.text(1));
                due(0, joy.count(3));
            }
        });
        edge(5, "NONE: there are four laws; the tape stays", () -> {
            OneJoy joy = new OneJoy();
            for (int i = 0; i < 4; i++) {
                feed(joy, "y:" + i);
                joy.text(1);
            }
            feed(joy, "y:7");
            due(NONE, joy.text(1));
            due(3, joy.count(3));
            due(4, joy.count(2));
        });
        edge(5, "NONE: a fault of a law; the tape stays", () -> {
            OneJoy joy = fed("y:");
            due(NONE, joy.text(1));
            due(2, joy.count(3));
            due(0, joy.count(2));
        });
        edge(5, "NONE: a village as a law", NONE, () -> fed("d").text(1));
        edge(5, "a new law does not hold of itself", () -> {
            OneJoy joy = village("dw7");
            feed(joy, "y:3");
            due(0, joy.text(1));
            due(NONE, joy.count(4));
            due(7, joy.wish(0));
        });
        edge(5, "a law leaves the village", () -> {
            OneJoy joy = village("va1h7;d;d;w");
            joy.go(2);
            feed(joy, "y:3");
            joy.text(1);
            due(2, joy.count(0));
            due(2, joy.count(14));
            due(2, joy.count(13));
        });
        edge(5, "each law stays as it was told", () -> {
            OneJoy joy = village("d");
            for (int i = 0; i < 4; i++) {
                feed(joy, "y:" + (10 + i));
                joy.text(1);
            }
            for (int i = 0; i < 4; i++) {
                joy.law(i);
                due(10 + i, joy.wish(0));
            }
        });
    }

    /** A village in which something of each kind was done, then another one. */
    private static OneJoy another() {
        OneJoy joy = villageBy("y:w", "vh6m1;dk3;d;d;d;d;w");
        joy.mist(7);
        joy.go(3);
        joy.fog(true);
        joy.shut(0, true);
        joy.turn(0, true);
        joy.prescribe(0);
        joy.lie();
        joy.see(1, 0);
        joy.image();
        feed(joy, "d;d;w");
        joy.text(0);
        return joy;
    }

    private static void newVillage() {
        int[] counts = {2, 1, 1, 0, 0, 0, 0, NONE, 0, 0, 0, 7, 0, 0, 0};
        String[] what = {"its houses", "its windows", "laws stay", "the tape", "which holds stays", "the hour", "where it is",
            "no before", "no music", "no fog", "no laughs", "mist stays", "nothing seen", "no log", "no acts"};
        for (int i = 0; i < counts.length; i++) {
            int n = i;
            edge(5, "another village: " + what[i], counts[i], () -> another().count(n));
        }
        edge(5, "another village: all windows open", 0, () -> another().window(0, 3));
        edge(5, "another village: its backs", 0, () -> another().house(0, 5));
        edge(5, "another village: its wants", 5, () -> another().house(0, 0));
        edge(5, "another village: its kids", 0, () -> another().house(0, 3));
        edge(5, "another village: no image", NONE, () -> another().back());
        edge(5, "another village: nothing to be undone", NONE, () -> another().undo());
        edge(5, "another village: no house of the one ahead", NO_SUCH, () -> house(another(), 2, 0));
        edge(5, "another village: no log of the one ahead", NONE, () -> another().log(0));
        edge(5, "another village: none of the backs and one ways told ahead", () -> {
            OneJoy joy = village("db1;db1;wo1");
            feed(joy, "d;d;w");
            joy.text(0);
            due(0, joy.house(0, 5));
            due(0, joy.house(1, 5));
            due(0, joy.window(0, 2));
        });
        edge(5, "none of the backs and one ways of a text that was refused", () -> {
            OneJoy joy = fed("vm1h5a1;db1;db1;wo1;x");
            joy.text(0);
            joy.end(0);
            feed(joy, "d;d;w");
            joy.text(0);
            due(0, joy.house(0, 5));
            due(0, joy.house(1, 5));
            due(0, joy.window(0, 2));
            due(0, joy.count(5));
            due(0, joy.count(6));
            due(0, joy.count(8));
        });
        edge(5, "nothing of a law that was refused", () -> {
            OneJoy joy = village("dw7");
            feed(joy, "y:w=7?w;y:w=7?");
            joy.text(1);
            joy.end(0);
            holdLaw(joy, "y:w=1?2;y:3");
            due(3, joy.wish(0));
        });
        edge(5, "of v, d and w each as told", () -> {
            OneJoy joy = village("va1h23m1;dw9e8p7k6t5b1;dw0;wa1b0o1");
            due(1, joy.count(6));
            due(23, joy.count(5));
            due(1, joy.count(8));
            due(9, joy.house(0, 0));
            due(1, joy.window(0, 2));
        });
        edge(5, "v as it is without items", () -> {
            OneJoy joy = village("v;d;d");
            due(0, joy.count(6));
            due(0, joy.count(5));
            due(0, joy.count(8));
        });
    }

    private static void house() {
        int[] told = {1, 2, 3, 4, 6, 1, 0};
        int[] first = {5, 1, 1, 0, 0, 0, 0};
        for (int i = 0; i < 7; i++) {
            int what = i;
            edge(6, "told: what " + i, told[i], () -> house(village("d;dw1e2p3k4t6b1"), 1, what));
            edge(6, "not told: what " + i, first[i], () -> house(village("dw1e2p3k4t6b1;d"), 1, what));
        }
        edge(6, "the last of twelve houses", 8, () -> house(village("d;d;d;d;d;d;d;d;d;d;d;dw8"), 11, 0));
        edge(6, "NoSuchElementException: house -1", NO_SUCH, () -> house(village("d;d"), -1, 0));
        edge(6, "NoSuchElementException: one house above", NO_SUCH, () -> house(village("d;d"), 2, 0));
        edge(6, "NoSuchElementException: a 13th house", NO_SUCH, () -> house(village(TWELVE), 12, 0));
        edge(6, "NoSuchElementException: what -1", NO_SUCH, () -> house(village("d;d"), 0, -1));
        edge(6, "NoSuchElementException: what 7", NO_SUCH, () -> house(village("d;d"), 0, 7));
        edge(6, "NoSuchElementException: both", NO_SUCH, () -> house(village("d;d"), 2, 7));
        edge(6, "NoSuchElementException: no village", NO_SUCH, () -> house(new OneJoy(), 0, 0));
        edge(6, "NoSuchElementException: the greatest", NO_SUCH, () -> house(village("d"), Integer.MAX_VALUE, 0));
        edge(6, "NoSuchElementException: the least what", NO_SUCH, () -> house(village("d"), 0, Integer.MIN_VALUE));
    }

    private static void window() {
        String text = "d;d;d;w;wa2b1o1";
        int[] first = {0, 1, 0, 0};
        int[] told = {2, 1, 1, 0};
        for (int i = 0; i < 4; i++) {
            int what = i;
            edge(7, "not told: what " + i, first[i], () -> village(text).window(0, what));
            edge(7, "told: what " + i, told[i], () -> village(text).window(1, what));
        }
        edge(7, "whether it is shut", () -> {
            OneJoy joy = village(text);
            joy.shut(1, true);
            due(0, joy.window(0, 3));
            due(1, joy.window(1, 3));
        });
        edge(7, "the last of sixteen", 1, () -> village("d;d" + many(";w", 15) + ";wo1").window(15, 2));
        edge(7, "NONE: window -1", NONE, () -> village(text).window(-1, 0));
        edge(7, "NONE: one window above", NONE, () -> village(text).window(2, 0));
        edge(7, "NONE: a 17th window", NONE, () -> village("d;d" + many(";w", 16)).window(16, 1));
        edge(7, "NONE: what -1", NONE, () -> village(text).window(1, -1));
        edge(7, "NONE: what 4", NONE, () -> village(text).window(1, 4));
        edge(7, "NONE: no windows", NONE, () -> village("d;d").window(0, 1));
        edge(7, "NONE: no village", NONE, () -> new OneJoy().window(0, 0));
        edge(7, "NONE: far out of bounds", NONE, () -> village(text).window(Integer.MIN_VALUE, Integer.MAX_VALUE));
    }

    private static void law() {
        edge(8, "NONE: none, also without laws", 1, () -> bit(new OneJoy().law(NONE)));
        edge(8, "False: law 0 of none", 0, () -> bit(new OneJoy().law(0)));
        edge(8, "False: below NONE", () -> {
            OneJoy joy = villageBy("y:3", "d");
            no(joy.law(-2));
            due(0, joy.count(4));
        });
        edge(8, "False: one above", () -> {
            OneJoy joy = villageBy("y:3", "d");
            no(joy.law(1));
            due(0, joy.count(4));
            due(3, joy.wish(0));
        });
        edge(8, "the last of four", () -> {
            OneJoy joy = new OneJoy();
            for (int i = 0; i < 4; i++) {
                feed(joy, "y:" + i);
                joy.text(1);
            }
            yes(joy.law(3));
            due(3, joy.count(4));
            no(joy.law(4));
        });
        edge(8, "the law that holds already", 1, () -> bit(villageBy("y:3", "d").law(0)));
        edge(8, "none again", () -> {
            OneJoy joy = villageBy("y:3", "dw7");
            yes(joy.law(NONE));
            due(NONE, joy.count(4));
            due(7, joy.wish(0));
        });
        edge(8, "no act", () -> {
            OneJoy joy = villageBy("y:3", "dw7");
            due(0, joy.count(14));
            due(NONE, joy.undo());
        });
        edge(8, "False: far out of bounds", 0, () -> bit(villageBy("y:3", "d").law(Integer.MAX_VALUE)));
    }

    private static void wish() {
        edge(9, "WANT, no law at first", 9, () -> village("d;dw9").wish(1));
        edge(9, "0 with its back to it", 0, () -> village("dw9b1").wish(0));
        edge(9, "less TUNE, if there is music", 2, () -> village("vm1;dw9t7").wish(0));
        edge(9, "TUNE without music", 9, () -> village("dw9t7").wish(0));
        edge(9, "below 0", -9, () -> village("vm1;dw0t9").wish(0));
        edge(9, "0 with its back, less TUNE", -7, () -> village("vm1;dw9t7b1").wish(0));
        edge(9, "HIDDEN: house -1", HIDDEN, () -> village("d;d").wish(-1));
        edge(9, "HIDDEN: one above", HIDDEN, () -> village("d;d").wish(2));
        edge(9, "HIDDEN: a 13th house", HIDDEN, () -> village(TWELVE).wish(12));
        edge(9, "HIDDEN: no village", HIDDEN, () -> new OneJoy().wish(0));
        edge(9, "the last of twelve", 3, () -> village("d;d;d;d;d;d;d;d;d;d;d;dw3").wish(11));
        edge(9, "as it is now, behind a prescription", () -> {
            OneJoy joy = village("dw3");
            joy.prescribe(0);
            due(4, joy.wish(0));
        });
        edge(9, "without fog as with it", () -> {
            OneJoy joy = village("dw3");
            joy.fog(true);
            due(3, joy.wish(0));
        });
    }

    private static void worth(String sentence, String law, int want) {
        edge(9, sentence + ": '" + law + "'", want, () -> villageBy(law, "vh5m1;dw1e2p3k4t6b1;d").wish(0));
    }

    private static void lawNumbers() {
        worth("at 1,000,000", "y:1000*1000", 1000000);
        worth("within 1,000,000 behind +", "y:1000*1000+1", 1000000);
        worth("within 1,000,000 behind *", "y:1001*1000", 1000000);
        worth("one below", "y:1000*1000-1", 999999);
        worth("behind each sign, not at the end", "y:1000*1000+9-9", 999991);
        worth("behind each * of a term", "y:9999*9999/10", 100000);
        worth("beyond 32 bits", "y:9999*9999*9999", 1000000);
        worth("beyond 32 bits, twice", "y:[9999*9999]*[9999*9999]", 1000000);
        worth("at -1,000,000", "y:[0-1000]*1000", -1000000);
        worth("within -1,000,000 behind -", "y:[0-1000]*1000-1", -1000000);
        worth("within -1,000,000 behind *", "y:[0-1001]*1000", -1000000);
        worth("one above", "y:[0-1000]*1000+1", -999999);
        worth("below, beyond 32 bits", "y:[0-9999]*9999*9999", -1000000);
        worth("below times below", "y:[0-9999]*[0-9999]", 1000000);
        worth("/ cuts", "y:7/2", 3);
        worth("/ cuts towards 0, below by above", "y:[0-7]/2", -3);
        worth("/ cuts towards 0, above by below", "y:7/[0-2]", -3);
        worth("/ cuts towards 0, both below", "y:[0-7]/[0-2]", 3);
        worth("/ by more", "y:[0-1]/2", 0);
        worth("by 0 gives 0", "y:7/0", 0);
        worth("0 by 0 gives 0", "y:0/[3-3]", 0);
        worth("by 0 gives 0, then goes on", "y:7/0+5", 5);
        worth("/ and * from the left", "y:7/2*2", 6);
        worth("- from the left", "y:9-5-2", 2);
        worth("- and + from the left", "y:9-5+2", 6);
        worth("* ahead of -", "y:9-2*3", 3);
        worth("[ ] first", "y:[9-2]*3", 21);
        worth("four digits", "y:9999", 9999);
        worth("0s ahead", "y:0012", 12);
    }

    private static void lawConditions() {
        worth("0 without a clause whose condition holds", "y:w=2?7", 0);
        worth("0 without any of several", "y:w=2?7;y:w=3?8", 0);
        worth("the first whose condition holds", "y:w=1?7;y:w=1?8", 7);
        worth("not one that does not hold", "y:w=2?7;y:w=1?8", 8);
        worth("the first that has none", "y:7;y:w=1?8", 7);
        worth("none that holds, then one that has none", "y:w=2?7;y:8;y:9", 8);
        worth("< not at it", "y:w<1?7", 0);
        worth("< above it", "y:w<2?7", 7);
        worth("> not at it", "y:w>1?7", 0);
        worth("> below it", "y:w>0?7", 7);
        worth("= at it", "y:w=1?7", 7);
        worth("= one above", "y:w=2?7", 0);
        worth("& stronger than |", "y:w=1|w=2&w=3?7", 7);
        worth("& needs the left", "y:w=2&w=1?7", 0);
        worth("& needs the right", "y:w=1&w=2?7", 0);
        worth("| by the left", "y:w=1|w=2?7", 7);
        worth("| by the right", "y:w=2|w=1?7", 7);
        worth("& of < and =", "y:w<e&k=4?7", 7);
        worth("& of = and >", "y:w=1&k>3?7", 7);
        worth("& of < and >", "y:w<2&k>3?7", 7);
        worth("! of <", "y:!w<e?7", 0);
        worth("! of >", "y:!w>e?7", 7);
        worth("| by none", "y:w=2|w=3?7", 0);
        worth("( ) ahead of &", "y:(w=1|w=2)&w=3?7", 0);
        worth("! of one unit", "y:!w=2&w=1?7", 7);
        worth("! of ( )", "y:!(w=2|w=1)?7", 0);
        worth("! of !", "y:!!w=1?7", 7);
        worth("six !", "y:!!!!!!w=1?7", 7);
        worth("five !", "y:!!!!!w=1?7", 0);
        worth("sums on both sides", "y:w+e=k-w?7", 7);
        worth("sums within bounds are compared", "y:9999*9999=1000*1000?7", 7);
        worth("six [", "y:[[[[[[w+1]+1]+1]+1]+1]+1]", 7);
        worth("six (", "y:((((((w=2)|w=3)|w=4)|w=5)|w=6)|w=1)?7", 7);
        worth("each step of a deep one waits for its right side",
            "y:1+1*[1+1*[1+1*[1+1*[1+1*[1+1*[1+w]]]]]]", 8);
        worth("conditions deep on their right side",
            "y:w=2|w=1&(w=2|w=1&(w=2|w=1&(w=2|w=1&(w=2|w=1&(w=2|w=1&w+e*[k-w]=1+2*3)))))?7", 7);
        worth("60 clauses, the last holds", "y:w=2?1" + many(";y:w=2?1", 28) + ";y:7", 7);
    }

    private static void lawLetters() {
        String letters = "wepktbuh";
        int[] worths = {1, 2, 3, 4, 6, 1, 1, 5};
        for (int i = 0; i < worths.length; i++) {
            worth("a letter", "y:" + letters.charAt(i), worths[i]);
        }
        edge(9, "b 0 without its back", 0, () -> villageBy("y:b", "dw3").wish(0));
        edge(9, "u 0 without music", 0, () -> villageBy("y:u", "dw3").wish(0));
        edge(9, "w is WANT with its back to it, too", 3, () -> villageBy("y:w", "dw3b1").wish(0));
        edge(9, "a law has no TUNE of itself", 3, () -> villageBy("y:w", "vm1;dw3t2").wish(0));
        edge(9, "h 23", 23, () -> villageBy("y:h", "vh23;d").wish(0));
        edge(9, "h modulo 24: 0 behind 23", () -> {
            OneJoy joy = villageBy("y:h", "vh23;d");
            joy.go(1);
            due(0, joy.wish(0));
            due(24, joy.count(5));
        });
        edge(9, "h modulo 24 at the last hour", () -> {
            OneJoy joy = atHour(9999, "d");
            holdLaw(joy, "y:h");
            due(15, joy.wish(0));
        });
        edge(9, "a worth that is HIDDEN's number is a wish", -1000000, () -> villageBy("y:[0-1000]*1000", "d").wish(0));
    }
}
