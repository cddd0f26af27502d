/** Terms and promises 5 to 41 with nothing told, with as much as can be told, and with little told behind much. */
final class EmptyAndFullTest {
    private static final Check CHECK = new Check("EmptyAndFullTest");
    private static final int CROWN = 1024;
    private static final int NO_GAIN = -1000000;
    private static final int WEALTH_OF_J = 624937 + 3 * 62 + 3 * 12 + 25;

    /** All that a TEXT may hold: 2 LANDS with all they can have, 10 PERSONS (a and b are the PARENTS of c to j, a that of
     *  b, too), 6 weddings, 8 THINGS of a, 12 PAPERS of a, the last one with 4 WITNESSES, 6 GIVES, rest and 3 struck
     *  ones, all LOST with 3 COPIES, and ten deaths, a on DAY 20 to j on DAY 29. */
    private static final String FULL = "land 0 2 own wed copies half;land 1 4 half copies wed own;" + Texts.persons(10)
            + "child b a;" + Texts.each("child ? a;child ? b;", 2, 8)
            + "wed a b 1;wed c d 2;wed e f 3;wed g h 4;wed i j 5;wed a j 6;"
            + Texts.things(7) + "thing h a 0 9999;"
            + Texts.each("paper ? a 10 0 adds own;", 0, 11)
            + "paper l a 10 0 adds own witness b witness c witness d witness e"
            + " give a f or g give b j if i or h give c j unless i or h give d e give e a or b give f c"
            + " rest j strike a strike b strike c;"
            + Texts.each("lost ? 3;", 0, 12)
            + "dies a 20;dies b 21;dies c 22;dies d 23;dies e 24;dies f 25;dies g 26;dies h 27;dies i 28;dies j 29;";

    public static void main(String[] args) {
        nothingIn(new WillDeposit());
        nothingIn(CHECK.told("land 0 2;land 1 2;"));
        WillDeposit emptied = CHECK.told(FULL);
        emptied.lose(0, 0);
        CHECK.due("the empty TEXT", 0, emptied.text(0));
        nothingIn(emptied);
        actsOnNothing();
        noThing();
        noPaper();
        noThingButPapers();
        nobodyDies();
        paperWithNothing();
        fullCounts();
        fullPersons();
        fullPapers();
        fullGives();
        fullLaw();
        fullWay();
        fullEnds();
        fullWoulds();
        actsOnTheFull();
        twelveThatCount();
        sixWeddingsAsked();
        tenDeathsOfOneDay();
        everyDayTold();
        littleBehindMuch();
        call512();
        CHECK.end();
    }

    // ---- the empty

    private static void nothingIn(WillDeposit d) {
        for (int p = -1; p <= 10; p += 1) {
            CHECK.due("person(" + p + ", 0)", Check.INDEX, Check.person(d, p, 0));
            CHECK.due("person(" + p + ", 5)", Check.INDEX, Check.person(d, p, 5));
            CHECK.due("paper(" + p + ", 0)", Check.INDEX, Check.paper(d, p, 0));
            CHECK.due("thing(" + p + ", 0)", -1, d.thing(p, 0));
            CHECK.due("heirs(" + p + ")", -1, d.heirs(p));
            CHECK.due("ever(" + p + ")", -1, d.ever(p));
            CHECK.due("margin(" + p + ")", -1, d.margin(p));
            CHECK.due("wealth(" + p + ")", p == -1 ? 0 : -2, d.wealth(p));
        }
        for (int l = 0; l <= 1; l++) {
            CHECK.due("land(" + l + ", 0)", 2, d.land(l, 0));
            CHECK.due("form(0, " + l + ")", -1, d.form(0, l));
            for (int what = 1; what <= 4; what++) {
                CHECK.due("land(" + l + ", " + what + ")", 0, d.land(l, what));
            }
        }
        CHECK.due("why", -1, d.why(0, 0));
        CHECK.due("struckBy", -1, d.struckBy(0, 0));
        CHECK.due("counting", -1, d.counting(0, 0, 0));
        CHECK.due("taker", -1, d.taker(0, 0));
        CHECK.due("takerBy", -1, d.takerBy(0, 0));
        CHECK.due("has of a PERSON", -1, d.has(0, 0, 0, 0));
        CHECK.due("has of the CROWN", -1, d.has(-1, 0, 0, 0));
        CHECK.due("holders", -1, d.holders(0, 0));
        CHECK.due("gain", NO_GAIN, d.gain(0, 0));
        CHECK.due("against", -1, d.against(0, 0));
        CHECK.due("key(0)", -2, d.key(0));
        CHECK.due("key(1)", -2, d.key(1));
        CHECK.due("wouldPaper", -1, d.wouldPaper(0, 0, 0));
        CHECK.due("wouldDie", -1, d.wouldDie(0, 0, 0));
        CHECK.due("dayFor", -1, d.dayFor(0, 1, 0));
        CHECK.due("death(0, 0)", -2, d.death(0, 0));
        CHECK.due("death(0, 1)", -2, d.death(0, 1));
        CHECK.due("death(0, 2)", -2, d.death(0, 2));
        CHECK.due("moves", -1, d.moves(0, 0));
        CHECK.due("kin", -1, d.kin(0, 0));
        CHECK.due("naming", -1, d.naming(0, 0));
        CHECK.due("sees", -1, d.sees(0, 0, 0));
        CHECK.due("give", -1, d.give(0, 0, 0));
        for (int what = 1; what <= 8; what++) {
            CHECK.due("count(" + what + ")", 0, d.count(what));
        }
    }

    private static void actsOnNothing() {
        WillDeposit d = new WillDeposit();
        CHECK.due("lose", false, d.lose(0, 0));
        CHECK.due("find", false, d.find(0));
        CHECK.due("copy", -1, d.copy(0));
        CHECK.due("witness", -1, d.witness(0, 0));
        CHECK.due("wed", -1, d.wed(0, 1, 0));
        CHECK.due("dies", false, d.dies(0, 0));
        CHECK.due("dies never", false, d.dies(0, -1));
        CHECK.due("takeBack", false, d.takeBack(0));
        CHECK.due("undo", -1, d.undo());
        CHECK.due("no ACT", 0, d.count(7));
    }

    private static void noThing() {
        WillDeposit d = CHECK.told("person a 0;person b 1;wed a b 3;dies a 5;");
        CHECK.due("wealth(0)", 0, d.wealth(0));
        CHECK.due("wealth(NONE)", 0, d.wealth(-1));
        CHECK.due("wealth(2)", -2, d.wealth(2));
        CHECK.due("ever(0)", 0, d.ever(0));
        CHECK.due("death(0, 2)", 0, d.death(0, 2));
        CHECK.due("heirs(0)", 0b10, d.heirs(0));
        CHECK.due("taker(0, 0)", -1, d.taker(0, 0));
        CHECK.due("has(0, 0, 0, 1)", -1, d.has(0, 0, 0, 1));
        CHECK.due("holders(0, 0)", -1, d.holders(0, 0));
        CHECK.due("wouldDie(0, 0, 0)", -1, d.wouldDie(0, 0, 0));
        CHECK.due("dayFor(0, 1, 0)", -1, d.dayFor(0, 1, 0));
        CHECK.due("moves(0, 0)", -1, d.moves(0, 0));
        CHECK.due("key(0)", -2, d.key(0));
    }

    private static void noPaper() {
        WillDeposit d = CHECK.told("person a 0;person b 1;thing t a 0 5;dies a 5;");
        CHECK.due("taker(0, 0)", -2, d.taker(0, 0));
        CHECK.due("takerBy(0, 0)", -2, d.takerBy(0, 0));
        CHECK.due("taker(1, 0)", -3, d.taker(1, 0));
        CHECK.due("takerBy(1, 0)", -3, d.takerBy(1, 0));
        CHECK.due("counting(0, 0, 0)", -2, d.counting(0, 0, 0));
        CHECK.due("heirs(0): the CROWN", 0, d.heirs(0));
        CHECK.due("holders(0, 5)", CROWN, d.holders(0, 5));
        CHECK.due("gain(0, 0)", NO_GAIN, d.gain(0, 0));
        CHECK.due("against(0, 0)", -2, d.against(0, 0));
        CHECK.due("against(0, 1)", -2, d.against(0, 1));
        CHECK.due("key(0)", -2, d.key(0));
        CHECK.due("key(1)", -2, d.key(1));
        CHECK.due("naming(0, 1)", 0, d.naming(0, 1));
        CHECK.due("why(0, 0)", -1, d.why(0, 0));
        CHECK.due("struckBy(0, 0)", -1, d.struckBy(0, 0));
        CHECK.due("form(0, 0)", -1, d.form(0, 0));
        CHECK.due("margin(0)", -1, d.margin(0));
        CHECK.due("sees(0, 0, 0)", -1, d.sees(0, 0, 0));
        CHECK.due("wouldPaper(0, 0, 0)", -1, d.wouldPaper(0, 0, 0));
        CHECK.due("give(0, 0, 0)", -1, d.give(0, 0, 0));
        CHECK.due("paper(0, 0)", Check.INDEX, Check.paper(d, 0, 0));
    }

    private static void noThingButPapers() {
        WillDeposit d = CHECK.told("land 0 0;person a 0;person b 1;paper p a 1 0 will rest b;paper q a 2 0 adds;dies a 5;");
        CHECK.due("key(0): the first", 0, d.key(0));
        CHECK.due("key(1)", 0, d.key(1));
        CHECK.due("gain(1, 0)", 0, d.gain(1, 0));
        CHECK.due("against(1, 0)", -2, d.against(1, 0));
        CHECK.due("why(0, 0)", -1, d.why(0, 0));
        CHECK.due("counting(0, 0, 0)", -1, d.counting(0, 0, 0));
        CHECK.due("naming(0, 1)", 1, d.naming(0, 1));
        CHECK.due("form(0, 0)", 1, d.form(0, 0));
        CHECK.due("sees(1, 0, 5)", 1, d.sees(1, 0, 5));
        CHECK.due("wouldPaper(0, 0, 0)", -1, d.wouldPaper(0, 0, 0));
    }

    private static void nobodyDies() {
        WillDeposit d = CHECK.told("land 0 0;person a 0;person b 1;thing t a 0 5;paper p a 1 0 will rest b;");
        CHECK.due("death(0, 0)", -2, d.death(0, 0));
        CHECK.due("moves(0, 0)", 0, d.moves(0, 0));
        CHECK.due("moves(0, 1)", -2, d.moves(0, 1));
        CHECK.due("holders(0, 0)", 1, d.holders(0, 0));
        CHECK.due("holders(0, 9999)", 1, d.holders(0, 9999));
        CHECK.due("heirs(0)", -3, d.heirs(0));
        CHECK.due("why(0, 0)", 1, d.why(0, 0));
        CHECK.due("struckBy(0, 0)", -2, d.struckBy(0, 0));
        CHECK.due("counting(0, 0, 0)", -2, d.counting(0, 0, 0));
        CHECK.due("sees(0, 0, 9999)", 1, d.sees(0, 0, 9999));
        CHECK.due("sees(1, 0, 9999)", 0, d.sees(1, 0, 9999));
        CHECK.due("count(6)", 0, d.count(6));
        CHECK.due("key(1)", 0, d.key(1));
    }

    private static void paperWithNothing() {
        WillDeposit d = CHECK.told("land 0 0;person a 0;thing t a 0 5;paper p a 0 0 will;dies a 1;");
        CHECK.due("GIVES", 0, Check.paper(d, 0, 6));
        CHECK.due("give(0, 0, 0)", -2, d.give(0, 0, 0));
        CHECK.due("WITNESSES", 0, Check.paper(d, 0, 5));
        CHECK.due("rest", -2, Check.paper(d, 0, 7));
        CHECK.due("to whom he is WED", -2, Check.person(d, 0, 4));
        CHECK.due("CHILDREN", 0, Check.person(d, 0, 2));
        CHECK.due("PARENTS", 0, Check.person(d, 0, 3));
        CHECK.due("it COUNTS", 0, d.why(0, 0));
        CHECK.due("taker(0, 0)", -2, d.taker(0, 0));
        CHECK.due("takerBy(0, 0)", -2, d.takerBy(0, 0));
        CHECK.due("naming(0, 0)", 0, d.naming(0, 0));
        CHECK.due("holders(0, 1)", CROWN, d.holders(0, 1));
    }

    // ---- the full

    private static void fullCounts() {
        CHECK.due("the TEXT fits the TAPE", true, FULL.length() <= 1200);
        WillDeposit d = CHECK.told(FULL);
        int[] dues = {77, 10, 8, 12, 6, 12, 10, 0, 0};
        for (int what = 0; what < dues.length; what++) {
            CHECK.due("count(" + what + ")", dues[what], d.count(what));
        }
        for (int l = 0; l <= 1; l++) {
            CHECK.due("land(" + l + ", 0)", 2 + 2 * l, d.land(l, 0));
            for (int what = 1; what <= 4; what++) {
                CHECK.due("land(" + l + ", " + what + ")", 1, d.land(l, what));
            }
        }
        CHECK.due("thing(7, 2)", 9999, d.thing(7, 2));
        CHECK.due("thing(8, 2)", -1, d.thing(8, 2));
    }

    private static void fullPersons() {
        WillDeposit d = CHECK.told(FULL);
        CHECK.due("CHILDREN of a", 0b1111111110, Check.person(d, 0, 2));
        CHECK.due("CHILDREN of b", 0b1111111100, Check.person(d, 1, 2));
        CHECK.due("CHILDREN of j", 0, Check.person(d, 9, 2));
        CHECK.due("PARENTS of j", 0b11, Check.person(d, 9, 3));
        CHECK.due("PARENTS of b", 0b01, Check.person(d, 1, 3));
        CHECK.due("j dies", 29, Check.person(d, 9, 1));
        int[] spouses = {9, 0, 3, 2, 5, 4, 7, 6, 9, 0};
        for (int p = 0; p < 10; p++) {
            CHECK.due("person(" + p + ", 4)", spouses[p], Check.person(d, p, 4));
            CHECK.due("kin(0, " + p + ")", p == 0 ? 0 : 1, d.kin(0, p));
            CHECK.due("kin(" + p + ", 9)", p == 9 ? 0 : p < 2 ? 1 : 2, d.kin(p, 9));
            CHECK.due("naming(0, " + p + ")", p == 3 || p == 8 ? 0 : 1 << 11, d.naming(0, p));
            CHECK.due("naming(" + p + ", 9)", p == 0 ? 1 << 11 : 0, d.naming(p, 9));
        }
        CHECK.due("person(10, 0)", Check.INDEX, Check.person(d, 10, 0));
        CHECK.due("heirs(0)", 0b1111111110, d.heirs(0));
        CHECK.due("heirs(1)", 0b1111111100, d.heirs(1));
        CHECK.due("heirs(8)", 0b1000000000, d.heirs(8));
        CHECK.due("heirs(9)", 0, d.heirs(9));
        CHECK.due("heirs(10)", -1, d.heirs(10));
        CHECK.due("kin(0, 10)", -1, d.kin(0, 10));
    }

    private static void fullPapers() {
        WillDeposit d = CHECK.told(FULL);
        long[] dues = {0, 10, 0, 1, 1, 0b11110, 6, 9, 3, 0};
        for (int what = 0; what < dues.length; what++) {
            CHECK.due("paper(11, " + what + ")", dues[what], Check.paper(d, 11, what));
        }
        CHECK.due("paper(11, 10)", Check.ELEMENT, Check.paper(d, 11, 10));
        CHECK.due("paper(12, 0)", Check.INDEX, Check.paper(d, 12, 0));
        for (int p = 0; p < 12; p++) {
            CHECK.due("COPIES of " + p, 3, Check.paper(d, p, 8));
            CHECK.due("form(" + p + ", 0)", 1, d.form(p, 0));
            CHECK.due("margin(" + p + ")", -3, d.margin(p));
            CHECK.due("sees(9, " + p + ", 19)", 0, d.sees(9, p, 19));
            CHECK.due("sees(9, " + p + ", 20)", 1, d.sees(9, p, 20));
            CHECK.due("sees(9, " + p + ", 28)", 1, d.sees(9, p, 28));
            CHECK.due("sees(9, " + p + ", 29)", 0, d.sees(9, p, 29));
        }
    }

    private static void fullGives() {
        WillDeposit d = CHECK.told(FULL);
        int[][] dues = {{0, 5, 0, -2, 6}, {1, 9, 1, 8, 7}, {2, 9, 2, 8, 7}, {3, 4, 0, -2, -2}, {4, 0, 0, -2, 1}, {5, 2, 0, -2, -2}};
        for (int k = 0; k < 6; k++) {
            for (int what = 0; what < 5; what++) {
                CHECK.due("give(11, " + k + ", " + what + ")", dues[k][what], d.give(11, k, what));
            }
            CHECK.due("give(10, " + k + ", 0)", -2, d.give(10, k, 0));
            CHECK.due("give(11, " + k + ", 5)", -1, d.give(11, k, 5));
        }
        CHECK.due("give(11, 6, 0)", -2, d.give(11, 6, 0));
        CHECK.due("give(11, 7, 0)", -2, d.give(11, 7, 0));
        CHECK.due("give(12, 0, 0)", -1, d.give(12, 0, 0));
    }

    private static void fullLaw() {
        WillDeposit d = CHECK.told(FULL);
        for (int p = 0; p < 12; p++) {
            CHECK.due("why(" + p + ", 7)", p < 3 ? 5 : 0, d.why(p, 7));
            CHECK.due("struckBy(" + p + ", 7)", p < 3 ? 11 : -2, d.struckBy(p, 7));
            CHECK.due("counting(0, 7, " + p + ")", p < 9 ? 11 - p : -2, d.counting(0, 7, p));
            CHECK.due("counting(9, 7, " + p + ")", -2, d.counting(9, 7, p));
        }
        int[] takers = {5, 9, 9, 4, 1, 2, 9, 9};
        for (int t = 0; t < 8; t++) {
            CHECK.due("taker(0, " + t + ")", takers[t], d.taker(0, t));
            CHECK.due("takerBy(0, " + t + ")", 11, d.takerBy(0, t));
            CHECK.due("taker(9, " + t + ")", -2, d.taker(9, t));
        }
        CHECK.due("why(12, 0)", -1, d.why(12, 0));
        CHECK.due("why(0, 8)", -1, d.why(0, 8));
        CHECK.due("taker(0, 8)", -1, d.taker(0, 8));
        CHECK.due("taker(10, 0)", -1, d.taker(10, 0));
    }

    private static void hasDue(WillDeposit d, int person, int thing, int day, int above, int below) {
        String call = "has(" + person + ", " + thing + ", " + day + ", ";
        CHECK.due(call + "0)", above, d.has(person, thing, day, 0));
        CHECK.due(call + "1)", below, d.has(person, thing, day, 1));
    }

    private static void fullWay() {
        WillDeposit d = CHECK.told(FULL);
        hasDue(d, 0, 7, 19, 1, 1);
        hasDue(d, 0, 7, 20, 0, 1);
        // a half to j, the other one in nine
        hasDue(d, 9, 7, 20, 5, 9);
        hasDue(d, 1, 7, 20, 1, 18);
        // what b has goes to eight
        hasDue(d, 2, 7, 21, 1, 16);
        hasDue(d, 9, 7, 21, 9, 16);
        // what c has goes to d, who leaves it to the CROWN
        hasDue(d, 3, 7, 22, 1, 8);
        hasDue(d, -1, 7, 22, 0, 1);
        hasDue(d, -1, 7, 23, 1, 8);
        hasDue(d, 9, 7, 28, 5, 8);
        hasDue(d, -1, 7, 28, 3, 8);
        hasDue(d, 9, 7, 29, 0, 1);
        hasDue(d, -1, 7, 9999, 1, 1);
        hasDue(d, 5, 0, 20, 5, 9);
        CHECK.due("has(10, 7, 0, 0)", -1, d.has(10, 7, 0, 0));
        CHECK.due("has(0, 8, 0, 0)", -1, d.has(0, 8, 0, 0));
        int[][] dues = {{0, 1}, {19, 1}, {20, 0b1111111110}, {21, 0b1111111100}, {22, 0b1111111000},
            {23, CROWN | 0b1111110000}, {28, CROWN | 0b1000000000}, {29, CROWN}, {9999, CROWN}};
        for (int[] due : dues) {
            CHECK.due("holders(7, " + due[0] + ")", due[1], d.holders(7, due[0]));
        }
        CHECK.due("holders(8, 0)", -1, d.holders(8, 0));
    }

    private static void fullEnds() {
        WillDeposit d = CHECK.told(FULL);
        CHECK.due("wealth(NONE)", 100 * (7 + 9999), d.wealth(-1));
        for (int p = 0; p < 10; p++) {
            CHECK.due("wealth(" + p + ")", 0, d.wealth(p));
            CHECK.due("ever(" + p + ")", 0b11111111, d.ever(p));
            CHECK.due("death(" + p + ", 0)", p, d.death(p, 0));
            CHECK.due("death(" + p + ", 1)", 20 + p, d.death(p, 1));
            CHECK.due("death(" + p + ", 2)", 0b11111111, d.death(p, 2));
        }
        CHECK.due("wealth(10)", -2, d.wealth(10));
        CHECK.due("ever(10)", -1, d.ever(10));
        CHECK.due("death(10, 0)", -2, d.death(10, 0));
        for (int t = 0; t < 8; t++) {
            CHECK.due("moves(" + t + ", 0)", 10, d.moves(t, 0));
            CHECK.due("moves(" + t + ", 1)", 29, d.moves(t, 1));
        }
        CHECK.due("moves(8, 0)", -1, d.moves(8, 0));
        d.dies(9, -1);
        CHECK.due("j never dies: of h, b, c and g 5 in 8, of a, d and f 1 in 8, of e, which b takes first, 1 in 4",
                WEALTH_OF_J, d.wealth(9));
        CHECK.due("each cut for the CROWN, too", 374962 + 3 * 37 + 3 * 87 + 75, d.wealth(-1));
    }

    private static void fullWoulds() {
        WillDeposit d = CHECK.told(FULL);
        CHECK.due("key(0)", 0, d.key(0));
        CHECK.due("key(1)", 0, d.key(1));
        d.dies(9, -1);
        CHECK.due("gain(9, 11)", WEALTH_OF_J - withoutTheLast(), d.gain(9, 11));
        CHECK.due("gain(9, 10)", 0, d.gain(9, 10));
        CHECK.due("gain(9, 12)", NO_GAIN, d.gain(9, 12));
        CHECK.due("gain(10, 11)", NO_GAIN, d.gain(10, 11));
        CHECK.due("against(9, 0)", -2, d.against(9, 0));
        CHECK.due("against(10, 0)", -1, d.against(10, 0));
        for (int what = 0; what <= 2; what++) {
            CHECK.due("wouldPaper(11, " + what + ", 7)", CROWN | 0b1000000000, d.wouldPaper(11, what, 7));
        }
        CHECK.due("wouldPaper(11, 3, 7)", -1, d.wouldPaper(11, 3, 7));
        CHECK.due("wouldPaper(12, 0, 7)", -1, d.wouldPaper(12, 0, 7));
        CHECK.due("wouldPaper(11, 0, 8)", -1, d.wouldPaper(11, 0, 8));
        CHECK.due("wouldDie(9, 9999, 7)", CROWN, d.wouldDie(9, 9999, 7));
        CHECK.due("wouldDie(9, 20, 7): no rest, h takes of g", CROWN, d.wouldDie(9, 20, 7));
        CHECK.due("wouldDie(0, NONE, 7)", 1, d.wouldDie(0, -1, 7));
        CHECK.due("wouldDie(10, 0, 7)", -1, d.wouldDie(10, 0, 7));
        CHECK.due("wouldDie(9, 0, 8)", -1, d.wouldDie(9, 0, 8));
        CHECK.due("dayFor(0, 9, 7)", 0, d.dayFor(0, 9, 7));
        CHECK.due("dayFor(0, 8, 7): he dies", -2, d.dayFor(0, 8, 7));
        CHECK.due("dayFor(0, 10, 7)", -1, d.dayFor(0, 10, 7));
        CHECK.due("dayFor(10, 0, 7)", -1, d.dayFor(10, 0, 7));
        CHECK.due("dayFor(0, 9, 8)", -1, d.dayFor(0, 9, 8));
    }

    /** Without PAPER l a leaves each THING to nine; j has 1 in 9 and 1 in 72 of b's, and of i's as much: a quarter. */
    private static int withoutTheLast() {
        return 7 * 25 + 249975;
    }

    private static void actsOnTheFull() {
        WillDeposit d = CHECK.told(FULL);
        CHECK.due("a seventh WEDDING", -2, d.wed(0, 1, 5));
        CHECK.due("a fifth WITNESS", -2, d.witness(11, 5));
        CHECK.due("a fourth COPY", -2, d.copy(11));
        CHECK.due("lose as it is", false, d.lose(11, 3));
        CHECK.due("lose(12, 0)", false, d.lose(12, 0));
        CHECK.due("find(12)", false, d.find(12));
        CHECK.due("copy(12)", -1, d.copy(12));
        CHECK.due("witness(12, 5)", -1, d.witness(12, 5));
        CHECK.due("witness(0, 10)", -1, d.witness(0, 10));
        CHECK.due("wed(0, 10, 5)", -1, d.wed(0, 10, 5));
        CHECK.due("dies(10, 5)", false, d.dies(10, 5));
        CHECK.due("takeBack(12)", false, d.takeBack(12));
        CHECK.due("no ACT yet", 0, d.count(7));
        CHECK.due("find(11)", true, d.find(11));
        CHECK.due("witness(0, 9)", 1, d.witness(0, 9));
        CHECK.due("dies(9, NONE)", true, d.dies(9, -1));
        CHECK.due("takeBack(11)", true, d.takeBack(11));
        CHECK.due("nothing is STRUCK", -2, d.struckBy(0, 7));
        CHECK.due("counting(0, 7, 10)", 0, d.counting(0, 7, 10));
        CHECK.due("counting(0, 7, 11)", -2, d.counting(0, 7, 11));
        CHECK.due("four ACTS", 4, d.count(7));
        for (int k = 3; k >= 0; k--) {
            CHECK.due("undo", k, d.undo());
        }
        CHECK.due("WITNESSES as told", 0, Check.paper(d, 0, 5));
        CHECK.due("COPIES as told", 3, Check.paper(d, 11, 8));
    }

    private static void twelveThatCount() {
        WillDeposit d = CHECK.told("land 0 0;" + Texts.persons(2) + Texts.things(1) + Texts.papers(12) + "dies a 1;");
        for (int k = 0; k < 12; k++) {
            CHECK.due("counting(0, 0, " + k + ")", 11 - k, d.counting(0, 0, k));
        }
        CHECK.due("counting(0, 0, 12)", -2, d.counting(0, 0, 12));
        StringBuilder wills = new StringBuilder("land 0 0;" + Texts.persons(2) + Texts.things(1));
        for (int p = 0; p < 12; p++) {
            wills.append("paper ").append(Texts.name(p)).append(" a ").append(p == 11 ? 0 : 20 - p).append(" 0 will rest b;");
        }
        WillDeposit struck = CHECK.told(wills + "dies a 99;");
        for (int p = 0; p < 12; p++) {
            CHECK.due("the first one is the LATEST: struckBy(" + p + ", 0)", p == 0 ? -2 : 0, struck.struckBy(p, 0));
        }
        CHECK.due("naming(0, 1)", 0b111111111111, struck.naming(0, 1));
        CHECK.due("takerBy(0, 0)", 0, struck.takerBy(0, 0));
    }

    private static void sixWeddingsAsked() {
        WillDeposit d = CHECK.told("land 0 0 wed;" + Texts.persons(4) + Texts.things(1)
                + "wed b c 3;wed b c 3;wed b c 3;wed b c 3;wed b c 3;wed a d 3;paper p a 2 0 will;dies a 4;");
        CHECK.due("the sixth one breaks it", 6, d.why(0, 0));
        CHECK.due("the sixth one is an HEIR", 0b1000, d.heirs(0));
        CHECK.due("person(0, 4)", 3, Check.person(d, 0, 4));
        WillDeposit others = CHECK.told("land 0 0 wed;" + Texts.persons(4) + Texts.things(1)
                + "wed b c 3;wed b c 3;wed b c 3;wed b c 3;wed b c 3;paper p a 2 0 will;dies a 4;");
        others.wed(0, 3, 3);
        CHECK.due("a sixth one told anew", 6, others.why(0, 0));
        others.undo();
        CHECK.due("undone", 0, others.why(0, 0));
        CHECK.due("no HEIR", 0, others.heirs(0));
        CHECK.due("not WED", -2, Check.person(others, 0, 4));
    }

    private static void tenDeathsOfOneDay() {
        StringBuilder text = new StringBuilder(Texts.persons(10) + "thing t j 0 3;thing u a 0 3;");
        for (int p = 9; p >= 0; p--) {
            text.append("dies ").append(Texts.name(p)).append(" 9999;");
        }
        WillDeposit d = CHECK.told(text + "child j a;child j b;");
        for (int k = 0; k < 10; k++) {
            CHECK.due("of like DAYS by numbers: death(" + k + ", 0)", k, d.death(k, 0));
            CHECK.due("death(" + k + ", 1)", 9999, d.death(k, 1));
            CHECK.due("death(" + k + ", 2)", k == 9 ? 1 : k == 0 ? 2 : 0, d.death(k, 2));
        }
        CHECK.due("death(10, 0)", -2, d.death(10, 0));
        CHECK.due("the tenth is done, too", CROWN, d.holders(0, 9999));
        CHECK.due("ahead of it", 1 << 9, d.holders(0, 9998));
        CHECK.due("who dies that DAY never has it", 1, d.ever(9));
    }

    /** dayFor looks at each DAY of 12 PAPERS, 6 weddings and 9 deaths, and the one behind it. */
    private static void everyDayTold() {
        StringBuilder text = new StringBuilder("land 0 0;" + Texts.persons(10) + "thing t a 0 3;");
        for (int w = 0; w < 6; w++) {
            text.append("wed b c ").append(1000 + 10 * w).append(';');
        }
        for (int p = 0; p < 12; p++) {
            text.append("paper ").append(Texts.name(p)).append(" a ").append(2000 + 10 * p).append(" 0 adds")
                    .append(p == 11 ? " rest j;" : ";");
        }
        for (int p = 1; p < 9; p++) {
            text.append("dies ").append(Texts.name(p)).append(' ').append(10 * p).append(';');
        }
        WillDeposit d = CHECK.told(text.toString());
        CHECK.due("behind the last one of all", 2111, d.dayFor(0, 9, 0));
        d.dies(9, 9999);
        CHECK.due("he dies himself", -2, d.dayFor(0, 9, 0));
        d.dies(9, -1);
        d.takeBack(11);
        CHECK.due("by none", -2, d.dayFor(0, 9, 0));
    }

    private static void littleBehindMuch() {
        WillDeposit d = CHECK.told(FULL);
        CHECK.due("text", 5, Check.readOver(d, "person x 0;person y 1;thing h y 0 5;paper l y 11 1 strikes give h x;dies y 12;"));
        int[] dues = {5, 2, 1, 1, 0, 0, 1, 0, 0};
        for (int what = 0; what < dues.length; what++) {
            CHECK.due("count(" + what + ")", dues[what], d.count(what));
        }
        CHECK.due("person(2, 0)", Check.INDEX, Check.person(d, 2, 0));
        CHECK.due("thing(1, 0)", -1, d.thing(1, 0));
        CHECK.due("paper(1, 0)", Check.INDEX, Check.paper(d, 1, 0));
        long[][] persons = {{0, -2, 0, 0, -2}, {1, 12, 0, 0, -2}};
        for (int p = 0; p < 2; p++) {
            for (int what = 0; what < 5; what++) {
                CHECK.due("person(" + p + ", " + what + ")", persons[p][what], Check.person(d, p, what));
            }
        }
        long[] paper = {1, 11, 1, 2, 0, 0, 1, -2, -2, 0};
        for (int what = 0; what < paper.length; what++) {
            CHECK.due("paper(0, " + what + ")", paper[what], Check.paper(d, 0, what));
        }
        int[] give = {0, 0, 0, -2, -2};
        for (int what = 0; what < give.length; what++) {
            CHECK.due("give(0, 0, " + what + ")", give[what], d.give(0, 0, what));
        }
        CHECK.due("give(0, 1, 0)", -2, d.give(0, 1, 0));
        CHECK.due("naming(1, 0)", 1, d.naming(1, 0));
        CHECK.due("naming(0, 1)", 0, d.naming(0, 1));
        CHECK.due("no FORM", 4, d.why(0, 0));
        CHECK.due("heirs(1)", 0, d.heirs(1));
        CHECK.due("holders(0, 9999)", CROWN, d.holders(0, 9999));
        CHECK.due("against(0, 0)", -2, d.against(0, 0));
        CHECK.due("key(0)", 0, d.key(0));
        CHECK.due("key(1)", 0, d.key(1));
        strikesBehindMuch();
    }

    /** An object is used for at most 512 calls: the last of them answers as the first one does. */
    private static void call512() {
        String text = "person a 0;person b 0;thing t a 0 5;child b a;";
        WillDeposit d = CHECK.told(text);
        // text(0), a feed for each twenty bytes, text
        int calls = 2 + (text.length() + 19) / 20;
        while (calls < 510) {
            CHECK.due("dies in call " + (calls + 1), true, d.dies(0, calls));
            calls++;
        }
        CHECK.due("holders in call 511", 0b01, d.holders(0, 508));
        CHECK.due("holders in call 512", 0b10, d.holders(0, 509));
    }

    /** What the earlier TEXT's PAPER of the same number struck or gave under a CONDITION is forgotten. */
    private static void strikesBehindMuch() {
        String earlier = "land 0 0;person a 0;person b 0;person c 0;thing t a 0 5;paper p a 1 0 adds;"
                + "paper q a 2 0 adds strike p give t b if c or c rest b;dies a 9;";
        WillDeposit d = CHECK.told(earlier);
        CHECK.due("struckBy(0, 0)", 1, d.struckBy(0, 0));
        CHECK.due("text", 8, Check.readOver(d, earlier.replace(" strike p give t b if c or c rest b", " give t c")));
        CHECK.due("struckBy(0, 0)", -2, d.struckBy(0, 0));
        CHECK.due("why(0, 0)", 0, d.why(0, 0));
        CHECK.due("CONDITION", 0, d.give(1, 0, 2));
        CHECK.due("its PERSON", -2, d.give(1, 0, 3));
        CHECK.due("the or one", -2, d.give(1, 0, 4));
        CHECK.due("naming(0, 1)", 0, d.naming(0, 1));
        CHECK.due("taker(0, 0)", 2, d.taker(0, 0));
        d.dies(2, 3);
        CHECK.due("taker(0, 0) when c is dead", -2, d.taker(0, 0));
        givesBehindMuch();
    }

    /** Of the earlier TEXT's PAPER of the same number a GIVE behind the last one is forgotten, too. */
    private static void givesBehindMuch() {
        String start = "land 0 0;person a 0;person b 0;person c 0;thing t a 0 5;paper p a 1 0 adds";
        WillDeposit d = CHECK.told(start + " give t c give t b;dies a 9;dies c 9;");
        CHECK.due("takerBy asked first", 0, d.takerBy(0, 0));
        CHECK.due("taker by the second GIVE", 1, d.taker(0, 0));
        CHECK.due("text", 8, Check.readOver(d, start + " give t c;dies a 9;dies c 9;"));
        CHECK.due("takerBy asked first", -2, d.takerBy(0, 0));
        CHECK.due("taker", -2, d.taker(0, 0));
        CHECK.due("naming(0, 1)", 0, d.naming(0, 1));
        CHECK.due("sees(1, 0, 9)", 0, d.sees(1, 0, 9));
        CHECK.due("give(0, 1, 0)", -2, d.give(0, 1, 0));
        CHECK.due("text", 8, Check.readOver(d, start + ";dies a 9;dies c 9;"));
        CHECK.due("taker without a GIVE", -2, d.taker(0, 0));
        CHECK.due("naming(0, 2)", 0, d.naming(0, 2));
        askedFirst(start + " give t b;dies a 1;");
    }

    /** PAPER 0 is made too late: what is asked first of a new object answers so, without another question ahead of it. */
    private static void askedFirst(String text) {
        CHECK.due("takerBy asked first", -2, CHECK.told(text).takerBy(0, 0));
        CHECK.due("taker asked first", -2, CHECK.told(text).taker(0, 0));
        CHECK.due("why asked first", 2, CHECK.told(text).why(0, 0));
        CHECK.due("counting asked first", -2, CHECK.told(text).counting(0, 0, 0));
        CHECK.due("holders asked first", CROWN, CHECK.told(text).holders(0, 1));
        CHECK.due("wealth asked first", 0, CHECK.told(text).wealth(1));
        CHECK.due("ever asked first", 0, CHECK.told(text).ever(1));
        CHECK.due("gain asked first", 0, CHECK.told(text).gain(1, 0));
        CHECK.due("key asked first", 0, CHECK.told(text).key(1));
        CHECK.due("moves asked first", 1, CHECK.told(text).moves(0, 1));
        CHECK.due("death asked first", 1, CHECK.told(text).death(0, 2));
        CHECK.due("wouldDie asked first", 0b010, CHECK.told(text).wouldDie(0, 2, 0));
        CHECK.due("dayFor asked first", 2, CHECK.told(text).dayFor(0, 1, 0));
    }
}
