/** Terms, section 4, and each promise that tells which one of several goes first: NONE, -2, -3; the two exceptions;
 *  the reasons WHY NOT; the first, the LATEST, the last told of several. */
final class OrderOfAnswersTest {
    private static final Check CHECK = new Check("OrderOfAnswersTest");
    private static final int MIN = Integer.MIN_VALUE;
    private static final int MAX = Integer.MAX_VALUE;

    public static void main(String[] args) {
        indexAheadOfElement();
        noneAheadOfMinusTwo();
        noneAheadOfMinusThree();
        minusTwoAndMinusThree();
        textsThatAreTooLong();
        whyTheFirst();
        whyByOneAfterAnother();
        latestOfStrikers();
        latestCountsFirst();
        givesInOrder();
        givesAheadOfRest();
        oneToldAheadOfTheOrOne();
        heirsInOrder();
        wedLastOfSeveral();
        againstTheFirst();
        keyTheFirst();
        deathsInOrder();
        CHECK.end();
    }

    private static void indexAheadOfElement() {
        WillDeposit d = CHECK.told("person a 0;paper p a 0 0 will;");
        for (int stray : new int[] {-1, 1, 10, 12, MIN, MAX}) {
            for (int what : new int[] {-1, 5, 10, MIN, MAX}) {
                CHECK.due("person(" + stray + ", " + what + ")", Check.INDEX, Check.person(d, stray, what));
                CHECK.due("paper(" + stray + ", " + what + ")", Check.INDEX, Check.paper(d, stray, what));
            }
            CHECK.due("person(" + stray + ", 4)", Check.INDEX, Check.person(d, stray, 4));
            CHECK.due("paper(" + stray + ", 9)", Check.INDEX, Check.paper(d, stray, 9));
        }
        for (int what : new int[] {-1, 5, 9, 10, MIN, MAX}) {
            CHECK.due("person(0, " + what + ")", Check.ELEMENT, Check.person(d, 0, what));
        }
        for (int what : new int[] {-1, 10, 11, MIN, MAX}) {
            CHECK.due("paper(0, " + what + ")", Check.ELEMENT, Check.paper(d, 0, what));
        }
        CHECK.due("person(0, 4)", -2, Check.person(d, 0, 4));
        CHECK.due("paper(0, 9)", 0, Check.paper(d, 0, 9));
    }

    private static void noneAheadOfMinusTwo() {
        WillDeposit d = CHECK.told(Texts.persons(6) + Texts.things(1) + "wed a b 1;".repeat(6)
                + "paper p a 5 0 adds witness b witness c witness d witness e;dies a 9;");
        CHECK.due("witness: there are 4, no such PERSON", -1, d.witness(0, 6));
        CHECK.due("witness: no such PAPER, the MAKER", -1, d.witness(1, 0));
        CHECK.due("wed: there are 6, one and the same", -1, d.wed(0, 0, 1));
        CHECK.due("wed: there are 6, no such one", -1, d.wed(0, 6, 1));
        CHECK.due("wed: there are 6, no such DAY", -1, d.wed(0, 1, 10000));
        CHECK.due("wed: there are 6", -2, d.wed(0, 1, 9999));
        CHECK.due("copy: no such PAPER", -1, d.copy(1));
        CHECK.due("copy: it isn't LOST", -2, d.copy(0));
        CHECK.due("struckBy: no such THING, by none", -1, d.struckBy(0, 1));
        CHECK.due("struckBy: by none", -2, d.struckBy(0, 0));
        CHECK.due("counting: not so many, no such THING", -1, d.counting(0, 1, 99));
        CHECK.due("counting: not so many, no such MAKER", -1, d.counting(6, 0, 99));
        CHECK.due("counting: k below 0", -1, d.counting(0, 0, -1));
        CHECK.due("counting: not so many", -2, d.counting(0, 0, 99));
        CHECK.due("taker: there is none, no such THING", -1, d.taker(0, 1));
        CHECK.due("takerBy: there is none, no such THING", -1, d.takerBy(0, 1));
        CHECK.due("against: none does, no such what", -1, d.against(0, 2));
        CHECK.due("against: none does", -2, d.against(0, 1));
        CHECK.due("dayFor: on none, one and the same", -1, d.dayFor(0, 0, 0));
        CHECK.due("dayFor: on none, no such THING", -1, d.dayFor(0, 5, 1));
        CHECK.due("dayFor: on none", -2, d.dayFor(0, 5, 0));
        CHECK.due("death: not so many, no such what", -1, d.death(1, 3));
        CHECK.due("death: not so many", -2, d.death(1, 2));
        CHECK.due("moves: no such what", -1, d.moves(0, 2));
        CHECK.due("kin: no such one", -1, d.kin(0, 6));
        CHECK.due("kin: no way", -2, d.kin(0, 5));
        CHECK.due("give: not so many, no such what", -1, d.give(0, 0, 5));
        CHECK.due("give: not so many, no such PAPER", -1, d.give(1, 0, 0));
        CHECK.due("give: not so many", -2, d.give(0, 0, 4));
        CHECK.due("margin: no such one", -1, d.margin(1));
        WillDeposit none = CHECK.told(Texts.persons(1));
        CHECK.due("key: no PAPERS, no such what", -1, none.key(2));
        CHECK.due("key: no PAPERS, no such what", -1, none.key(-1));
        CHECK.due("key: no PAPERS", -2, none.key(1));
        CHECK.due("moves: a THING that never goes on", -2,
                CHECK.told(Texts.persons(1) + Texts.things(1)).moves(0, 1));
    }

    private static void noneAheadOfMinusThree() {
        WillDeposit d = CHECK.told(Texts.persons(2) + Texts.things(1));
        for (int stray : new int[] {-1, 1, 8, MIN, MAX}) {
            CHECK.due("taker(0, " + stray + "): he doesn't die, no such THING", -1, d.taker(0, stray));
            CHECK.due("takerBy(0, " + stray + ")", -1, d.takerBy(0, stray));
        }
        for (int stray : new int[] {-1, 2, 10, MIN, MAX}) {
            CHECK.due("taker(" + stray + ", 0)", -1, d.taker(stray, 0));
            CHECK.due("heirs(" + stray + ")", -1, d.heirs(stray));
        }
        CHECK.due("heirs(0): he doesn't die", -3, d.heirs(0));
    }

    private static void minusTwoAndMinusThree() {
        WillDeposit d = CHECK.told("land 0 1;land 1 3 own;" + Texts.persons(3) + Texts.things(1)
                + "paper p b 5 0 adds;paper q a 5 0 adds own;paper r a 5 0 adds witness b;dies b 7;");
        CHECK.due("taker: he dies, there is none", -2, d.taker(1, 0));
        CHECK.due("takerBy: he dies, there is none", -2, d.takerBy(1, 0));
        CHECK.due("taker: he doesn't die", -3, d.taker(0, 0));
        CHECK.due("takerBy: he doesn't die", -3, d.takerBy(0, 0));
        CHECK.due("margin: no FORM", -2, d.margin(0));
        CHECK.due("margin: by OWN HAND by the other LAND alone", -3, d.margin(1));
        CHECK.due("margin: one WITNESS", 1, d.margin(2));
        WillDeposit own0 = CHECK.told("land 0 1 own;" + Texts.persons(2) + "paper p b 5 1 adds own;paper q a 5 0 adds;");
        CHECK.due("margin: by OWN HAND by LAND 0 alone", -3, own0.margin(0));
        CHECK.due("margin: not by OWN HAND", -2, own0.margin(1));
        WillDeposit none = CHECK.told("land 0 0;land 1 4;" + Texts.persons(1) + "paper p a 5 1 adds;");
        CHECK.due("margin: none is asked by one LAND", -3, none.margin(0));
    }

    private static void textsThatAreTooLong() {
        WillDeposit d = new WillDeposit();
        d.feed(0x24242424, 0x24242424, 0x24242424, 0x24242424, 0x24242424);
        CHECK.due("not so many, though all would be a FAULT", -2, d.text(21));
        CHECK.due("no text was read", 0, d.fault(0));
        CHECK.due("below 0", -2, d.text(-1));
        CHECK.due("a FAULT", -1, d.text(20));
        CHECK.due("FAULT 1", 1, d.fault(0));
    }

    // ---- WHY NOT

    /** All reasons hold of PAPER 0 that can hold together; each ACT takes the first one away. */
    private static void whyTheFirst() {
        WillDeposit d = CHECK.told("land 0 1 wed copies;" + Texts.persons(4) + Texts.things(1)
                + "paper p a 10 0 adds;paper q a 20 0 will witness b;lost p 0;wed a c 15;");
        d.takeBack(0);
        CHECK.due("7 ahead of 1, 3, 4", 7, d.why(0, 0));
        d.dies(0, 10);
        CHECK.due("7 ahead of 2, 3, 4", 7, d.why(0, 0));
        d.dies(0, 30);
        CHECK.due("7 ahead of 3, 4", 7, d.why(0, 0));
        d.undo();
        d.undo();
        d.undo();
        CHECK.due("1 ahead of 3, 4", 1, d.why(0, 0));
        d.dies(0, 10);
        CHECK.due("2 ahead of 3, 4", 2, d.why(0, 0));
        d.dies(0, 30);
        CHECK.due("3 ahead of 4, 5, 6", 3, d.why(0, 0));
        d.copy(0);
        CHECK.due("4 ahead of 5, 6", 4, d.why(0, 0));
        d.witness(0, 3);
        CHECK.due("5 ahead of 6", 5, d.why(0, 0));
        d.lose(1, 0);
        CHECK.due("6 alone", 6, d.why(0, 0));
        d.dies(0, 15);
        CHECK.due("0: it COUNTS", 0, d.why(0, 0));
        d.takeBack(0);
        CHECK.due("7 alone", 7, d.why(0, 0));
    }

    /** Each reason of one PAPER holds alone. */
    private static void whyByOneAfterAnother() {
        String start = "land 0 1 wed copies;land 1 1;" + Texts.persons(4) + Texts.things(1);
        whyDue(1, start + "paper p a 10 0 adds witness b;");
        whyDue(2, start + "paper p a 10 0 adds witness b;dies a 10;");
        whyDue(2, start + "paper p a 10 0 adds witness b;dies a 0;");
        whyDue(3, start + "paper p a 10 0 adds witness b;dies a 11;lost p 0;");
        whyDue(3, start + "paper p a 10 1 adds witness b;dies a 11;lost p 3;");
        whyDue(4, start + "paper p a 10 0 adds own;dies a 11;");
        whyDue(4, start + "paper p a 10 0 adds witness b;dies a 11;dies b 10;");
        whyDue(5, start + "paper p a 10 0 adds witness b;paper q a 10 0 will witness b;dies a 11;");
        whyDue(6, start + "paper p a 10 0 adds witness b;wed a b 11;dies a 12;");
        whyDue(0, start + "paper p a 10 0 adds witness b;lost p 1;dies a 11;");
        whyDue(0, start + "paper p a 0 0 will witness b;dies a 1;");
        whyDue(2, start + "paper p a 9999 0 will witness b;dies a 9999;");
        whyDue(0, start + "paper p a 9998 0 will witness b;dies a 9999;");
    }

    private static void whyDue(int due, String text) {
        CHECK.due("why(0, 0) of " + text, due, CHECK.told(text).why(0, 0));
    }

    // ---- of several

    private static void latestOfStrikers() {
        WillDeposit d = CHECK.told("land 0 0;" + Texts.persons(2) + Texts.things(1)
                + "paper p a 5 0 adds;paper q a 9 0 will;paper r a 7 0 strikes strike p;paper s a 9 0 strikes strike p;"
                + "paper v a 8 0 will;dies a 20;");
        CHECK.due("of DAY 9 the one told last", 3, d.struckBy(0, 0));
        CHECK.due("s strikes q not", -2, d.struckBy(1, 0));
        CHECK.due("r by q alone of DAY 9", 1, d.struckBy(2, 0));
        CHECK.due("s by none", -2, d.struckBy(3, 0));
        CHECK.due("v by q", 1, d.struckBy(4, 0));
        d.takeBack(3);
        CHECK.due("then q", 1, d.struckBy(0, 0));
        d.takeBack(1);
        CHECK.due("then v", 4, d.struckBy(0, 0));
        d.takeBack(4);
        CHECK.due("then r", 2, d.struckBy(0, 0));
        d.takeBack(2);
        CHECK.due("then none", -2, d.struckBy(0, 0));
    }

    private static void latestCountsFirst() {
        WillDeposit d = CHECK.told("land 0 0;" + Texts.persons(2) + Texts.things(1)
                + "paper p a 5 0 adds give a b;paper q a 9 0 adds;paper r a 5 0 adds;paper s a 0 0 adds;"
                + "paper v a 9 0 adds;paper w b 9 0 adds;dies a 20;dies b 20;");
        int[] dues = {4, 1, 2, 0, 3, -2};
        for (int k = 0; k < dues.length; k++) {
            CHECK.due("counting(0, 0, " + k + ")", dues[k], d.counting(0, 0, k));
        }
        CHECK.due("counting(1, 0, 0)", 5, d.counting(1, 0, 0));
        CHECK.due("counting(1, 0, 1)", -2, d.counting(1, 0, 1));
    }

    private static void takerDue(WillDeposit d, int taker, int by, String what) {
        CHECK.due("taker: " + what, taker, d.taker(0, 0));
        CHECK.due("takerBy: " + what, by, d.takerBy(0, 0));
    }

    private static void givesInOrder() {
        WillDeposit d = CHECK.told("land 0 0;" + Texts.persons(8) + Texts.things(2)
                + "paper p a 5 0 adds give a h;"
                + "paper q a 6 0 adds give b g give a b give a c if d give a e unless d give a f;dies a 10;");
        takerDue(d, 1, 1, "the first of that THING");
        d.dies(1, 10);
        takerDue(d, 2, 1, "the next of its GIVES");
        d.dies(2, 9);
        takerDue(d, 5, 1, "one whose CONDITION is so");
        d.dies(3, 10);
        takerDue(d, 4, 1, "unless: an earlier one");
        d.dies(4, 1);
        takerDue(d, 5, 1, "the last of its GIVES");
        d.dies(5, 1);
        takerDue(d, 7, 0, "the next PAPER");
        d.dies(7, 11);
        takerDue(d, 7, 0, "who dies later");
        d.dies(7, 10);
        takerDue(d, -2, -2, "none");
        CHECK.due("of the other THING", 6, d.taker(0, 1));
    }

    private static void givesAheadOfRest() {
        WillDeposit d = CHECK.told("land 0 0;" + Texts.persons(6) + Texts.things(1)
                + "paper p a 5 0 adds give a b rest c;paper q a 6 0 adds rest d;paper r a 7 0 adds give a e if f rest f;dies a 10;");
        takerDue(d, 4, 2, "a GIVE of the LATEST");
        d.dies(4, 10);
        takerDue(d, 1, 0, "a GIVE of the first one ahead of rest of the LATEST");
        d.dies(1, 10);
        takerDue(d, 5, 2, "the rest of the LATEST");
        d.dies(5, 10);
        takerDue(d, 3, 1, "the rest of the next");
        d.dies(3, 10);
        takerDue(d, 2, 0, "the rest of the first");
        d.dies(2, 10);
        takerDue(d, -2, -2, "none");
    }

    private static void oneToldAheadOfTheOrOne() {
        WillDeposit d = CHECK.told("land 0 0;" + Texts.persons(5) + Texts.things(1)
                + "paper p a 5 0 adds witness b give a b or c give a d or b rest b;dies a 10;");
        takerDue(d, 2, 0, "the one told is a WITNESS: the or one");
        d.dies(2, 10);
        takerDue(d, 3, 0, "the next one told");
        d.dies(3, 10);
        takerDue(d, -2, -2, "the or one and the rest are a WITNESS");
        WillDeposit both = CHECK.told("land 0 0;" + Texts.persons(3) + Texts.things(1) + "paper p a 5 0 adds give a b or c;dies a 10;");
        takerDue(both, 1, 0, "the one told ahead of the or one");
    }

    private static void heirsInOrder() {
        WillDeposit d = CHECK.told(Texts.persons(6) + "child c a;child c b;child d c;child e c;wed c f 1;dies c 10;");
        CHECK.due("CHILDREN ahead of the one WED", 0b011000, d.heirs(2));
        d.dies(3, 10);
        CHECK.due("one CHILD is enough", 0b010000, d.heirs(2));
        d.dies(4, 10);
        CHECK.due("the one WED ahead of PARENTS", 0b100000, d.heirs(2));
        d.dies(5, 10);
        CHECK.due("PARENTS", 0b000011, d.heirs(2));
        d.dies(0, 10);
        CHECK.due("one PARENT is enough", 0b000010, d.heirs(2));
        d.dies(1, 10);
        CHECK.due("the CROWN", 0, d.heirs(2));
        d.dies(1, 11);
        CHECK.due("the PARENT who dies later", 0b000010, d.heirs(2));
    }

    private static void wedLastOfSeveral() {
        WillDeposit d = CHECK.told(Texts.persons(5) + "wed a b 5;wed c a 7;wed d a 7;wed a e 6;dies a 9;");
        CHECK.due("of like DAYS that told last", 3, Check.person(d, 0, 4));
        CHECK.due("HEIR", 0b1000, d.heirs(0));
        d.wed(1, 0, 7);
        CHECK.due("of like DAYS one told by an ACT", 1, Check.person(d, 0, 4));
        CHECK.due("HEIR", 0b0010, d.heirs(0));
        d.wed(0, 4, 6);
        CHECK.due("told last, but of an earlier DAY", 1, Check.person(d, 0, 4));
        d.undo();
        d.undo();
        d.wed(0, 4, 9999);
        CHECK.due("of all DAYS", 4, Check.person(d, 0, 4));
        CHECK.due("HEIR up to the DAY on which he dies", 0b1000, d.heirs(0));
    }

    private static void againstTheFirst() {
        String start = "land 0 0;" + Texts.persons(4) + "child b a;" + "thing t a 0 10;thing u a 0 10;thing v a 0 9;";
        WillDeposit alike = CHECK.told(start + "paper p a 1 0 adds give v c;paper q a 1 0 adds give u c;"
                + "paper r a 2 0 adds give t d;dies a 9;");
        CHECK.due("the first of several", 1, alike.against(1, 0));
        CHECK.due("GAIN", -1000, alike.against(1, 1));
        alike.takeBack(1);
        CHECK.due("the other one", 2, alike.against(1, 0));
        alike.takeBack(2);
        CHECK.due("the last one that hurts", 0, alike.against(1, 0));
        CHECK.due("GAIN", -900, alike.against(1, 1));
        alike.takeBack(0);
        CHECK.due("none does", -2, alike.against(1, 0));
        CHECK.due("none does", -2, alike.against(1, 1));
        smallHurts();
    }

    /** GAIN just below 0, 0 and just above it. */
    private static void smallHurts() {
        String start = "land 0 0 half;" + Texts.persons(5) + "child b a;child c a;child d a;";
        WillDeposit d = CHECK.told(start + "thing t a 0 1;paper p a 1 0 adds give t e;dies a 9;");
        CHECK.due("16 less 33", -17, d.against(1, 1));
        CHECK.due("he who takes isn't hurt", -2, d.against(4, 0));
        WillDeposit one = CHECK.told("land 0 0;" + Texts.persons(10) + "child g b;child h b;child i b;"
                + "child b a;child c a;child d a;child e a;"
                + "thing t a 0 1;paper p f 1 0 adds give t a;dies a 9;dies b 10;");
        CHECK.due("a quarter to b, of which a third: 8", 8, one.wealth(6));
        CHECK.due("no PAPER of a: none hurts", -2, one.against(6, 1));
        WillDeposit less = CHECK.told("land 0 0 half;" + Texts.persons(10) + Texts.each("child ? a;", 1, 9)
                + "thing t a 0 1;thing u a 0 1;paper p a 1 0 adds give t b;dies a 9;");
        CHECK.due("half of a ninth and a ninth: 5 + 11, less 11 + 11", -6, less.gain(2, 0));
        CHECK.due("against(2, 1)", -6, less.against(2, 1));
        WillDeposit least = CHECK.told("land 0 0 half;" + Texts.persons(3) + "child b a;thing t a 0 1;"
                + "paper p a 1 0 adds give t c;dies a 9;");
        CHECK.due("a half", -50, least.against(1, 1));
        smallestHurt();
    }

    private static void smallestHurt() {
        // a's THING goes in halves, quarters .. down to j, who has 1 in 64 of 100 hundredths: 1
        StringBuilder text = new StringBuilder("land 0 0 half;" + Texts.persons(8));
        for (int p = 1; p < 7; p++) {
            text.append("child ").append(Texts.name(p)).append(' ').append(Texts.name(p - 1)).append(';');
        }
        text.append("thing t a 0 1;");
        for (int p = 0; p < 6; p++) {
            text.append("paper ").append(Texts.name(p)).append(' ').append(Texts.name(p)).append(" 0 0 adds rest h;");
            text.append("dies ").append(Texts.name(p)).append(' ').append(p + 1).append(';');
        }
        WillDeposit d = CHECK.told(text.toString());
        CHECK.due("1 in 64", 1, d.wealth(6));
        CHECK.due("1 in 64 less 1 in 32, each cut", 1 - 3, d.gain(6, 0));
        WillDeposit other = CHECK.told(text.toString().replace("dies f 6;", "") + "person k 0;child k f;dies f 6;");
        CHECK.due("two CHILDREN: 1 in 128 is cut to 0", 0, other.wealth(6));
        CHECK.due("0 less 1 (1 in 64)", -1, other.gain(6, 5));
        CHECK.due("GAIN just below 0 hurts", -1, other.against(6, 1));
        CHECK.due("the first of six", 0, other.against(6, 0));
    }

    private static void keyTheFirst() {
        String start = "land 0 0;" + Texts.persons(3) + Texts.things(4);
        WillDeposit d = CHECK.told(start + "paper p a 1 0 adds;paper q a 1 0 adds give a b;"
                + "paper r a 2 0 adds give b b give c b;paper s a 3 0 adds give d b give b b;dies a 9;");
        CHECK.due("key(0): r alone changes c, s d, q a", 1, d.key(0));
        CHECK.due("key(1)", 1, d.key(1));
        d.takeBack(3);
        CHECK.due("key(0): r changes b and c", 2, d.key(0));
        CHECK.due("key(1)", 2, d.key(1));
        d.takeBack(2);
        CHECK.due("key(0): q", 1, d.key(0));
        d.takeBack(1);
        CHECK.due("key(0): the first of several that change nothing", 0, d.key(0));
        CHECK.due("key(1)", 0, d.key(1));
        WillDeposit all = CHECK.told("land 0 0;" + Texts.persons(2) + Texts.things(8)
                + "paper p a 1 0 adds;paper q a 2 0 adds rest b;dies a 9;");
        CHECK.due("key(0) of eight THINGS", 1, all.key(0));
        CHECK.due("key(1) of eight THINGS", 8, all.key(1));
    }

    private static void deathsInOrder() {
        WillDeposit d = CHECK.told(Texts.persons(5) + "dies e 3;dies c 3;dies a 4;dies d 0;");
        int[] dues = {3, 2, 4, 0};
        int[] days = {0, 3, 3, 4};
        for (int k = 0; k < dues.length; k++) {
            CHECK.due("death(" + k + ", 0)", dues[k], d.death(k, 0));
            CHECK.due("death(" + k + ", 1)", days[k], d.death(k, 1));
        }
        CHECK.due("death(4, 0)", -2, d.death(4, 0));
        d.dies(1, 3);
        CHECK.due("of like DAYS by numbers", 1, d.death(1, 0));
        d.dies(3, 9999);
        CHECK.due("told anew", 3, d.death(4, 0));
        d.dies(3, -1);
        CHECK.due("struck", -2, d.death(4, 0));
    }
}
