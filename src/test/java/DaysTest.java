/** Terms, sections 2 and 3: each sentence that names a DAY, with one DAY ahead of it, on it and one DAY behind it;
 *  and the first and the last DAY there is. */
final class DaysTest {
    private static final Check CHECK = new Check("DaysTest");
    private static final int CROWN = 1024;
    private static final int NEVER = -1;

    public static void main(String[] args) {
        livesIfHeDiesLater();
        witnessesWhoLived();
        madeAheadOfTheDeath();
        laterByDaysThenNumbers();
        strikersGoodOnThatDay();
        brokenByWeddings();
        brokenOfBothWhoWed();
        conditions();
        takersWhoLive();
        witnessesWhoTake();
        restWhoLives();
        childrenWhoLive();
        theOneWed();
        parentsWhoLive();
        halfOfChildrenWhoLive();
        deathsOfThatDayAreDone();
        ofLikeDaysByNumbers();
        ownersDead();
        betweenTwoDeaths();
        seesOnTheDay();
        heirsWhoSee();
        firstAndLastDay();
        formEdges();
        proofEdges();
        marginEdges();
        CHECK.end();
    }

    private static void livesIfHeDiesLater() {
        // the MAKER sees his PAPER as long as he LIVES, made or not
        WillDeposit d = CHECK.told(Texts.persons(2) + "paper p a 50 0 will;dies a 10;");
        CHECK.due("LIVES a DAY ahead", 1, d.sees(0, 0, 9));
        CHECK.due("not on that DAY", 0, d.sees(0, 0, 10));
        CHECK.due("nor behind it", 0, d.sees(0, 0, 11));
        CHECK.due("LIVES on DAY 0", 1, d.sees(0, 0, 0));
        d.dies(0, NEVER);
        CHECK.due("who never dies LIVES on the last DAY", 1, d.sees(0, 0, 9999));
        d.dies(0, 9999);
        CHECK.due("LIVES on the last DAY but one", 1, d.sees(0, 0, 9998));
        CHECK.due("not on the last DAY", 0, d.sees(0, 0, 9999));
        d.dies(0, 0);
        CHECK.due("dead on DAY 0", 0, d.sees(0, 0, 0));
    }

    private static void witnessesWhoLived() {
        WillDeposit d = CHECK.told("land 0 1;land 1 2;" + Texts.persons(3) + "paper p a 10 0 will witness b witness c;");
        int[][] dues = {{9, 1, 0, 1}, {10, 1, 0, 1}, {11, 1, 1, 2}, {NEVER, 1, 1, 2}, {0, 1, 0, 1}, {9999, 1, 1, 2}};
        for (int[] due : dues) {
            d.dies(1, due[0]);
            CHECK.due("form(0, 0), b dies on " + due[0], due[1], d.form(0, 0));
            CHECK.due("form(0, 1), b dies on " + due[0], due[2], d.form(0, 1));
            CHECK.due("margin(0), b dies on " + due[0], due[3], d.margin(0));
        }
        d.dies(1, 10);
        d.dies(2, 10);
        CHECK.due("none LIVED", 0, d.form(0, 0));
        CHECK.due("margin: no FORM", -2, d.margin(0));
        CHECK.due("they stay WITNESSES", 0b110, Check.paper(d, 0, 5));
    }

    private static void madeAheadOfTheDeath() {
        WillDeposit d = CHECK.told("land 0 0;" + Texts.persons(2) + Texts.things(1) + "paper p a 10 0 will give a b;");
        int[][] dues = {{NEVER, 1}, {0, 2}, {9, 2}, {10, 2}, {11, 0}, {9999, 0}};
        for (int[] due : dues) {
            d.dies(0, due[0]);
            CHECK.due("why(0, 0), a dies on " + due[0], due[1], d.why(0, 0));
            CHECK.due("taker(0, 0), a dies on " + due[0], due[0] == NEVER ? -3 : due[1] == 0 ? 1 : -2, d.taker(0, 0));
            CHECK.due("counting(0, 0, 0), a dies on " + due[0], due[1] == 0 ? 0 : -2, d.counting(0, 0, 0));
        }
    }

    private static void laterByDaysThenNumbers() {
        for (int day = 9; day <= 11; day++) {
            WillDeposit d = CHECK.told("land 0 0;" + Texts.persons(2) + Texts.things(1) + "paper p a 10 0 will;paper q a " + day
                    + " 0 will;dies a 20;");
            CHECK.due("struckBy(0, 0), q of DAY " + day, day >= 10 ? 1 : -2, d.struckBy(0, 0));
            CHECK.due("struckBy(1, 0), q of DAY " + day, day >= 10 ? -2 : 0, d.struckBy(1, 0));
            CHECK.due("counting(0, 0, 0), q of DAY " + day, day >= 10 ? 1 : 0, d.counting(0, 0, 0));
            CHECK.due("counting(0, 0, 1), q of DAY " + day, -2, d.counting(0, 0, 1));
            WillDeposit strikes = CHECK.told("land 0 0;" + Texts.persons(2) + Texts.things(1) + "paper p a 10 0 adds;paper q a " + day
                    + " 0 strikes strike p;dies a 20;");
            CHECK.due("struck by q of DAY " + day, day >= 10 ? 1 : -2, strikes.struckBy(0, 0));
            CHECK.due("why(0, 0), q of DAY " + day, day >= 10 ? 5 : 0, strikes.why(0, 0));
        }
    }

    private static void strikersGoodOnThatDay() {
        WillDeposit d = CHECK.told("land 0 0;" + Texts.persons(2) + Texts.things(1)
                + "paper p a 10 0 will;paper q a 15 0 will;paper r b 16 0 will;dies b 30;");
        int[][] dues = {{10, -2}, {11, -2}, {14, -2}, {15, -2}, {16, 1}, {NEVER, -2}};
        for (int[] due : dues) {
            d.dies(0, due[0]);
            CHECK.due("struckBy(0, 0), a dies on " + due[0], due[1], d.struckBy(0, 0));
        }
        d.dies(0, 16);
        d.lose(1, 3);
        CHECK.due("not PROVED: strikes nothing", 0, d.why(0, 0));
        d.find(1);
        CHECK.due("found: strikes", 5, d.why(0, 0));
        d.takeBack(1);
        CHECK.due("taken back: strikes nothing", 0, d.why(0, 0));
    }

    private static void brokenByWeddings() {
        int[][] dues = {{0, 0}, {9, 0}, {10, 0}, {11, 6}, {19, 6}, {20, 0}, {21, 0}, {9999, 0}};
        for (int[] due : dues) {
            WillDeposit d = CHECK.told("land 0 0 wed;" + Texts.persons(2) + Texts.things(1) + "paper p a 10 0 will;wed a b "
                    + due[0] + ";dies a 20;");
            CHECK.due("why(0, 0), WED on " + due[0], due[1], d.why(0, 0));
            WillDeposit act = CHECK.told("land 0 0 wed;" + Texts.persons(2) + Texts.things(1) + "paper p a 10 0 will;dies a 20;");
            act.wed(1, 0, due[0]);
            CHECK.due("why(0, 0), WED by an ACT on " + due[0], due[1], act.why(0, 0));
        }
        WillDeposit near = CHECK.told("land 0 0 wed;" + Texts.persons(2) + Texts.things(1) + "paper p a 10 0 will;wed a b 11;");
        int[][] deaths = {{11, 0}, {12, 6}, {10, 2}, {NEVER, 1}};
        for (int[] due : deaths) {
            near.dies(0, due[0]);
            CHECK.due("why(0, 0), a dies on " + due[0], due[1], near.why(0, 0));
        }
        WillDeposit noWed = CHECK.told("land 0 0;land 1 0 wed;" + Texts.persons(2) + "thing t a 1 4;"
                + "paper p a 10 0 will;wed a b 15;dies a 20;");
        CHECK.due("its LAND, not that of the THING, has wed", 0, noWed.why(0, 0));
    }

    private static void brokenOfBothWhoWed() {
        WillDeposit d = CHECK.told("land 0 0 wed;" + Texts.persons(3) + Texts.things(1)
                + "paper p a 10 0 will;paper q b 10 0 will;paper r c 10 0 will;wed a b 15;dies a 20;dies b 16;dies c 20;");
        CHECK.due("the first one WED", 6, d.why(0, 0));
        CHECK.due("the second one WED", 6, d.why(1, 0));
        CHECK.due("nobody WED", 0, d.why(2, 0));
        d.dies(1, 15);
        CHECK.due("WED on the DAY of his own death", 0, d.why(1, 0));
        CHECK.due("that of the other one is nothing to him", 6, d.why(0, 0));
    }

    private static void conditions() {
        int[][] dues = {{NEVER, 1, 2}, {0, 2, 1}, {19, 2, 1}, {20, 2, 1}, {21, 1, 2}, {9999, 1, 2}};
        for (int[] due : dues) {
            WillDeposit d = CHECK.told("land 0 0;" + Texts.persons(4) + Texts.things(2)
                    + "paper p a 1 0 will give a b if d give a c give b b unless d give b c;dies a 20;");
            d.dies(3, due[0]);
            CHECK.due("if, d dies on " + due[0], due[1], d.taker(0, 0));
            CHECK.due("unless, d dies on " + due[0], due[2], d.taker(0, 1));
        }
        WillDeposit himself = CHECK.told("land 0 0;" + Texts.persons(4) + Texts.things(2)
                + "paper p a 1 0 will give a b if a give a c give b b unless a give b c;dies a 20;");
        CHECK.due("if the MAKER LIVES: he doesn't on that DAY", 2, himself.taker(0, 0));
        CHECK.due("unless the MAKER LIVES", 1, himself.taker(0, 1));
    }

    private static void takersWhoLive() {
        int[][] dues = {{NEVER, 1}, {19, 2}, {20, 2}, {21, 1}};
        for (int[] due : dues) {
            WillDeposit d = CHECK.told("land 0 0;" + Texts.persons(3) + Texts.things(1) + "paper p a 1 0 will give a b or c;dies a 20;");
            d.dies(1, due[0]);
            CHECK.due("taker, b dies on " + due[0], due[1], d.taker(0, 0));
            d.dies(2, 20);
            CHECK.due("taker, c dies that DAY", due[1] == 1 ? 1 : -2, d.taker(0, 0));
            d.dies(2, 21);
            CHECK.due("taker, c dies later", due[1], d.taker(0, 0));
        }
        WillDeposit self = CHECK.told("land 0 0;" + Texts.persons(2) + Texts.things(1) + "paper p a 1 0 will give a a or b rest a;dies a 20;");
        CHECK.due("he himself doesn't take", 1, self.taker(0, 0));
        self.dies(1, 20);
        CHECK.due("nor by rest", -2, self.taker(0, 0));
    }

    private static void witnessesWhoTake() {
        // land 0 has own, land 1 has not; PAPER and THING in either, by OWN HAND or not
        for (int k = 0; k < 8; k++) {
            int paperLand = k & 1;
            int thingLand = k >> 1 & 1;
            boolean own = (k & 4) != 0;
            WillDeposit d = CHECK.told("land 0 1 own;land 1 1;" + Texts.persons(3) + "thing t a " + thingLand + " 5;paper p a 1 "
                    + paperLand + " will witness b" + (own ? " own" : "") + " give t b rest b;dies a 20;");
            boolean may = own && (paperLand == 0 || thingLand == 0);
            CHECK.due("PAPER in " + paperLand + ", THING in " + thingLand + ", own " + own, may ? 1 : -2, d.taker(0, 0));
            d.witness(0, 2);
            CHECK.due("one more WITNESS", may ? 1 : -2, d.taker(0, 0));
        }
        WillDeposit dead = CHECK.told("land 0 0;" + Texts.persons(3) + Texts.things(1) + "paper p a 1 0 will give a b;dies a 20;");
        CHECK.due("no WITNESS yet", 1, dead.taker(0, 0));
        dead.witness(0, 1);
        CHECK.due("a WITNESS, though none is asked", -2, dead.taker(0, 0));
    }

    private static void restWhoLives() {
        int[][] dues = {{NEVER, 1}, {19, -2}, {20, -2}, {21, 1}};
        for (int[] due : dues) {
            WillDeposit d = CHECK.told("land 0 0;" + Texts.persons(2) + Texts.things(1) + "paper p a 19 0 will rest b;dies a 20;");
            d.dies(1, due[0]);
            CHECK.due("taker by rest, b dies on " + due[0], due[1], d.taker(0, 0));
            CHECK.due("takerBy by rest, b dies on " + due[0], due[1] == 1 ? 0 : -2, d.takerBy(0, 0));
        }
    }

    private static void childrenWhoLive() {
        int[][] dues = {{NEVER, 0b110}, {19, 0b100}, {20, 0b100}, {21, 0b110}};
        for (int[] due : dues) {
            WillDeposit d = CHECK.told(Texts.persons(4) + Texts.things(1) + "child b a;child c a;wed a d 1;dies a 20;");
            d.dies(1, due[0]);
            CHECK.due("heirs, b dies on " + due[0], due[1], d.heirs(0));
            CHECK.due("holders, b dies on " + due[0], due[1], d.holders(0, 20));
            d.dies(2, 20);
            CHECK.due("heirs, c dies that DAY", due[1] == 0b110 ? 0b010 : 0b1000, d.heirs(0));
        }
    }

    private static void theOneWed() {
        int[][] weddings = {{0, 0b10}, {19, 0b10}, {20, 0b10}, {21, 0}, {9999, 0}};
        for (int[] due : weddings) {
            WillDeposit d = CHECK.told(Texts.persons(3) + Texts.things(1) + "wed a b " + due[0] + ";dies a 20;");
            CHECK.due("heirs, WED on " + due[0], due[1], d.heirs(0));
            CHECK.due("holders, WED on " + due[0], due[1] == 0 ? CROWN : 0b10, d.holders(0, 20));
            CHECK.due("person(0, 4), WED on " + due[0], 1, Check.person(d, 0, 4));
        }
        int[][] deaths = {{NEVER, 0b1000}, {19, 0b0001}, {20, 0b0001}, {21, 0b1000}};
        for (int[] due : deaths) {
            WillDeposit d = CHECK.told(Texts.persons(4) + "child c a;child c b;wed c d 1;dies c 20;dies b 5;");
            d.dies(3, due[0]);
            CHECK.due("heirs, the one WED dies on " + due[0], due[1], d.heirs(2));
        }
        WillDeposit last = CHECK.told(Texts.persons(3) + "wed a b 10;wed a c 20;dies a 20;dies c 20;");
        CHECK.due("WED last on that DAY to one who dies, too: nobody else instead", 0, last.heirs(0));
        last.dies(0, 19);
        CHECK.due("a DAY ahead: the other one", 0b10, last.heirs(0));
    }

    private static void parentsWhoLive() {
        int[][] dues = {{NEVER, 0b11}, {19, 0b10}, {20, 0b10}, {21, 0b11}};
        for (int[] due : dues) {
            WillDeposit d = CHECK.told(Texts.persons(3) + "child c a;child c b;thing t c 0 5;dies c 20;");
            d.dies(0, due[0]);
            CHECK.due("heirs, a dies on " + due[0], due[1], d.heirs(2));
            d.dies(1, 20);
            CHECK.due("heirs, b dies that DAY", due[1] & 0b01, d.heirs(2));
            CHECK.due("holders, b dies that DAY", due[1] == 0b11 ? 0b01 : CROWN, d.holders(0, 20));
        }
    }

    private static void halfOfChildrenWhoLive() {
        int[][] dues = {{NEVER, 1, 2}, {19, 1, 1}, {20, 1, 1}, {21, 1, 2}};
        for (int[] due : dues) {
            WillDeposit d = CHECK.told("land 0 0 half;" + Texts.persons(3) + Texts.things(1)
                    + "child b a;paper p a 1 0 will rest c;dies a 20;");
            d.dies(1, due[0]);
            CHECK.due("above, b dies on " + due[0], due[1], d.has(2, 0, 20, 0));
            CHECK.due("below, b dies on " + due[0], due[2], d.has(2, 0, 20, 1));
        }
        WillDeposit noHalf = CHECK.told("land 0 0;land 1 0 half;" + Texts.persons(3) + Texts.things(1)
                + "child b a;paper p a 1 1 will rest c;dies a 20;");
        CHECK.due("the LAND of the THING, not that of the PAPER, has half", 0b100, noHalf.holders(0, 20));
        WillDeposit child = CHECK.told("land 0 0 half;" + Texts.persons(3) + Texts.things(1)
                + "child b a;child c a;paper p a 1 0 will rest b;dies a 20;");
        CHECK.due("a CHILD who is TAKER has his own part, too", 3, child.has(1, 0, 20, 0));
        CHECK.due("of four", 4, child.has(1, 0, 20, 1));
        child.dies(2, 20);
        CHECK.due("the only CHILD is TAKER: the whole", 1, child.has(1, 0, 20, 1));
        WillDeposit none = CHECK.told("land 0 0 half;" + Texts.persons(3) + Texts.things(1) + "child b a;child c a;dies a 20;");
        CHECK.due("no TAKER: no half, all alike", 2, none.has(1, 0, 20, 1));
    }

    private static void deathsOfThatDayAreDone() {
        WillDeposit d = CHECK.told(Texts.persons(2) + Texts.things(1) + "child b a;dies a 20;");
        CHECK.due("has a DAY ahead", 1, d.has(0, 0, 19, 0));
        CHECK.due("has on that DAY", 0, d.has(0, 0, 20, 0));
        CHECK.due("0 by 1", 1, d.has(0, 0, 20, 1));
        CHECK.due("who takes has it on that DAY", 1, d.has(1, 0, 20, 0));
        CHECK.due("and not a DAY ahead", 0, d.has(1, 0, 19, 0));
        CHECK.due("holders a DAY ahead", 0b01, d.holders(0, 19));
        CHECK.due("holders on that DAY", 0b10, d.holders(0, 20));
        d.dies(0, 0);
        CHECK.due("dead on DAY 0", 0b10, d.holders(0, 0));
        d.dies(0, 9999);
        CHECK.due("dead on the last DAY, a DAY ahead", 0b01, d.holders(0, 9998));
        CHECK.due("in the end", 0b10, d.holders(0, 9999));
        CHECK.due("wealth in the end", 100, d.wealth(1));
        CHECK.due("wealth of who is dead in the end", 0, d.wealth(0));
        CHECK.due("moves", 9999, d.moves(0, 1));
    }

    private static void ofLikeDaysByNumbers() {
        WillDeposit d = CHECK.told("land 0 0;" + Texts.persons(4) + "thing t b 0 5;paper p b 1 0 will rest a;paper q a 1 0 will rest c;"
                + "dies b 20;dies a 20;");
        CHECK.due("a is dead that DAY", CROWN, d.holders(0, 20));
        CHECK.due("a never has it", 0, d.ever(0));
        CHECK.due("a dies first", 0, d.death(0, 0));
        CHECK.due("b dies next", 1, d.death(1, 0));
        d.dies(0, 21);
        CHECK.due("a takes", 0b0001, d.holders(0, 20));
        CHECK.due("it goes on a DAY later", 0b0100, d.holders(0, 21));
        CHECK.due("a had it", 1, d.ever(0));
        d.dies(0, 19);
        CHECK.due("a died ahead", CROWN, d.holders(0, 20));
        CHECK.due("b is next", 1, d.death(1, 0));
    }

    private static void ownersDead() {
        WillDeposit d = CHECK.told(Texts.persons(2) + Texts.things(1) + "child b a;dies a 0;dies b 0;");
        CHECK.due("OWNER dead on DAY 0: not kept, nor by one dead that DAY", CROWN, d.holders(0, 0));
        CHECK.due("OWNER at first", 0, d.thing(0, 0));
        CHECK.due("he had it at first", 1, d.ever(0));
        CHECK.due("the other one never", 0, d.ever(1));
        CHECK.due("THINGS he leaves", 1, d.death(0, 2));
        CHECK.due("THINGS the other one leaves", 0, d.death(1, 2));
        CHECK.due("moves", 1, d.moves(0, 0));
        CHECK.due("on DAY 0", 0, d.moves(0, 1));
        d.dies(1, 1);
        CHECK.due("one who dies later takes", 0b10, d.holders(0, 0));
        CHECK.due("until he dies", CROWN, d.holders(0, 1));
    }

    private static void betweenTwoDeaths() {
        // a and b, who are WED, die on one DAY: between both b still has his own, though he takes nothing of a's
        WillDeposit d = CHECK.told("land 0 0 half;" + Texts.persons(4) + "child c a;child c b;thing t a 0 5;thing u b 0 5;"
                + "wed a b 1;dies a 20;dies b 20;");
        CHECK.due("ever(0)", 0b01, d.ever(0));
        CHECK.due("ever(1)", 0b10, d.ever(1));
        CHECK.due("ever(2)", 0b11, d.ever(2));
        CHECK.due("death(0, 2)", 0b01, d.death(0, 2));
        CHECK.due("death(1, 2)", 0b10, d.death(1, 2));
        CHECK.due("moves of each", 1, d.moves(0, 0));
        CHECK.due("moves of each", 1, d.moves(1, 0));
    }

    private static void seesOnTheDay() {
        WillDeposit d = CHECK.told(Texts.persons(8) + Texts.things(1)
                + "child h a;paper p a 5 0 adds witness b give a c if g or d rest e;dies a 20;");
        int[] ahead = {1, 0, 0, 0, 0, 0, 0, 0};
        int[] on = {0, 1, 1, 1, 1, 0, 0, 1};
        for (int p = 0; p < 8; p++) {
            CHECK.due("sees(" + p + ", 0, 19)", ahead[p], d.sees(p, 0, 19));
            CHECK.due("sees(" + p + ", 0, 20)", on[p], d.sees(p, 0, 20));
            CHECK.due("sees(" + p + ", 0, 21)", on[p], d.sees(p, 0, 21));
            CHECK.due("sees(" + p + ", 0, 0)", ahead[p], d.sees(p, 0, 0));
            CHECK.due("sees(" + p + ", 0, 9999)", on[p], d.sees(p, 0, 9999));
        }
        for (int p = 1; p < 8; p++) {
            d.dies(p, 30);
            CHECK.due("a DAY ahead of his death: sees(" + p + ", 0, 29)", on[p], d.sees(p, 0, 29));
            CHECK.due("on that DAY: sees(" + p + ", 0, 30)", 0, d.sees(p, 0, 30));
        }
        CHECK.due("sees(0, 0, -1)", -1, d.sees(0, 0, -1));
        CHECK.due("sees(0, 0, 10000)", -1, d.sees(0, 0, 10000));
        CHECK.due("sees(8, 0, 0)", -1, d.sees(8, 0, 0));
        CHECK.due("sees(0, 1, 0)", -1, d.sees(0, 1, 0));
        d.witness(0, 5);
        CHECK.due("a WITNESS more", 1, d.sees(5, 0, 29));
    }

    private static void heirsWhoSee() {
        WillDeposit d = CHECK.told(Texts.persons(4) + "child c b;paper p b 5 0 adds;wed b d 1;dies b 20;dies c 25;");
        CHECK.due("HEIR on that DAY", 1, d.sees(2, 0, 24));
        CHECK.due("who then dies", 0, d.sees(2, 0, 25));
        CHECK.due("the next in line is no HEIR on the DAY on which he died", 0, d.sees(3, 0, 25));
        d.dies(2, 20);
        CHECK.due("the CHILD dead that DAY: the one WED is HEIR", 1, d.sees(3, 0, 20));
    }

    private static void firstAndLastDay() {
        WillDeposit d = CHECK.told("land 0 0;" + Texts.persons(3) + Texts.things(1) + "wed a c 0;paper p a 0 0 will give a b;dies a 0;");
        CHECK.due("made on DAY 0, dead on DAY 0", 2, d.why(0, 0));
        CHECK.due("WED on DAY 0, dead on DAY 0", 0b100, d.heirs(0));
        CHECK.due("wouldDie(0, 1, 0)", 0b010, d.wouldDie(0, 1, 0));
        CHECK.due("wouldDie(0, 0, 0)", 0b100, d.wouldDie(0, 0, 0));
        CHECK.due("wouldDie(0, 9999, 0)", 0b010, d.wouldDie(0, 9999, 0));
        CHECK.due("wouldDie(0, NONE, 0)", 0b001, d.wouldDie(0, NEVER, 0));
        CHECK.due("wouldDie(0, -2, 0)", -1, d.wouldDie(0, -2, 0));
        CHECK.due("wouldDie(0, 10000, 0)", -1, d.wouldDie(0, 10000, 0));
        CHECK.due("dayFor(0, 2, 0)", 0, d.dayFor(0, 2, 0));
        CHECK.due("dayFor(0, 1, 0)", 1, d.dayFor(0, 1, 0));
        WillDeposit last = CHECK.told("land 0 0;" + Texts.persons(3) + Texts.things(1) + "paper p a 9998 0 will give a b;"
                + "paper q a 9999 0 will give a c;dies a 9999;");
        CHECK.due("made on DAY 9998, dead on DAY 9999", 0, last.why(0, 0));
        CHECK.due("made on DAY 9999", 2, last.why(1, 0));
        CHECK.due("dayFor(0, 1, 0)", 9999, last.dayFor(0, 1, 0));
        CHECK.due("dayFor(0, 2, 0): on none", -2, last.dayFor(0, 2, 0));
        CHECK.due("in the end the last DAY's deaths are done", 0b10, last.holders(0, 9999));
        CHECK.due("wealth(1)", 100, last.wealth(1));
    }

    // ---- FORM, PROVED and margin: as many as asked, one fewer, one more

    private static void formEdges() {
        for (int asked = 0; asked <= 4; asked++) {
            for (int told = 0; told <= 4; told++) {
                WillDeposit d = CHECK.told("land 0 " + asked + " own;land 1 " + asked + ";" + Texts.persons(5) + Texts.things(1)
                        + "paper p a 5 0 will" + Texts.each(" witness ?", 1, told) + ";paper q a 6 1 will own"
                        + Texts.each(" witness ?", 1, told) + ";dies a 9;");
                CHECK.due(told + " of " + asked, told >= asked ? 1 : 0, d.form(0, 0));
                CHECK.due(told + " of " + asked + " and no OWN HAND", told >= asked ? 1 : 0, d.form(0, 1));
                CHECK.due(told + " of " + asked + " or OWN HAND, LAND 1 has no own", told >= asked ? 1 : 0, d.form(1, 1));
                CHECK.due(told + " of " + asked + " or OWN HAND", 1, d.form(1, 0));
                CHECK.due("by the LAND of the THING", 0, d.why(1, 0));
                CHECK.due("margin of " + told + " of " + asked, asked == 0 ? -3 : told < asked ? -2 : told - asked + 1, d.margin(0));
                CHECK.due("margin by OWN HAND", -3, d.margin(1));
            }
        }
    }

    private static void proofEdges() {
        for (int copies = -1; copies <= 3; copies++) {
            WillDeposit d = CHECK.told("land 0 0 copies;land 1 0;" + Texts.persons(1) + "thing t a 0 5;thing u a 1 5;"
                    + "paper p a 1 0 adds;paper q a 1 1 adds;dies a 9;");
            d.lose(0, copies);
            d.lose(1, copies);
            for (int t = 0; t < 2; t++) {
                CHECK.due("its LAND has copies, " + copies, copies == 0 ? 3 : 0, d.why(0, t));
                CHECK.due("its LAND has none, " + copies, copies >= 0 ? 3 : 0, d.why(1, t));
            }
        }
    }

    private static void marginEdges() {
        for (int one = 0; one <= 4; one++) {
            for (int other = 0; other <= 4; other++) {
                WillDeposit d = CHECK.told("land 0 " + one + ";land 1 " + other + ";" + Texts.persons(5)
                        + "paper p a 5 1 will witness b witness c witness d;");
                int least = Math.min(one, other);
                CHECK.due("margin with " + one + " and " + other, least == 0 ? -3 : least > 3 ? -2 : 4 - least, d.margin(0));
                d.dies(3, 5);
                CHECK.due("one of them dead", least == 0 ? -3 : least > 2 ? -2 : 3 - least, d.margin(0));
            }
        }
    }
}
