/** Promises 17 to 23, 34, 38 and 39: form, why, struckBy, counting, taker, takerBy, heirs, margin, naming, sees. */
final class LawTest {
    private static final Check CHECK = new Check("LawTest");
    private static final int[] STRAY = {-1, 12, Integer.MIN_VALUE, Integer.MAX_VALUE};
    /** a 0, b 1, c 2, d 3, e 4; both LANDS ask for one WITNESS. */
    private static final String FIVE = "person a 0;person b 0;person c 0;person d 0;person e 0;";
    private static final String ONE_EACH = "land 0 1;land 1 1;" + FIVE + "thing t a 0 10;thing u a 1 20;";

    public static void main(String[] args) {
        forms();
        margins();
        whyInOrder();
        proofs();
        formOfEitherLand();
        striking();
        breaking();
        takenBack();
        countingLatestFirst();
        takersByGives();
        takersWhoAreWitnesses();
        takersByRest();
        takersOfThoseWhoDoNotDie();
        heirs();
        spouses();
        naming();
        seeing();
        strayNumbers();
        CHECK.end();
    }

    private static void forms() {
        WillDeposit deposit = CHECK.told("land 0 1 own;land 1 2;" + FIVE
                + "paper hand a 5 1 will own;paper one a 5 0 will witness b;paper two a 5 0 will witness b witness c;"
                + "paper no a 5 0 will;dies b 6;dies c 5;");
        int[][] dues = {{1, 0}, {1, 0}, {1, 0}, {0, 0}};
        for (int p = 0; p < dues.length; p++) {
            for (int l = 0; l < 2; l++) {
                CHECK.due("form(" + p + ", " + l + ")", dues[p][l], deposit.form(p, l));
            }
        }
        deposit.dies(2, 6);
        CHECK.due("both LIVED on its DAY", 1, deposit.form(2, 1));
        deposit.takeBack(2);
        CHECK.due("taken back: as told", 1, deposit.form(2, 1));
        WillDeposit none = CHECK.told("land 1 0;person a 0;paper p a 3 0 will;");
        CHECK.due("no WITNESS is asked", 1, none.form(0, 1));
        CHECK.due("two are asked without a LINE", 0, none.form(0, 0));
    }

    private static void margins() {
        String people = FIVE + "person f 0;";
        String papers = "paper hand a 5 0 will own;paper four a 5 0 will witness b witness c witness d witness e;"
                + "paper two a 5 1 will witness b witness c;paper one a 5 1 will witness b;";
        WillDeposit deposit = CHECK.told("land 0 2;land 1 3 own;" + people + papers);
        int[] dues = {-3, 3, 1, -2};
        for (int p = 0; p < dues.length; p++) {
            CHECK.due("margin(" + p + ")", dues[p], deposit.margin(p));
        }
        deposit.dies(1, 5);
        CHECK.due("one didn't LIVE", 2, deposit.margin(1));
        CHECK.due("too few LIVED", -2, deposit.margin(2));
        deposit.dies(1, 6);
        CHECK.due("he LIVED on its DAY", 3, deposit.margin(1));
        WillDeposit asksNone = CHECK.told("land 1 0;" + people + papers);
        CHECK.due("none is asked", -3, asksNone.margin(3));
        WillDeposit noOwn = CHECK.told(people + papers);
        CHECK.due("no LAND has own", -2, noOwn.margin(0));
    }

    private static void whyInOrder() {
        WillDeposit deposit = CHECK.told("land 0 1 wed;land 1 1;" + FIVE + "thing t a 1 5;"
                + "paper p a 10 0 adds;lost p 0;paper w a 15 1 will witness b;wed a c 12;dies b 15;");
        CHECK.due("1 its MAKER doesn't die", 1, deposit.why(0, 0));
        deposit.dies(0, 10);
        CHECK.due("2 made too late", 2, deposit.why(0, 0));
        deposit.dies(0, 20);
        CHECK.due("3 not PROVED", 3, deposit.why(0, 0));
        deposit.find(0);
        CHECK.due("4 no FORM", 4, deposit.why(0, 0));
        deposit.witness(0, 3);
        CHECK.due("6 BROKEN", 6, deposit.why(0, 0));
        CHECK.due("its WITNESS was dead", 4, deposit.why(1, 0));
        deposit.dies(1, -1);
        CHECK.due("5 STRUCK, BROKEN or not", 5, deposit.why(0, 0));
        CHECK.due("0 it COUNTS", 0, deposit.why(1, 0));
        deposit.takeBack(0);
        CHECK.due("7 taken back", 7, deposit.why(0, 0));
        deposit.dies(0, -1);
        CHECK.due("7 ahead of all", 7, deposit.why(0, 0));
    }

    private static void proofs() {
        WillDeposit deposit = CHECK.told("land 0 0 copies;land 1 0;person a 0;thing t a 0 5;thing u a 1 5;"
                + "paper p a 1 0 adds;paper q a 2 1 adds;lost p 0;lost q 3;dies a 3;");
        CHECK.due("no COPY", 3, deposit.why(0, 1));
        CHECK.due("its LAND has no copies", 3, deposit.why(1, 0));
        deposit.copy(0);
        CHECK.due("a COPY and copies", 0, deposit.why(0, 1));
    }

    private static void formOfEitherLand() {
        WillDeposit deposit = CHECK.told("land 0 2;land 1 1;person a 0;person b 0;thing t a 0 5;thing u a 1 5;"
                + "paper p a 1 0 adds witness b;paper q a 1 1 adds witness b;dies a 3;");
        CHECK.due("by neither", 4, deposit.why(0, 0));
        CHECK.due("by that of the THING", 0, deposit.why(0, 1));
        CHECK.due("by its own", 0, deposit.why(1, 0));
    }

    private static void striking() {
        WillDeposit deposit = CHECK.told(ONE_EACH
                + "paper p a 5 0 adds witness b;paper q a 7 0 strikes witness b strike p;"
                + "paper r a 8 0 will witness b;paper s a 6 0 adds witness b;paper v a 6 0 will;"
                + "paper w b 9 0 will witness a;dies a 20;dies b 21;");
        CHECK.due("struckBy(0, 0): the LATEST", 2, deposit.struckBy(0, 0));
        CHECK.due("struckBy(1, 0)", 2, deposit.struckBy(1, 0));
        CHECK.due("struckBy(2, 0)", -2, deposit.struckBy(2, 0));
        CHECK.due("struckBy(3, 0): a will of a LATER DAY, told ahead", 2, deposit.struckBy(3, 0));
        CHECK.due("struckBy(5, 0): of another MAKER", -2, deposit.struckBy(5, 0));
        deposit.takeBack(2);
        CHECK.due("struckBy(0, 0) by the one that strikes it", 1, deposit.struckBy(0, 0));
        CHECK.due("struckBy(3, 0): v isn't GOOD", -2, deposit.struckBy(3, 0));
        CHECK.due("struckBy(2, 0) taken back", -2, deposit.struckBy(2, 0));
        deposit.witness(4, 2);
        CHECK.due("v is told LATER on that DAY", 4, deposit.struckBy(3, 0));
        CHECK.due("the LATEST strikes p", 1, deposit.struckBy(0, 0));
        CHECK.due("q is LATER than v", -2, deposit.struckBy(1, 0));
        CHECK.due("why(3, 0)", 5, deposit.why(3, 0));
        deposit.takeBack(3);
        CHECK.due("of itself as told", 4, deposit.struckBy(3, 0));
        deposit.undo();
        deposit.undo();
        deposit.undo();
        CHECK.due("STRUCK by one that is STRUCK itself", 5, deposit.why(0, 0));
        deposit.dies(0, 8);
        CHECK.due("r is made too late", 1, deposit.struckBy(0, 0));
        CHECK.due("none STRUCK by itself", -2, deposit.struckBy(1, 0));
        deposit.dies(0, -1);
        CHECK.due("nothing is GOOD", -2, deposit.struckBy(0, 0));
        struckOfAnEarlierDay();
    }

    private static void struckOfAnEarlierDay() {
        WillDeposit deposit = CHECK.told(ONE_EACH + "paper p a 9 0 adds witness b;"
                + "paper q a 8 0 strikes witness b strike p;paper r a 9 0 strikes witness b strike q strike p;dies a 10;");
        CHECK.due("q is not LATER than p; r is", 2, deposit.struckBy(0, 0));
        CHECK.due("struckBy(1, 0)", 2, deposit.struckBy(1, 0));
        deposit.takeBack(2);
        CHECK.due("q strikes what it names only if that is earlier", -2, deposit.struckBy(0, 0));
        CHECK.due("why(0, 0)", 0, deposit.why(0, 0));
        WillDeposit byThing = CHECK.told("land 0 1;land 1 2;person a 0;person b 0;thing t a 0 5;thing u a 1 5;"
                + "paper p a 1 0 adds witness b;paper q a 2 1 will witness b;dies a 3;");
        CHECK.due("q is GOOD for the THING in LAND 0", 1, byThing.struckBy(0, 0));
        CHECK.due("and not for that in LAND 1", -2, byThing.struckBy(0, 1));
    }

    private static void breaking() {
        String text = "land 0 1 wed;land 1 1;" + FIVE + "thing t a 0 5;thing u a 1 5;"
                + "paper p a 10 0 adds witness b;paper q a 10 1 adds witness b;dies a 20;";
        WillDeposit deposit = CHECK.told(text);
        deposit.wed(0, 2, 10);
        deposit.wed(3, 0, 20);
        deposit.wed(3, 4, 15);
        CHECK.due("on its DAY, on his death's, of others", 0, deposit.why(0, 0));
        deposit.wed(3, 0, 11);
        CHECK.due("BROKEN for each THING", 6, deposit.why(0, 1));
        CHECK.due("LAND 1 has no wed", 0, deposit.why(1, 0));
        deposit.undo();
        deposit.wed(0, 3, 19);
        CHECK.due("ahead of his death", 6, deposit.why(0, 0));
        WillDeposit strikes = CHECK.told("land 0 1 wed;" + FIVE + "thing t a 0 5;paper p a 5 1 adds witness b;"
                + "paper w a 10 0 will witness b;wed a c 12;dies a 20;");
        CHECK.due("one that is BROKEN strikes", 5, strikes.why(0, 0));
        CHECK.due("it is BROKEN", 6, strikes.why(1, 0));
    }

    private static void takenBack() {
        WillDeposit deposit = CHECK.told(ONE_EACH + "paper p a 5 0 adds witness b give t c;"
                + "paper q a 7 0 will witness b give t d;dies a 20;");
        CHECK.due("taker", 3, deposit.taker(0, 0));
        deposit.takeBack(1);
        CHECK.due("it COUNTS for nothing, strikes nothing", 2, deposit.taker(0, 0));
        CHECK.due("why(0, 0)", 0, deposit.why(0, 0));
        CHECK.due("counting", -2, deposit.counting(0, 0, 1));
        CHECK.due("give is as told", 3, deposit.give(1, 0, 1));
        CHECK.due("margin is as told", 1, deposit.margin(1));
    }

    private static void countingLatestFirst() {
        WillDeposit deposit = CHECK.told(ONE_EACH + "paper p a 5 0 adds witness b;paper q a 9 0 adds witness b;"
                + "paper r a 5 0 adds witness b;paper s a 7 0 adds;paper v b 6 0 adds witness a;dies a 20;dies b 20;");
        int[] dues = {1, 2, 0, -2, -2};
        for (int k = 0; k < dues.length; k++) {
            CHECK.due("counting(0, 0, " + k + ")", dues[k], deposit.counting(0, 0, k));
        }
        CHECK.due("counting(0, 0, max)", -2, deposit.counting(0, 0, Integer.MAX_VALUE));
        CHECK.due("counting(0, 0, -1)", -1, deposit.counting(0, 0, -1));
        CHECK.due("counting(0, 0, min)", -1, deposit.counting(0, 0, Integer.MIN_VALUE));
        CHECK.due("counting(1, 0, 0)", 4, deposit.counting(1, 0, 0));
        CHECK.due("counting(2, 0, 0): he doesn't die", -2, deposit.counting(2, 0, 0));
        CHECK.due("counting(2, 0, -1)", -1, deposit.counting(2, 0, -1));
    }

    private static void takerDue(WillDeposit deposit, String what, int person, int thing, int taker, int by) {
        CHECK.due("taker: " + what, taker, deposit.taker(person, thing));
        CHECK.due("takerBy: " + what, by, deposit.takerBy(person, thing));
    }

    private static void takersByGives() {
        WillDeposit deposit = CHECK.told("land 0 0;land 1 0;" + FIVE + "thing t a 0 10;thing u a 1 20;"
                + "paper p a 5 0 adds give t b give u c;"
                + "paper q a 6 0 adds give u b if d give t c if d or e give t d unless e;dies a 20;");
        takerDue(deposit, "the first of that THING in the LATEST", 0, 0, 2, 1);
        takerDue(deposit, "if he LIVES", 0, 1, 1, 1);
        deposit.dies(2, 20);
        takerDue(deposit, "the or one, where the one told died on that DAY", 0, 0, 4, 1);
        deposit.dies(4, 19);
        takerDue(deposit, "the next of its GIVES", 0, 0, 3, 1);
        deposit.dies(4, 21);
        takerDue(deposit, "he LIVES who dies later", 0, 0, 4, 1);
        deposit.dies(3, 20);
        takerDue(deposit, "no CONDITION is so: the next PAPER", 0, 0, 1, 0);
        takerDue(deposit, "if he doesn't LIVE", 0, 1, -2, -2);
        deposit.dies(1, 2);
        takerDue(deposit, "nobody", 0, 0, -2, -2);
        WillDeposit himself = CHECK.told("land 0 0;" + FIVE + "thing t a 0 10;"
                + "paper p a 5 0 adds give t a give t b unless a;dies a 20;");
        takerDue(himself, "who dies doesn't LIVE on that DAY", 0, 0, 1, 0);
    }

    private static void takersWhoAreWitnesses() {
        String papers = FIVE + "thing t a 0 10;thing u a 1 20;"
                + "paper p a 5 0 adds own witness b give t b or c give u b;dies a 20;";
        WillDeposit noOwn = CHECK.told("land 0 1;land 1 1;" + papers);
        takerDue(noOwn, "a WITNESS may not", 0, 0, 2, 0);
        takerDue(noOwn, "nor without another one", 0, 1, -2, -2);
        WillDeposit itsLand = CHECK.told("land 0 1 own;land 1 1;" + papers);
        takerDue(itsLand, "OWN HAND by its LAND", 0, 0, 1, 0);
        takerDue(itsLand, "OWN HAND by its LAND", 0, 1, 1, 0);
        WillDeposit landOfThing = CHECK.told("land 0 1;land 1 1 own;" + papers);
        takerDue(landOfThing, "no OWN HAND there", 0, 0, 2, 0);
        takerDue(landOfThing, "OWN HAND by the LAND of the THING", 0, 1, 1, 0);
        noOwn.witness(0, 2);
        takerDue(noOwn, "both are", 0, 0, -2, -2);
    }

    private static void takersByRest() {
        WillDeposit deposit = CHECK.told("land 0 0;land 1 0;" + FIVE + "thing t a 0 10;"
                + "paper p a 5 0 adds rest b give t c if c;paper q a 6 0 adds rest d;paper r a 7 0 adds witness e rest e;"
                + "dies a 20;");
        takerDue(deposit, "a GIVE of an earlier one goes ahead of rest", 0, 0, 2, 0);
        deposit.dies(2, 5);
        takerDue(deposit, "the LATEST rest that may take", 0, 0, 3, 1);
        deposit.dies(3, 20);
        takerDue(deposit, "the next rest", 0, 0, 1, 0);
        deposit.takeBack(0);
        takerDue(deposit, "none", 0, 0, -2, -2);
    }

    private static void takersOfThoseWhoDoNotDie() {
        WillDeposit deposit = CHECK.told("land 0 0;" + FIVE + "thing t a 0 10;paper p b 5 0 adds give t c;dies b 6;");
        takerDue(deposit, "he doesn't die", 0, 0, -3, -3);
        takerDue(deposit, "he has no part of it", 1, 0, 2, 0);
    }

    private static void heirs() {
        WillDeposit deposit = CHECK.told(FIVE + "child c a;child c b;child d c;child e c;wed c b 3;dies c 10;dies a 4;");
        CHECK.due("CHILDREN", 0b11000, deposit.heirs(2));
        deposit.dies(3, 10);
        CHECK.due("who LIVE", 0b10000, deposit.heirs(2));
        deposit.dies(4, 2);
        CHECK.due("the one WED", 0b00010, deposit.heirs(2));
        deposit.dies(1, 10);
        CHECK.due("PARENTS don't LIVE", 0, deposit.heirs(2));
        deposit.dies(0, -1);
        CHECK.due("a PARENT", 0b00001, deposit.heirs(2));
        deposit.dies(1, 11);
        CHECK.due("the one WED is a PARENT", 0b00010, deposit.heirs(2));
        CHECK.due("he doesn't die", -3, deposit.heirs(0));
        WillDeposit both = CHECK.told(FIVE + "child c a;child c b;dies c 1;");
        CHECK.due("both PARENTS", 0b00011, both.heirs(2));
        CHECK.due("nobody: he doesn't die", -3, both.heirs(3));
    }

    private static void spouses() {
        WillDeposit deposit = CHECK.told(FIVE + "wed a b 5;wed c a 5;wed d a 4;dies a 9;");
        CHECK.due("of like DAYS that told last", 0b00100, deposit.heirs(0));
        deposit.wed(0, 4, 10);
        CHECK.due("one behind the DAY of his death comes too late", 0b00100, deposit.heirs(0));
        deposit.wed(3, 0, 9);
        CHECK.due("one of the DAY of his death counts", 0b01000, deposit.heirs(0));
        CHECK.due("who has a right as HEIR", 1, spouseSees());
        deposit.dies(3, 9);
        CHECK.due("who died that DAY: no earlier one instead", 0, deposit.heirs(0));
        deposit.undo();
        deposit.undo();
        deposit.wed(0, 4, 8);
        CHECK.due("the last one", 0b10000, deposit.heirs(0));
        deposit.dies(4, 9);
        CHECK.due("if that one LIVES: no earlier one instead", 0, deposit.heirs(0));
        CHECK.due("of all DAYS", 4, Check.person(deposit, 0, 4));
    }

    /** Whether one who was WED to the MAKER on the DAY of his death sees his PAPER. */
    private static int spouseSees() {
        WillDeposit deposit = CHECK.told(FIVE + "paper p a 5 0 will;wed a b 5;wed a d 9;dies a 9;");
        CHECK.due("the one WED ahead is no HEIR", 0, deposit.sees(1, 0, 9));
        return deposit.sees(3, 0, 9);
    }

    private static void naming() {
        WillDeposit deposit = CHECK.told(FIVE + "thing t a 0 10;paper p a 5 0 adds give t b if d;"
                + "paper q a 6 0 adds witness e give t c or b;paper r a 7 0 strikes rest b;paper s b 7 0 will rest b;");
        CHECK.due("of GIVES, or, rest", 0b0111, deposit.naming(0, 1));
        CHECK.due("of GIVES", 0b0010, deposit.naming(0, 2));
        CHECK.due("not in a CONDITION", 0, deposit.naming(0, 3));
        CHECK.due("not as a WITNESS", 0, deposit.naming(0, 4));
        CHECK.due("of that MAKER", 0b1000, deposit.naming(1, 1));
        CHECK.due("none", 0, deposit.naming(2, 1));
        deposit.takeBack(0);
        CHECK.due("whether they COUNT or not", 0b0111, deposit.naming(0, 1));
    }

    private static void seeing() {
        WillDeposit deposit = CHECK.told(FIVE + "person f 0;person g 0;child g a;thing t a 0 10;"
                + "paper p a 5 0 adds witness b give t c if e or d rest f;dies a 10;dies g 12;");
        int[] ahead = {1, 0, 0, 0, 0, 0, 0};
        int[] on = {0, 1, 1, 1, 0, 1, 1};
        int[] behind = {0, 1, 1, 1, 0, 1, 0};
        for (int p = 0; p < 7; p++) {
            CHECK.due("sees(" + p + ", 0, 0)", ahead[p], deposit.sees(p, 0, 0));
            CHECK.due("sees(" + p + ", 0, 9)", ahead[p], deposit.sees(p, 0, 9));
            CHECK.due("sees(" + p + ", 0, 10)", on[p], deposit.sees(p, 0, 10));
            CHECK.due("sees(" + p + ", 0, 11)", on[p], deposit.sees(p, 0, 11));
            CHECK.due("sees(" + p + ", 0, 12)", behind[p], deposit.sees(p, 0, 12));
            CHECK.due("sees(" + p + ", 0, 9999)", behind[p], deposit.sees(p, 0, 9999));
            CHECK.due("sees(" + p + ", 0, 10000)", -1, deposit.sees(p, 0, 10000));
            CHECK.due("sees(" + p + ", 0, -1)", -1, deposit.sees(p, 0, -1));
        }
        deposit.takeBack(0);
        CHECK.due("taken back: as told", 1, deposit.sees(1, 0, 10));
        deposit.dies(0, -1);
        CHECK.due("the MAKER alone", 0, deposit.sees(1, 0, 9999));
        CHECK.due("the MAKER", 1, deposit.sees(0, 0, 9999));
        deposit.dies(0, 12);
        CHECK.due("HEIR who died that DAY", 0, deposit.sees(6, 0, 12));
    }

    private static void strayNumbers() {
        WillDeposit deposit = CHECK.told(ONE_EACH + "paper p a 5 0 adds witness b;");
        for (int stray : STRAY) {
            CHECK.due("form paper", -1, deposit.form(stray, 0));
            CHECK.due("form land", -1, deposit.form(0, stray));
            CHECK.due("why paper", -1, deposit.why(stray, 0));
            CHECK.due("why thing", -1, deposit.why(0, stray));
            CHECK.due("struckBy paper", -1, deposit.struckBy(stray, 0));
            CHECK.due("struckBy thing", -1, deposit.struckBy(0, stray));
            CHECK.due("counting maker", -1, deposit.counting(stray, 0, 0));
            CHECK.due("counting thing", -1, deposit.counting(0, stray, 0));
            CHECK.due("taker person", -1, deposit.taker(stray, 0));
            CHECK.due("taker thing: NONE ahead of -3", -1, deposit.taker(0, stray));
            CHECK.due("takerBy person", -1, deposit.takerBy(stray, 0));
            CHECK.due("takerBy thing: NONE ahead of -3", -1, deposit.takerBy(0, stray));
            CHECK.due("heirs", -1, deposit.heirs(stray));
            CHECK.due("margin", -1, deposit.margin(stray));
            CHECK.due("naming maker", -1, deposit.naming(stray, 0));
            CHECK.due("naming person", -1, deposit.naming(0, stray));
            CHECK.due("sees person", -1, deposit.sees(stray, 0, 0));
            CHECK.due("sees paper", -1, deposit.sees(0, stray, 0));
        }
        CHECK.due("form land 2", -1, deposit.form(0, 2));
    }
}
