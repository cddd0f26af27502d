/** Promises 28 to 33: gain, against, key, wouldPaper, wouldDie, dayFor. */
final class WouldTest {
    private static final Check CHECK = new Check("WouldTest");
    private static final int MIN = Integer.MIN_VALUE;
    private static final int MAX = Integer.MAX_VALUE;
    private static final int CROWN = 1024;
    private static final int NO_GAIN = -1000000;

    /** c 2 is the CHILD of a 0; b 1, d 3 and e 4 are not of kin. */
    private static final String PEOPLE = "land 0 0 copies;land 1 0;person a 0;person b 0;person c 0;person d 0;person e 0;"
            + "child c a;thing home a 0 100;thing boat a 0 3;thing ring b 1 50;";
    private static final String TEXT = PEOPLE + "paper first a 5 0 adds give home b;"
            + "paper next a 6 0 adds give home d give boat d;paper gone a 7 0 adds give boat e;dies a 10;";

    public static void main(String[] args) {
        gains();
        gainsAreCut();
        against();
        againstNobody();
        keys();
        keysOfMany();
        wouldPaper();
        wouldDie();
        dayFor();
        firstAndLastDays();
        nothingIsChanged();
        CHECK.end();
    }

    private static void gains() {
        WillDeposit deposit = CHECK.told(TEXT);
        CHECK.due("gain(3, 1)", 10000, deposit.gain(3, 1));
        CHECK.due("gain(1, 0): another one goes ahead", 0, deposit.gain(1, 0));
        CHECK.due("gain(1, 1)", -10000, deposit.gain(1, 1));
        CHECK.due("gain(4, 2)", 300, deposit.gain(4, 2));
        CHECK.due("gain(3, 2)", -300, deposit.gain(3, 2));
        deposit.takeBack(1);
        CHECK.due("gain of one taken back", 0, deposit.gain(3, 1));
        CHECK.due("gain(1, 0)", 10000, deposit.gain(1, 0));
        for (int stray : new int[] {-1, 5, 10, MIN, MAX}) {
            CHECK.due("gain(stray, 0)", NO_GAIN, deposit.gain(stray, 0));
        }
        for (int stray : new int[] {-1, 3, 12, MIN, MAX}) {
            CHECK.due("gain(0, stray)", NO_GAIN, deposit.gain(0, stray));
        }
    }

    private static void gainsAreCut() {
        WillDeposit deposit = CHECK.told("land 0 0 half;person a 0;person b 0;person c 0;person d 0;child b a;child c a;"
                + "child d a;thing t a 0 1;paper p a 1 0 will rest b;dies a 2;");
        CHECK.due("66 (4 of 6) less 33 (1 of 3)", 33, deposit.gain(1, 0));
        CHECK.due("16 (1 of 6) less 33 (1 of 3)", -17, deposit.gain(2, 0));
    }

    private static void against() {
        WillDeposit deposit = CHECK.told(TEXT);
        CHECK.due("against(1, 0)", 1, deposit.against(1, 0));
        CHECK.due("against(1, 1)", -10000, deposit.against(1, 1));
        CHECK.due("against(3, 0)", 2, deposit.against(3, 0));
        CHECK.due("against(3, 1)", -300, deposit.against(3, 1));
        CHECK.due("against(4, 0): none hurts him", -2, deposit.against(4, 0));
        CHECK.due("against(4, 1)", -2, deposit.against(4, 1));
        for (int what : new int[] {-1, 2, MIN, MAX}) {
            CHECK.due("against(1, what)", -1, deposit.against(1, what));
        }
        for (int stray : new int[] {-1, 5, 10, MIN, MAX}) {
            CHECK.due("against(stray, 0)", -1, deposit.against(stray, 0));
        }
        WillDeposit alike = CHECK.told(PEOPLE + "paper p a 5 0 adds give boat d;paper q b 5 1 adds give ring d;"
                + "paper r e 5 1 adds give ring d;child e b;dies a 9;dies b 9;");
        CHECK.due("against(2, 0)", 0, alike.against(2, 0));
        CHECK.due("against(2, 1)", -300, alike.against(2, 1));
        CHECK.due("against(4, 0)", 1, alike.against(4, 0));
        WillDeposit first = CHECK.told(PEOPLE + "thing pot a 0 3;paper p a 5 0 adds give boat d;"
                + "paper q a 6 0 adds give pot d;paper r a 4 0 adds give home c;dies a 9;");
        CHECK.due("the first of several", 0, first.against(2, 0));
    }

    private static void againstNobody() {
        WillDeposit deposit = CHECK.told(PEOPLE);
        CHECK.due("no PAPERS hurt", -2, deposit.against(0, 0));
        CHECK.due("no PAPERS hurt", -2, deposit.against(0, 1));
    }

    private static void keys() {
        WillDeposit deposit = CHECK.told(TEXT);
        CHECK.due("key(0): of several the first", 1, deposit.key(0));
        CHECK.due("key(1)", 1, deposit.key(1));
        deposit.takeBack(2);
        CHECK.due("key(0)", 1, deposit.key(0));
        CHECK.due("key(1)", 2, deposit.key(1));
        deposit.dies(0, -1);
        CHECK.due("none changes anything: the first", 0, deposit.key(0));
        CHECK.due("none changes anything", 0, deposit.key(1));
        for (int what : new int[] {-1, 2, MIN, MAX}) {
            CHECK.due("key(what)", -1, deposit.key(what));
        }
    }

    private static void keysOfMany() {
        CHECK.due("no PAPERS", -2, CHECK.told(PEOPLE).key(0));
        CHECK.due("no PAPERS", -2, CHECK.told(PEOPLE).key(1));
        CHECK.due("NONE ahead of -2", -1, CHECK.told(PEOPLE).key(2));
        WillDeposit parts = CHECK.told("land 0 0 half;person a 0;person b 0;person c 0;child b a;child c a;thing t a 0 9;"
                + "thing u a 0 9;paper p a 1 0 adds give t b;paper q a 1 0 adds give u a;dies a 2;");
        CHECK.due("HOLDERS as bits: other parts are no others", 0, parts.key(1));
    }

    private static void wouldPaper() {
        WillDeposit deposit = CHECK.told(TEXT + "lost gone 1;");
        CHECK.due("LOST without a COPY", 0b1000, deposit.wouldPaper(2, 0, 1));
        CHECK.due("found", 0b10000, deposit.wouldPaper(2, 1, 1));
        CHECK.due("taken back", 0b1000, deposit.wouldPaper(2, 2, 1));
        CHECK.due("another THING", 0b1000, deposit.wouldPaper(2, 2, 0));
        CHECK.due("next LOST", 0b10, deposit.wouldPaper(1, 0, 0));
        CHECK.due("next found", 0b1000, deposit.wouldPaper(1, 1, 0));
        CHECK.due("next taken back", 0b10, deposit.wouldPaper(1, 2, 0));
        CHECK.due("as it is", 0b10000, deposit.holders(1, 9999));
        deposit.lose(2, 0);
        CHECK.due("it is LOST", 0b1000, deposit.holders(1, 9999));
        CHECK.due("WOULD it be found", 0b10000, deposit.wouldPaper(2, 1, 1));
        deposit.takeBack(2);
        CHECK.due("it is taken back, found or not", 0b1000, deposit.wouldPaper(2, 1, 1));
        for (int stray : new int[] {-1, 3, 12, MIN, MAX}) {
            CHECK.due("wouldPaper(stray, 0, 0)", -1, deposit.wouldPaper(stray, 0, 0));
            CHECK.due("wouldPaper(0, stray, 0)", -1, deposit.wouldPaper(0, stray, 0));
            CHECK.due("wouldPaper(0, 0, stray)", -1, deposit.wouldPaper(0, 0, stray));
        }
    }

    private static void wouldDie() {
        WillDeposit deposit = CHECK.told(TEXT);
        CHECK.due("d dies ahead", 0b10, deposit.wouldDie(3, 10, 0));
        CHECK.due("d dies behind", CROWN, deposit.wouldDie(3, 11, 0));
        CHECK.due("d never dies", 0b1000, deposit.wouldDie(3, -1, 0));
        CHECK.due("a never dies", 0b1, deposit.wouldDie(0, -1, 0));
        CHECK.due("a dies too early for a PAPER", 0b100, deposit.wouldDie(0, 5, 0));
        CHECK.due("a dies behind the first one", 0b10, deposit.wouldDie(0, 6, 0));
        CHECK.due("a dies at last", 0b1000, deposit.wouldDie(0, 9999, 0));
        for (int day : new int[] {-2, 10000, MIN, MAX}) {
            CHECK.due("wouldDie(0, day, 0)", -1, deposit.wouldDie(0, day, 0));
        }
        for (int stray : new int[] {-1, 5, 10, MIN, MAX}) {
            CHECK.due("wouldDie(stray, 5, 0)", -1, deposit.wouldDie(stray, 5, 0));
            CHECK.due("wouldDie(0, 5, stray)", -1, deposit.wouldDie(0, 5, stray));
        }
    }

    private static void dayFor() {
        WillDeposit deposit = CHECK.told(TEXT);
        CHECK.due("dayFor(0, 2, 0): as HEIR", 0, deposit.dayFor(0, 2, 0));
        CHECK.due("dayFor(0, 1, 0): behind the DAY of the first one", 6, deposit.dayFor(0, 1, 0));
        CHECK.due("dayFor(0, 3, 0)", 7, deposit.dayFor(0, 3, 0));
        CHECK.due("dayFor(0, 4, 1)", 8, deposit.dayFor(0, 4, 1));
        CHECK.due("dayFor(0, 4, 0)", -2, deposit.dayFor(0, 4, 0));
        CHECK.due("dayFor(3, 1, 0): if he dies ahead", 0, deposit.dayFor(3, 1, 0));
        deposit.dies(1, 9);
        deposit.dies(2, 4);
        CHECK.due("HEIR who dies himself", -2, deposit.dayFor(0, 2, 0));
        CHECK.due("taker who dies himself", -2, deposit.dayFor(0, 1, 0));
        for (int stray : new int[] {-1, 5, 10, MIN, MAX}) {
            CHECK.due("dayFor(stray, 0, 0)", -1, deposit.dayFor(stray, 0, 0));
            CHECK.due("dayFor(0, stray, 0)", -1, deposit.dayFor(0, stray, 0));
            CHECK.due("dayFor(0, 1, stray)", -1, deposit.dayFor(0, 1, stray));
        }
        CHECK.due("one and the same", -1, deposit.dayFor(1, 1, 0));
    }

    private static void firstAndLastDays() {
        WillDeposit deposit = CHECK.told("land 0 1 wed;person a 0;person b 0;person c 0;person d 0;child b a;"
                + "thing t a 0 9;paper p a 9998 0 will witness c give t d;dies b 9997;");
        CHECK.due("the last DAY", 9999, deposit.dayFor(0, 3, 0));
        deposit.dies(2, 9998);
        CHECK.due("its WITNESS is dead", -2, deposit.dayFor(0, 3, 0));
        CHECK.due("a PAPER has FORM if he LIVES", -2, deposit.dayFor(2, 3, 0));
        deposit.dies(0, 9999);
        CHECK.due("the day behind that of the PAPER", 9999, deposit.dayFor(2, 3, 0));
        deposit.dies(3, 9999);
        CHECK.due("he dies that DAY", -2, deposit.dayFor(2, 3, 0));
        WillDeposit first = CHECK.told("person a 0;person b 0;person c 0;child b a;child c b;thing t b 0 9;dies a 30;dies b 40;");
        CHECK.due("his CHILD takes on any DAY", 0, first.dayFor(1, 2, 0));
        first.dies(2, 35);
        CHECK.due("his PARENT never LIVES longer", -2, first.dayFor(1, 0, 0));
        WillDeposit alone = CHECK.told("land 0 0;person a 0;person b 0;person c 0;thing t b 0 9;"
                + "paper p b 0 0 will give t c unless a;dies a 30;");
        CHECK.due("from the DAY of another one's death on", 30, alone.dayFor(1, 2, 0));
        WillDeposit later = CHECK.told("land 0 0;person a 0;person b 0;person c 0;thing t a 0 9;wed a b 40;wed a c 50;"
                + "dies b 44;");
        CHECK.due("HEIR from the DAY of the wedding on", 50, later.dayFor(0, 2, 0));
        CHECK.due("he dies himself", -2, later.dayFor(0, 1, 0));
        later.dies(1, -1);
        CHECK.due("HEIR between two weddings", 40, later.dayFor(0, 1, 0));
        CHECK.due("HOLDERS ahead of both", CROWN, later.wouldDie(0, 39, 0));
        CHECK.due("HOLDERS on the DAY of the first one", 0b10, later.wouldDie(0, 40, 0));
        CHECK.due("HOLDERS on the DAY of the second one", 0b100, later.wouldDie(0, 50, 0));
        later.wed(0, 1, 9999);
        CHECK.due("a wedding of the last DAY", 0b10, later.wouldDie(0, 9999, 0));
        WillDeposit broken = CHECK.told("land 0 0 wed;person a 0;person b 0;person c 0;thing t a 0 9;wed a b 40;"
                + "paper p a 20 0 will give t c;");
        CHECK.due("a wedding of the DAY of death doesn't BREAK", 0b100, broken.wouldDie(0, 40, 0));
        CHECK.due("one ahead of it does", 41, broken.dayFor(0, 1, 0));
    }

    private static void nothingIsChanged() {
        WillDeposit deposit = CHECK.told(TEXT + "lost gone 2;");
        deposit.dies(3, 50);
        String before = picture(deposit);
        deposit.gain(1, 1);
        deposit.against(1, 0);
        deposit.key(0);
        deposit.wouldPaper(0, 0, 0);
        deposit.wouldPaper(2, 1, 0);
        deposit.wouldPaper(1, 2, 0);
        deposit.wouldDie(0, -1, 0);
        deposit.wouldDie(3, 7, 0);
        deposit.wouldDie(4, 7, 0);
        deposit.dayFor(0, 4, 0);
        deposit.dayFor(1, 4, 0);
        CHECK.due("all as it was", true, before.equals(picture(deposit)));
        CHECK.due("count(7)", 1, deposit.count(7));
        CHECK.due("undo()", 0, deposit.undo());
    }

    private static String picture(WillDeposit deposit) {
        StringBuilder picture = new StringBuilder();
        for (int what = 0; what < 10; what++) {
            picture.append(' ').append(deposit.count(what));
            for (int p = 0; p < 6; p++) {
                picture.append(' ').append(Check.person(deposit, p, what)).append(' ').append(Check.paper(deposit, p, what))
                        .append(' ').append(deposit.why(p, what)).append(' ').append(deposit.holders(p, 10 * what));
            }
        }
        return picture.toString();
    }
}
