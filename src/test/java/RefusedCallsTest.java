/** Promises 2, 3 and 9 to 16: each call that is refused, by each reason for it, with all as it was ahead of it; and
 *  section 3: ACTS by which nothing is other are none, and push no eldest one out. */
final class RefusedCallsTest {
    private static final Check CHECK = new Check("RefusedCallsTest");
    private static final int MIN = Integer.MIN_VALUE;
    private static final int MAX = Integer.MAX_VALUE;

    /** 0 a, 1 b, 2 c, 3 d, 4 e, 5 f; PAPER 0 p has 4 WITNESSES and isn't LOST, 1 q is LOST with 3 COPIES, 2 r with none
     *  and taken back; there are 6 weddings; f dies never. */
    private static final String TEXT = "land 0 1 own copies;" + Texts.persons(6) + "child c a;"
            + "thing t a 0 100;thing u b 1 7;wed a b 1;wed c d 2;wed a b 3;wed c d 4;wed e f 5;"
            + "paper p a 5 0 will witness b witness c witness d witness e give t f if b or d;"
            + "paper q b 6 0 adds own witness a give u e;paper r a 7 0 adds own give t e;"
            + "lost q 3;lost r 0;dies a 30;dies b 40;";

    /** One refused call on a deposit, with the answer that is due. */
    private interface Call {
        long on(WillDeposit deposit);
    }

    public static void main(String[] args) {
        notLost();
        notFound();
        noCopies();
        noWitnesses();
        noWeddings();
        noDeaths();
        notTakenBack();
        nothingToUndo();
        noFeed();
        noText();
        faultsOfEachKind();
        askedBeyond();
        CHECK.end();
    }

    private static WillDeposit deposit() {
        WillDeposit deposit = CHECK.told(TEXT);
        CHECK.due("the sixth WEDDING", 6, deposit.wed(0, 5, 6));
        CHECK.due("takeBack(2)", true, deposit.takeBack(2));
        return deposit;
    }

    private static void refused(String name, long due, Call call) {
        WillDeposit deposit = deposit();
        String before = Picture.of(deposit);
        CHECK.due(name, due, call.on(deposit));
        CHECK.due("all as it was behind " + name, true, before.equals(Picture.of(deposit)));
        CHECK.due("the latest ACT is the same behind " + name, 1, deposit.undo());
        CHECK.due("it is undone behind " + name, 0, Check.paper(deposit, 2, 9));
        CHECK.due("so is the one ahead of it behind " + name, 0, deposit.undo());
        CHECK.due("WEDDINGS behind " + name, 5, deposit.count(4));
        keepsSixteen(name, due, call);
    }

    /** The call again with sixteen ACTS that can be undone: all of them still can be. */
    private static void keepsSixteen(String name, long due, Call call) {
        WillDeposit deposit = deposit();
        for (int day = 50; day < 64; day++) {
            deposit.dies(2, day);
        }
        CHECK.due("sixteen ACTS", 16, deposit.count(7));
        CHECK.due(name + " behind sixteen ACTS", due, call.on(deposit));
        CHECK.due("sixteen ACTS behind " + name, 16, deposit.count(7));
        for (int k = 15; k >= 0; k--) {
            CHECK.due("undo", k, deposit.undo());
        }
        CHECK.due("the eldest is undone, too, behind " + name, 5, deposit.count(4));
        CHECK.due("there is none behind " + name, -1, deposit.undo());
    }

    private static long bit(boolean yes) {
        return yes ? 1 : 0;
    }

    private static void notLost() {
        refused("lose(-1, 0)", 0, d -> bit(d.lose(-1, 0)));
        refused("lose(3, 0)", 0, d -> bit(d.lose(3, 0)));
        refused("lose(12, 0)", 0, d -> bit(d.lose(12, 0)));
        refused("lose(min, 0)", 0, d -> bit(d.lose(MIN, 0)));
        refused("lose(max, 0)", 0, d -> bit(d.lose(MAX, 0)));
        refused("lose(0, -1)", 0, d -> bit(d.lose(0, -1)));
        refused("lose(0, -2)", 0, d -> bit(d.lose(0, -2)));
        refused("lose(0, 4)", 0, d -> bit(d.lose(0, 4)));
        refused("lose(0, min)", 0, d -> bit(d.lose(0, MIN)));
        refused("lose(0, max)", 0, d -> bit(d.lose(0, MAX)));
        refused("lose(1, 3): so it is", 0, d -> bit(d.lose(1, 3)));
        refused("lose(2, 0): so it is", 0, d -> bit(d.lose(2, 0)));
        refused("lose(1, 4)", 0, d -> bit(d.lose(1, 4)));
        refused("lose(1, -1): that is not found", 0, d -> bit(d.lose(1, -1)));
    }

    private static void notFound() {
        refused("find(-1)", 0, d -> bit(d.find(-1)));
        refused("find(3)", 0, d -> bit(d.find(3)));
        refused("find(min)", 0, d -> bit(d.find(MIN)));
        refused("find(max)", 0, d -> bit(d.find(MAX)));
        refused("find(0): it isn't LOST", 0, d -> bit(d.find(0)));
    }

    private static void noCopies() {
        refused("copy(-1)", -1, d -> d.copy(-1));
        refused("copy(3)", -1, d -> d.copy(3));
        refused("copy(min)", -1, d -> d.copy(MIN));
        refused("copy(max)", -1, d -> d.copy(MAX));
        refused("copy(0): it isn't LOST", -2, d -> d.copy(0));
        refused("copy(1): there are 3", -2, d -> d.copy(1));
    }

    private static void noWitnesses() {
        refused("witness(-1, 2)", -1, d -> d.witness(-1, 2));
        refused("witness(3, 2)", -1, d -> d.witness(3, 2));
        refused("witness(max, 2)", -1, d -> d.witness(MAX, 2));
        refused("witness(1, -1)", -1, d -> d.witness(1, -1));
        refused("witness(1, 6)", -1, d -> d.witness(1, 6));
        refused("witness(1, 32)", -1, d -> d.witness(1, 32));
        refused("witness(1, min)", -1, d -> d.witness(1, MIN));
        refused("witness(0, 5): there are 4", -2, d -> d.witness(0, 5));
        refused("witness(0, 4): there are 4, he is one", -2, d -> d.witness(0, 4));
        refused("witness(0, 0): there are 4, the MAKER", -2, d -> d.witness(0, 0));
        refused("witness(1, 0): he is one", -2, d -> d.witness(1, 0));
        refused("witness(1, 1): the MAKER", -2, d -> d.witness(1, 1));
        refused("witness(0, 6): NONE ahead of -2", -1, d -> d.witness(0, 6));
        refused("witness(-1, 0)", -1, d -> d.witness(-1, 0));
    }

    private static void noWeddings() {
        refused("wed(2, 3, 9): there are 6", -2, d -> d.wed(2, 3, 9));
        refused("wed(0, 1, 0): there are 6", -2, d -> d.wed(0, 1, 0));
        refused("wed(2, 2, 9): NONE ahead of -2", -1, d -> d.wed(2, 2, 9));
        refused("wed(6, 2, 9)", -1, d -> d.wed(6, 2, 9));
        refused("wed(2, 6, 9)", -1, d -> d.wed(2, 6, 9));
        refused("wed(-1, 2, 9)", -1, d -> d.wed(-1, 2, 9));
        refused("wed(2, -1, 9)", -1, d -> d.wed(2, -1, 9));
        refused("wed(2, 3, -1)", -1, d -> d.wed(2, 3, -1));
        refused("wed(2, 3, 10000)", -1, d -> d.wed(2, 3, 10000));
        refused("wed(2, 3, max)", -1, d -> d.wed(2, 3, MAX));
        WillDeposit five = CHECK.told(TEXT);
        String before = Picture.of(five);
        int[][] strays = {{2, 2, 9}, {6, 2, 9}, {2, 6, 9}, {-1, 2, 9}, {2, -1, 9}, {2, 3, -1}, {2, 3, 10000}, {MAX, MAX, 9},
            {2, 3, MIN}};
        for (int[] s : strays) {
            CHECK.due("wed(" + s[0] + ", " + s[1] + ", " + s[2] + ")", -1, five.wed(s[0], s[1], s[2]));
        }
        CHECK.due("all as it was", true, before.equals(Picture.of(five)));
    }

    private static void noDeaths() {
        refused("dies(-1, 5)", 0, d -> bit(d.dies(-1, 5)));
        refused("dies(6, 5)", 0, d -> bit(d.dies(6, 5)));
        refused("dies(10, 5)", 0, d -> bit(d.dies(10, 5)));
        refused("dies(min, -1)", 0, d -> bit(d.dies(MIN, -1)));
        refused("dies(0, -2)", 0, d -> bit(d.dies(0, -2)));
        refused("dies(0, 10000)", 0, d -> bit(d.dies(0, 10000)));
        refused("dies(0, min)", 0, d -> bit(d.dies(0, MIN)));
        refused("dies(0, max)", 0, d -> bit(d.dies(0, MAX)));
        refused("dies(0, 30): so it is", 0, d -> bit(d.dies(0, 30)));
        refused("dies(1, 40): so it is", 0, d -> bit(d.dies(1, 40)));
        refused("dies(5, NONE): so it is", 0, d -> bit(d.dies(5, -1)));
        refused("dies(5, -2)", 0, d -> bit(d.dies(5, -2)));
    }

    private static void notTakenBack() {
        refused("takeBack(-1)", 0, d -> bit(d.takeBack(-1)));
        refused("takeBack(3)", 0, d -> bit(d.takeBack(3)));
        refused("takeBack(min)", 0, d -> bit(d.takeBack(MIN)));
        refused("takeBack(max)", 0, d -> bit(d.takeBack(MAX)));
        refused("takeBack(2): it was", 0, d -> bit(d.takeBack(2)));
    }

    private static void nothingToUndo() {
        WillDeposit deposit = CHECK.told(TEXT);
        String before = Picture.of(deposit);
        CHECK.due("undo with nothing", -1, deposit.undo());
        CHECK.due("undo again", -1, deposit.undo());
        CHECK.due("all as it was", true, before.equals(Picture.of(deposit)));
        deposit.lose(0, 0);
        CHECK.due("undo the only one", 0, deposit.undo());
        CHECK.due("all as it was again", true, before.equals(Picture.of(deposit)));
        CHECK.due("undo none", -1, deposit.undo());
        CHECK.due("still all as it was", true, before.equals(Picture.of(deposit)));
    }

    private static void noFeed() {
        WillDeposit deposit = deposit();
        for (int k = 0; k < 60; k++) {
            deposit.feed(0x20202020, 0x20202020, 0x20202020, 0x20202020, 0x20202020);
        }
        String before = Picture.of(deposit);
        CHECK.due("feed on 1200", -1, deposit.feed(0x3b3b3b3b, 0, 0, 0, 0));
        CHECK.due("all as it was", true, before.equals(Picture.of(deposit)));
        CHECK.due("none of them came", 0, deposit.text(1200));
    }

    private static void noText() {
        for (int n : new int[] {-1, MIN, 21, 40, 1200, 1201, MAX}) {
            WillDeposit deposit = deposit();
            CHECK.due("a FAULT ahead", -1, Check.readOver(deposit, "land 0 2 own $"));
            deposit.feed(0x6c616e64, 0x20302034, 0x3b202020, 0x20202020, 0x20202020);
            String before = Picture.of(deposit);
            CHECK.due("text(" + n + ")", -2, deposit.text(n));
            CHECK.due("all as it was, the TAPE and the FAULT, too", true, before.equals(Picture.of(deposit)));
            CHECK.due("FAULT of the latest text that was not -2", 1, deposit.fault(0));
            CHECK.due("its place", 13, deposit.fault(1));
            CHECK.due("ACTS", 2, deposit.count(7));
            CHECK.due("the TAPE is as it was", 1, deposit.text(20));
            CHECK.due("no FAULT", 0, deposit.fault(0));
            CHECK.due("no place", -1, deposit.fault(1));
            CHECK.due("WITNESSES", 4, deposit.land(0, 0));
        }
    }

    /** Texts with FAULTS that come late, so that much of them could have been taken in ahead. */
    private static void faultsOfEachKind() {
        String good = "land 0 4 wed half;land 1 0 own;person x 1;person y 1;person z 1;child z x;wed x y 3;"
                + "thing v x 1 9;paper w x 2 1 strikes own rest y;lost w 1;dies z 8;";
        faultLeaves(good + "$", 1, good.length());
        faultLeaves(good + "dies x 9", 1, good.length() + 8);
        faultLeaves(good + "dies v 9;", 1, good.length() + 5);
        faultLeaves(good + "dies x 10000;", 2, good.length() + 7);
        faultLeaves(good + "thing o x 0 0;", 2, good.length() + 12);
        faultLeaves(good + "dies z 8;", 3, good.length() + 5);
        faultLeaves(good + "land 0 4;", 3, good.length() + 5);
        faultLeaves(good + "paper o y 2 1 will give v x or x;", 3, good.length() + 31);
    }

    private static void faultLeaves(String text, int number, int place) {
        WillDeposit deposit = deposit();
        String fault = "fault 0;place -1;";
        String before = Picture.of(deposit);
        CHECK.due("no FAULT yet", true, before.contains(fault));
        CHECK.due("text with a FAULT", -1, Check.readOver(deposit, text));
        CHECK.due("fault(0) of " + text, number, deposit.fault(0));
        CHECK.due("fault(1) of " + text, place, deposit.fault(1));
        String due = before.replace(fault, "fault " + number + ";place " + place + ";");
        CHECK.due("all else stays, the TAPE is empty", due, Picture.of(deposit));
        CHECK.due("undo behind it", 1, deposit.undo());
        CHECK.due("undone", 0, Check.paper(deposit, 2, 9));
        // a TEXT without a FAULT behind it: all anew, nothing to undo
        CHECK.due("the good part of it", 11, Check.readOver(deposit, text.substring(0, text.indexOf("dies z 8;") + 9)));
        CHECK.due("fault(0)", 0, deposit.fault(0));
        CHECK.due("fault(1)", -1, deposit.fault(1));
        CHECK.due("undo", -1, deposit.undo());
        CHECK.due("PERSONS", 3, deposit.count(1));
    }

    /** Questions about ones that aren't there, or that have more answers than one, change nothing either. */
    private static void askedBeyond() {
        refused("person(6, 0)", Check.INDEX, d -> Check.person(d, 6, 0));
        refused("person(0, 5)", Check.ELEMENT, d -> Check.person(d, 0, 5));
        refused("paper(3, 0)", Check.INDEX, d -> Check.paper(d, 3, 0));
        refused("paper(0, 10)", Check.ELEMENT, d -> Check.paper(d, 0, 10));
        refused("wouldPaper(1, 1, 1)", 0b10000, d -> d.wouldPaper(1, 1, 1));
        refused("wouldPaper(1, 0, 1): the CROWN takes", 1024, d -> d.wouldPaper(1, 0, 1));
        refused("wouldPaper(3, 0, 0)", -1, d -> d.wouldPaper(3, 0, 0));
        refused("wouldDie(1, -1, 1)", 0b10, d -> d.wouldDie(1, -1, 1));
        refused("wouldDie(1, -2, 1)", -1, d -> d.wouldDie(1, -2, 1));
        refused("dayFor(1, 4, 1)", 7, d -> d.dayFor(1, 4, 1));
        refused("gain(4, 1)", 700, d -> d.gain(4, 1));
        refused("gain(6, 1)", -1000000, d -> d.gain(6, 1));
        refused("has(0, 0, 10000, 0)", -1, d -> d.has(0, 0, 10000, 0));
    }
}
