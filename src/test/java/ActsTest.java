/** Promises 9 to 16: lose, find, copy, witness, wed, dies, takeBack, undo. */
final class ActsTest {
    private static final Check CHECK = new Check("ActsTest");
    private static final int MIN = Integer.MIN_VALUE;
    private static final int MAX = Integer.MAX_VALUE;

    private static final String TEXT = "person a 0;person b 0;person c 0;person d 0;person e 0;person f 0;wed a b 4;"
            + "paper p a 5 0 will witness b;paper q b 6 0 adds;lost q 2;dies a 9;";

    public static void main(String[] args) {
        losing();
        finding();
        copying();
        witnessing();
        wedding();
        dying();
        takingBack();
        undoing();
        sixteenCanBeUndone();
        eachUndone();
        CHECK.end();
    }

    private static void losing() {
        WillDeposit deposit = CHECK.told(TEXT);
        CHECK.due("lose(0, 0)", true, deposit.lose(0, 0));
        CHECK.due("COPIES", 0, Check.paper(deposit, 0, 8));
        CHECK.due("lose(0, 0) again", false, deposit.lose(0, 0));
        CHECK.due("lose(0, 3)", true, deposit.lose(0, 3));
        CHECK.due("COPIES", 3, Check.paper(deposit, 0, 8));
        CHECK.due("lose(1, 2) as told", false, deposit.lose(1, 2));
        CHECK.due("lose(1, 1)", true, deposit.lose(1, 1));
        for (int copies : new int[] {-1, -2, 4, MIN, MAX}) {
            CHECK.due("lose(0, " + copies + ")", false, deposit.lose(0, copies));
        }
        for (int paper : new int[] {-1, 2, MIN, MAX}) {
            CHECK.due("lose(" + paper + ", 0)", false, deposit.lose(paper, 0));
        }
        CHECK.due("count(7)", 3, deposit.count(7));
    }

    private static void finding() {
        WillDeposit deposit = CHECK.told(TEXT);
        CHECK.due("find(0)", false, deposit.find(0));
        CHECK.due("find(1)", true, deposit.find(1));
        CHECK.due("COPIES", -2, Check.paper(deposit, 1, 8));
        CHECK.due("find(1) again", false, deposit.find(1));
        for (int paper : new int[] {-1, 2, MIN, MAX}) {
            CHECK.due("find(" + paper + ")", false, deposit.find(paper));
        }
        CHECK.due("count(7)", 1, deposit.count(7));
    }

    private static void copying() {
        WillDeposit deposit = CHECK.told(TEXT);
        CHECK.due("copy(0): not LOST", -2, deposit.copy(0));
        CHECK.due("copy(1)", 3, deposit.copy(1));
        CHECK.due("copy(1): there are 3", -2, deposit.copy(1));
        CHECK.due("COPIES", 3, Check.paper(deposit, 1, 8));
        deposit.lose(0, 0);
        CHECK.due("copy(0)", 1, deposit.copy(0));
        CHECK.due("copy(0)", 2, deposit.copy(0));
        for (int paper : new int[] {-1, 2, MIN, MAX}) {
            CHECK.due("copy(" + paper + ")", -1, deposit.copy(paper));
        }
        CHECK.due("count(7)", 4, deposit.count(7));
    }

    private static void witnessing() {
        WillDeposit deposit = CHECK.told(TEXT);
        CHECK.due("witness(0, 1): he is one", -2, deposit.witness(0, 1));
        CHECK.due("witness(0, 0): the MAKER", -2, deposit.witness(0, 0));
        CHECK.due("witness(0, 2)", 2, deposit.witness(0, 2));
        CHECK.due("witness(0, 3)", 3, deposit.witness(0, 3));
        CHECK.due("witness(0, 4)", 4, deposit.witness(0, 4));
        CHECK.due("witness(0, 5): there are 4", -2, deposit.witness(0, 5));
        CHECK.due("WITNESSES", 0b11110, Check.paper(deposit, 0, 5));
        CHECK.due("witness(1, 0)", 1, deposit.witness(1, 0));
        for (int stray : new int[] {-1, 6, 10, 33, MIN, MAX}) {
            CHECK.due("witness(" + stray + ", 2)", -1, deposit.witness(stray, 2));
            CHECK.due("witness(0, " + stray + "): NONE ahead of -2", -1, deposit.witness(0, stray));
        }
        CHECK.due("count(7)", 4, deposit.count(7));
    }

    private static void wedding() {
        WillDeposit deposit = CHECK.told(TEXT);
        for (int stray : new int[] {-1, 6, MIN, MAX}) {
            CHECK.due("wed(" + stray + ", 0, 5)", -1, deposit.wed(stray, 0, 5));
            CHECK.due("wed(0, " + stray + ", 5)", -1, deposit.wed(0, stray, 5));
        }
        for (int day : new int[] {-1, 10000, MIN, MAX}) {
            CHECK.due("wed(0, 1, " + day + ")", -1, deposit.wed(0, 1, day));
        }
        CHECK.due("wed(2, 2, 5)", -1, deposit.wed(2, 2, 5));
        CHECK.due("wed(0, 1, 0)", 2, deposit.wed(0, 1, 0));
        CHECK.due("wed(0, 1, 0) again", 3, deposit.wed(0, 1, 0));
        CHECK.due("wed(2, 0, 9999)", 4, deposit.wed(2, 0, 9999));
        CHECK.due("wed(4, 3, 5)", 5, deposit.wed(4, 3, 5));
        CHECK.due("wed(4, 5, 5)", 6, deposit.wed(4, 5, 5));
        CHECK.due("wed(4, 5, 5): there are 6", -2, deposit.wed(4, 5, 5));
        CHECK.due("wed(4, 4, 5): NONE ahead of -2", -1, deposit.wed(4, 4, 5));
        CHECK.due("to whom 0 is WED last", 2, Check.person(deposit, 0, 4));
        CHECK.due("to whom 4 is WED last", 5, Check.person(deposit, 4, 4));
        CHECK.due("count(4)", 6, deposit.count(4));
        CHECK.due("count(7)", 5, deposit.count(7));
    }

    private static void dying() {
        WillDeposit deposit = CHECK.told(TEXT);
        CHECK.due("dies(0, 9) as told", false, deposit.dies(0, 9));
        CHECK.due("dies(0, 8)", true, deposit.dies(0, 8));
        CHECK.due("DAY", 8, Check.person(deposit, 0, 1));
        CHECK.due("dies(0, NONE)", true, deposit.dies(0, -1));
        CHECK.due("never", -2, Check.person(deposit, 0, 1));
        CHECK.due("dies(0, NONE) again", false, deposit.dies(0, -1));
        CHECK.due("dies(1, NONE)", false, deposit.dies(1, -1));
        CHECK.due("dies(1, 0)", true, deposit.dies(1, 0));
        CHECK.due("dies(2, 9999)", true, deposit.dies(2, 9999));
        for (int day : new int[] {-2, 10000, MIN, MAX}) {
            CHECK.due("dies(1, " + day + ")", false, deposit.dies(1, day));
        }
        for (int stray : new int[] {-1, 6, MIN, MAX}) {
            CHECK.due("dies(" + stray + ", 5)", false, deposit.dies(stray, 5));
        }
        CHECK.due("count(6)", 2, deposit.count(6));
        CHECK.due("count(7)", 4, deposit.count(7));
    }

    private static void takingBack() {
        WillDeposit deposit = CHECK.told(TEXT);
        CHECK.due("takeBack(0)", true, deposit.takeBack(0));
        CHECK.due("takeBack(0) again", false, deposit.takeBack(0));
        CHECK.due("paper(0, 9)", 1, Check.paper(deposit, 0, 9));
        CHECK.due("paper(1, 9)", 0, Check.paper(deposit, 1, 9));
        CHECK.due("what is asked of itself is as told", 0b10, Check.paper(deposit, 0, 5));
        for (int paper : new int[] {-1, 2, MIN, MAX}) {
            CHECK.due("takeBack(" + paper + ")", false, deposit.takeBack(paper));
        }
        CHECK.due("count(7)", 1, deposit.count(7));
    }

    private static void undoing() {
        WillDeposit deposit = CHECK.told(TEXT);
        CHECK.due("undo(): nothing yet", -1, deposit.undo());
        deposit.lose(0, 1);
        deposit.dies(0, 3);
        CHECK.due("undo()", 1, deposit.undo());
        CHECK.due("the latest first", 9, Check.person(deposit, 0, 1));
        CHECK.due("the other one stands", 1, Check.paper(deposit, 0, 8));
        deposit.takeBack(0);
        CHECK.due("undo()", 1, deposit.undo());
        CHECK.due("undo()", 0, deposit.undo());
        CHECK.due("not LOST", -2, Check.paper(deposit, 0, 8));
        CHECK.due("undo(): none left", -1, deposit.undo());
        deposit.dies(0, 3);
        Check.readOver(deposit, "x");
        CHECK.due("a text with a FAULT forgets nothing", 1, deposit.count(7));
        Check.readOver(deposit, "");
        CHECK.due("a text forgets all", 0, deposit.count(7));
        CHECK.due("undo() behind a text", -1, deposit.undo());
    }

    private static void sixteenCanBeUndone() {
        WillDeposit deposit = CHECK.told(TEXT);
        for (int day = 100; day < 120; day++) {
            deposit.dies(1, day);
            CHECK.due("count(7)", Math.min(16, day - 99), deposit.count(7));
        }
        for (int k = 15; k >= 0; k--) {
            CHECK.due("undo()", k, deposit.undo());
            CHECK.due("DAY", 103 + k, Check.person(deposit, 1, 1));
        }
        CHECK.due("the eldest are forgotten", -1, deposit.undo());
        CHECK.due("DAY", 103, Check.person(deposit, 1, 1));
    }

    private static void eachUndone() {
        WillDeposit deposit = CHECK.told(TEXT);
        String before = picture(deposit);
        deposit.lose(0, 1);
        deposit.lose(1, 0);
        deposit.copy(0);
        deposit.find(1);
        deposit.witness(0, 4);
        deposit.witness(1, 5);
        deposit.wed(0, 5, 6);
        deposit.wed(1, 5, 7);
        deposit.dies(0, -1);
        deposit.dies(1, 7);
        deposit.takeBack(1);
        for (int k = 10; k >= 0; k--) {
            CHECK.due("undo()", k, deposit.undo());
        }
        CHECK.due("all as it was", true, before.equals(picture(deposit)));
    }

    private static String picture(WillDeposit deposit) {
        StringBuilder picture = new StringBuilder();
        for (int what = 0; what < 10; what++) {
            picture.append(' ').append(deposit.count(what == 7 ? 0 : what));
            for (int p = 0; p < 6; p++) {
                picture.append(' ').append(Check.person(deposit, p, what)).append(' ').append(Check.paper(deposit, p, what));
            }
        }
        return picture.toString();
    }
}
