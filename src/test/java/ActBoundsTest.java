/** Promises 9 to 16 and section 3: each ACT with the least and the most that it may tell, one more and one fewer, and
 *  what can be undone with no ACT, one, fifteen, sixteen, seventeen and many. */
final class ActBoundsTest {
    private static final Check CHECK = new Check("ActBoundsTest");
    private static final int NEVER = -1;

    private static final String TEXT = Texts.persons(8) + Texts.things(1) + "paper p a 5 0 adds;paper q b 6 0 will witness a;lost q 1;"
            + "wed a b 3;dies a 9;";

    public static void main(String[] args) {
        copiesOfALostOne();
        oneCopyMore();
        oneWitnessMore();
        oneWeddingMore();
        deathsToldAnew();
        takenBackOnce();
        undoneBySoMany();
        eachKindIsTheEldest();
        undoneAndDoneAgain();
        undoneLatestFirst();
        undoAcrossTexts();
        CHECK.end();
    }

    private static void copiesOfALostOne() {
        for (int first = 0; first <= 3; first++) {
            for (int second = 0; second <= 3; second++) {
                WillDeposit d = CHECK.told(TEXT);
                CHECK.due("lose(0, " + first + ")", true, d.lose(0, first));
                CHECK.due("COPIES", first, Check.paper(d, 0, 8));
                CHECK.due("LOST PAPERS", 2, d.count(5));
                CHECK.due("lose(0, " + second + ") behind " + first, first != second, d.lose(0, second));
                CHECK.due("COPIES", second, Check.paper(d, 0, 8));
                CHECK.due("ACTS", first != second ? 2 : 1, d.count(7));
                CHECK.due("undo", first != second ? 1 : 0, d.undo());
                CHECK.due("COPIES undone", first != second ? first : -2, Check.paper(d, 0, 8));
            }
            WillDeposit d = CHECK.told(TEXT);
            CHECK.due("lose(1, " + first + "), told with 1", first != 1, d.lose(1, first));
            CHECK.due("find(1)", true, d.find(1));
            CHECK.due("it isn't LOST", -2, Check.paper(d, 1, 8));
            CHECK.due("LOST PAPERS", 0, d.count(5));
            CHECK.due("find(1) again", false, d.find(1));
            d.undo();
            CHECK.due("LOST again with as many", first, Check.paper(d, 1, 8));
        }
    }

    private static void oneCopyMore() {
        WillDeposit d = CHECK.told(TEXT);
        CHECK.due("copy(0): it isn't LOST", -2, d.copy(0));
        d.lose(0, 0);
        for (int copies = 1; copies <= 3; copies++) {
            CHECK.due("copy(0)", copies, d.copy(0));
            CHECK.due("COPIES", copies, Check.paper(d, 0, 8));
        }
        CHECK.due("copy(0): there are 3", -2, d.copy(0));
        CHECK.due("COPIES", 3, Check.paper(d, 0, 8));
        CHECK.due("ACTS", 4, d.count(7));
        CHECK.due("undo", 3, d.undo());
        CHECK.due("COPIES", 2, Check.paper(d, 0, 8));
        CHECK.due("copy(0) again", 3, d.copy(0));
        CHECK.due("copy(1)", 2, d.copy(1));
        CHECK.due("copy(2)", -1, d.copy(2));
        CHECK.due("copy(-1)", -1, d.copy(-1));
    }

    private static void oneWitnessMore() {
        WillDeposit d = CHECK.told(TEXT);
        int bits = 0;
        for (int w = 1; w <= 4; w++) {
            CHECK.due("witness(0, " + w + ")", w, d.witness(0, w));
            bits |= 1 << w;
            CHECK.due("WITNESSES", bits, Check.paper(d, 0, 5));
            CHECK.due("he is one", -2, d.witness(0, w));
            CHECK.due("the MAKER", -2, d.witness(0, 0));
        }
        CHECK.due("there are 4", -2, d.witness(0, 5));
        CHECK.due("undo", 3, d.undo());
        CHECK.due("three WITNESSES", 0b01110, Check.paper(d, 0, 5));
        CHECK.due("another fourth", 4, d.witness(0, 7));
        CHECK.due("WITNESSES", 0b10001110, Check.paper(d, 0, 5));
        CHECK.due("told with one", 2, d.witness(1, 7));
        CHECK.due("he is one as told", -2, d.witness(1, 0));
        CHECK.due("witness(0, 8)", -1, d.witness(0, 8));
        CHECK.due("witness(2, 0)", -1, d.witness(2, 0));
        d.undo();
        d.undo();
        d.undo();
        d.undo();
        d.undo();
        CHECK.due("none left to undo", -1, d.undo());
        CHECK.due("WITNESSES as told", 0, Check.paper(d, 0, 5));
        CHECK.due("WITNESSES as told", 1, Check.paper(d, 1, 5));
    }

    private static void oneWeddingMore() {
        WillDeposit d = CHECK.told(TEXT);
        for (int many = 2; many <= 6; many++) {
            CHECK.due("wed", many, d.wed(many, 0, many % 2 == 0 ? 9999 : 0));
            CHECK.due("WEDDINGS", many, d.count(4));
        }
        CHECK.due("there are 6", -2, d.wed(2, 3, 5));
        CHECK.due("WED last", 6, Check.person(d, 0, 4));
        CHECK.due("undo", 4, d.undo());
        CHECK.due("five", 5, d.count(4));
        CHECK.due("WED last", 4, Check.person(d, 0, 4));
        CHECK.due("6 is not WED", -2, Check.person(d, 6, 4));
        CHECK.due("a sixth again", 6, d.wed(0, 7, 9999));
        CHECK.due("WED last", 7, Check.person(d, 0, 4));
        CHECK.due("wed on DAY 10000", -1, d.wed(0, 7, 10000));
        CHECK.due("wed on DAY -1", -1, d.wed(0, 7, -1));
    }

    private static void deathsToldAnew() {
        WillDeposit d = CHECK.told(TEXT);
        int[] days = {0, 9999, NEVER, 9, 10, NEVER, 0};
        for (int k = 0; k < days.length; k++) {
            CHECK.due("dies(0, " + days[k] + ")", true, d.dies(0, days[k]));
            CHECK.due("so it is", false, d.dies(0, days[k]));
            CHECK.due("DAY", days[k] == NEVER ? -2 : days[k], Check.person(d, 0, 1));
            CHECK.due("those who die", days[k] == NEVER ? 0 : 1, d.count(6));
            CHECK.due("ACTS", k + 1, d.count(7));
        }
        for (int k = days.length - 1; k >= 0; k--) {
            CHECK.due("undo", k, d.undo());
            int day = k == 0 ? 9 : days[k - 1];
            CHECK.due("DAY undone", day == NEVER ? -2 : day, Check.person(d, 0, 1));
        }
        CHECK.due("dies(1, NONE): so it is", false, d.dies(1, NEVER));
        CHECK.due("dies(1, -2)", false, d.dies(1, -2));
        CHECK.due("dies(1, 10000)", false, d.dies(1, 10000));
        CHECK.due("dies(7, 9999)", true, d.dies(7, 9999));
        CHECK.due("dies(8, 9999)", false, d.dies(8, 9999));
    }

    private static void takenBackOnce() {
        WillDeposit d = CHECK.told(TEXT);
        CHECK.due("takeBack(0)", true, d.takeBack(0));
        CHECK.due("it was", false, d.takeBack(0));
        CHECK.due("takeBack(1)", true, d.takeBack(1));
        CHECK.due("takeBack(2)", false, d.takeBack(2));
        CHECK.due("takeBack(-1)", false, d.takeBack(-1));
        CHECK.due("PAPERS", 2, d.count(3));
        CHECK.due("one LOST, taken back or not", 1, d.count(5));
        // an ACT on one that is taken back is one, too
        CHECK.due("lose(0, 2)", true, d.lose(0, 2));
        CHECK.due("copy(0)", 3, d.copy(0));
        CHECK.due("witness(0, 1)", 1, d.witness(0, 1));
        CHECK.due("find(0)", true, d.find(0));
        CHECK.due("ACTS", 6, d.count(7));
        for (int k = 5; k >= 2; k--) {
            d.undo();
        }
        CHECK.due("still taken back", 1, Check.paper(d, 0, 9));
        CHECK.due("undo", 1, d.undo());
        CHECK.due("1 is not", 0, Check.paper(d, 1, 9));
        CHECK.due("undo", 0, d.undo());
        CHECK.due("0 is not", 0, Check.paper(d, 0, 9));
        CHECK.due("takeBack(0) again", true, d.takeBack(0));
    }

    // ---- undo

    private static void undoneBySoMany() {
        for (int many : new int[] {0, 1, 2, 15, 16, 17, 18, 31, 32, 33, 100}) {
            WillDeposit d = CHECK.told(TEXT);
            for (int k = 0; k < many; k++) {
                d.dies(1, 100 + k);
            }
            int can = Math.min(many, 16);
            CHECK.due("ACTS that can be undone of " + many, can, d.count(7));
            for (int k = can - 1; k >= 0; k--) {
                CHECK.due("undo of " + many, k, d.undo());
                int left = many - can + k;
                CHECK.due("DAY with " + left + " left of " + many, left == 0 ? -2 : 99 + left, Check.person(d, 1, 1));
                CHECK.due("count(7)", k, d.count(7));
            }
            CHECK.due("there is none of " + many, -1, d.undo());
            CHECK.due("the eldest stand of " + many, many <= 16 ? -2 : 99 + many - 16, Check.person(d, 1, 1));
            CHECK.due("there is none again", -1, d.undo());
        }
    }

    private static void act(WillDeposit d, int kind) {
        switch (kind) {
            case 0: d.lose(0, 2); break;
            case 1: d.find(1); break;
            case 2: d.copy(1); break;
            case 3: d.witness(0, 7); break;
            case 4: d.wed(0, 7, 8); break;
            case 5: d.dies(0, 77); break;
            case 6: d.dies(0, NEVER); break;
            case 7: d.lose(1, 3); break;
            default: d.takeBack(1); break;
        }
    }

    /** Each kind of ACT with fifteen behind it, so that it can still be undone, and with sixteen, so that it can't. */
    private static void eachKindIsTheEldest() {
        for (int kind = 0; kind <= 8; kind++) {
            for (int behind = 15; behind <= 16; behind++) {
                WillDeposit d = CHECK.told(TEXT);
                String told = Picture.of(d);
                act(d, kind);
                CHECK.due("one ACT of kind " + kind, 1, d.count(7));
                String acted = Picture.of(d).replace("count 1;count 0;fault", "count 0;count 0;fault");
                CHECK.due("kind " + kind + " makes it other", false, told.equals(acted));
                for (int k = 0; k < behind; k++) {
                    d.dies(6, 50 + k);
                }
                CHECK.due("sixteen", 16, d.count(7));
                for (int k = 15; k >= 0; k--) {
                    d.undo();
                }
                CHECK.due("kind " + kind + " with " + behind + " behind it", behind == 15 ? told : acted, Picture.of(d));
            }
        }
    }

    private static void undoneAndDoneAgain() {
        WillDeposit d = CHECK.told(TEXT);
        for (int k = 0; k < 20; k++) {
            d.dies(1, 100 + k);
        }
        for (int k = 0; k < 10; k++) {
            d.undo();
        }
        CHECK.due("DAY", 109, Check.person(d, 1, 1));
        CHECK.due("six left", 6, d.count(7));
        for (int k = 0; k < 12; k++) {
            d.dies(1, 200 + k);
            CHECK.due("count(7)", Math.min(7 + k, 16), d.count(7));
        }
        for (int k = 15; k >= 4; k--) {
            CHECK.due("undo", k, d.undo());
            CHECK.due("DAY", k == 4 ? 109 : 195 + k, Check.person(d, 1, 1));
        }
        for (int k = 3; k >= 0; k--) {
            CHECK.due("undo", k, d.undo());
            CHECK.due("DAY", 105 + k, Check.person(d, 1, 1));
        }
        CHECK.due("there is none", -1, d.undo());
        CHECK.due("DAY", 105, Check.person(d, 1, 1));
    }

    private static void undoneLatestFirst() {
        WillDeposit d = CHECK.told(TEXT);
        d.lose(0, 1);
        d.copy(0);
        d.witness(0, 3);
        d.witness(0, 4);
        d.takeBack(0);
        d.find(0);
        CHECK.due("find undone", 5, d.undo());
        CHECK.due("COPIES", 2, Check.paper(d, 0, 8));
        CHECK.due("taken back", 1, Check.paper(d, 0, 9));
        CHECK.due("takeBack undone", 4, d.undo());
        CHECK.due("not taken back", 0, Check.paper(d, 0, 9));
        CHECK.due("WITNESSES", 0b11000, Check.paper(d, 0, 5));
        CHECK.due("witness undone", 3, d.undo());
        CHECK.due("WITNESSES", 0b01000, Check.paper(d, 0, 5));
        CHECK.due("witness undone", 2, d.undo());
        CHECK.due("WITNESSES", 0, Check.paper(d, 0, 5));
        CHECK.due("copy undone", 1, d.undo());
        CHECK.due("COPIES", 1, Check.paper(d, 0, 8));
        CHECK.due("lose undone", 0, d.undo());
        CHECK.due("not LOST", -2, Check.paper(d, 0, 8));
    }

    private static void undoAcrossTexts() {
        WillDeposit d = CHECK.told(TEXT);
        for (int k = 0; k < 20; k++) {
            d.dies(1, 100 + k);
        }
        CHECK.due("a TEXT with a FAULT", -1, Check.readOver(d, "land 0 5;"));
        CHECK.due("nothing is forgotten", 16, d.count(7));
        CHECK.due("text(-1)", -2, d.text(-1));
        CHECK.due("nothing is forgotten", 16, d.count(7));
        CHECK.due("undo", 15, d.undo());
        CHECK.due("DAY", 118, Check.person(d, 1, 1));
        CHECK.due("the same TEXT again", 14, Check.readOver(d, TEXT));
        CHECK.due("nothing to undo", 0, d.count(7));
        CHECK.due("undo", -1, d.undo());
        CHECK.due("as told", -2, Check.person(d, 1, 1));
        for (int k = 0; k < 17; k++) {
            d.dies(2, 300 + k);
        }
        for (int k = 15; k >= 0; k--) {
            CHECK.due("undo", k, d.undo());
            CHECK.due("DAY", 300 + k, Check.person(d, 2, 1));
        }
        CHECK.due("there is none", -1, d.undo());
    }
}
