/** Promises 24 to 27 and 35 to 37: has, holders, wealth, ever, death, moves, kin. */
final class WayTest {
    private static final Check CHECK = new Check("WayTest");
    private static final int MIN = Integer.MIN_VALUE;
    private static final int MAX = Integer.MAX_VALUE;
    private static final int CROWN = 1024;

    /** a 0 has the CHILDREN c 2, d 3, e 4, of whom e dies first; b 1 takes. */
    private static final String TEXT = "land 0 0 half;land 1 0;person a 0;person b 0;person c 0;person d 0;person e 0;"
            + "person f 0;child c a;child d a;child e a;"
            + "thing home a 0 100;thing boat a 1 999;thing ring a 0 1;thing cow f 1 7;"
            + "paper p a 5 0 will give home b give boat d give ring c;dies e 3;dies a 10;dies d 20;dies c 20;";

    public static void main(String[] args) {
        half();
        hasBounds();
        heirsAlike();
        wedOnTheDayOfDeath();
        untilTheCrown();
        partsOfTheCrown();
        likeDays();
        ownersDeadAtFirst();
        wealth();
        ever();
        deaths();
        moves();
        manyParts();
        kin();
        CHECK.end();
    }

    private static void hasDue(WillDeposit deposit, int person, int thing, int day, int above, int below) {
        String call = "has(" + person + ", " + thing + ", " + day + ", ";
        CHECK.due(call + "0)", above, deposit.has(person, thing, day, 0));
        CHECK.due(call + "1)", below, deposit.has(person, thing, day, 1));
    }

    private static void half() {
        WillDeposit deposit = CHECK.told(TEXT);
        hasDue(deposit, 0, 0, 0, 1, 1);
        hasDue(deposit, 0, 0, 9, 1, 1);
        hasDue(deposit, 0, 0, 10, 0, 1);
        hasDue(deposit, 1, 0, 10, 1, 2);
        hasDue(deposit, 2, 0, 10, 1, 4);
        hasDue(deposit, 3, 0, 10, 1, 4);
        hasDue(deposit, 4, 0, 10, 0, 1);
        hasDue(deposit, -1, 0, 10, 0, 1);
        hasDue(deposit, 3, 1, 10, 1, 1);
        hasDue(deposit, 2, 1, 10, 0, 1);
        hasDue(deposit, 2, 2, 10, 3, 4);
        hasDue(deposit, 3, 2, 10, 1, 4);
        CHECK.due("holders(0, 9)", 0b00001, deposit.holders(0, 9));
        CHECK.due("holders(0, 10)", 0b01110, deposit.holders(0, 10));
        CHECK.due("holders(1, 10)", 0b01000, deposit.holders(1, 10));
        CHECK.due("holders(2, 19)", 0b01100, deposit.holders(2, 19));
        CHECK.due("holders(0, 20)", 0b00010 | CROWN, deposit.holders(0, 20));
        CHECK.due("holders(2, 20)", CROWN, deposit.holders(2, 20));
        CHECK.due("holders(3, 9999)", 0b100000, deposit.holders(3, 9999));
        hasDue(deposit, -1, 0, 20, 1, 2);
        hasDue(deposit, -1, 2, 9999, 1, 1);
    }

    private static void hasBounds() {
        WillDeposit deposit = CHECK.told(TEXT);
        for (int stray : new int[] {-2, 6, 10, MIN, MAX}) {
            CHECK.due("has(stray, 0, 0, 0)", -1, deposit.has(stray, 0, 0, 0));
        }
        for (int stray : new int[] {-1, 4, 8, MIN, MAX}) {
            CHECK.due("has(0, stray, 0, 0)", -1, deposit.has(0, stray, 0, 0));
            CHECK.due("holders(stray, 0)", -1, deposit.holders(stray, 0));
            CHECK.due("moves(stray, 0)", -1, deposit.moves(stray, 0));
        }
        for (int day : new int[] {-1, 10000, MIN, MAX}) {
            CHECK.due("has(0, 0, day, 0)", -1, deposit.has(0, 0, day, 0));
            CHECK.due("holders(0, day)", -1, deposit.holders(0, day));
        }
        for (int part : new int[] {-1, 2, MIN, MAX}) {
            CHECK.due("has(0, 0, 0, part)", -1, deposit.has(0, 0, 0, part));
            CHECK.due("moves(0, part)", -1, deposit.moves(0, part));
        }
        CHECK.due("has(0, 0, 9999, 1)", 1, deposit.has(0, 0, 9999, 1));
    }

    private static void heirsAlike() {
        WillDeposit deposit = CHECK.told("land 0 0 half;person a 0;person b 0;person c 0;person d 0;child d a;child d b;"
                + "thing t d 0 1;wed d c 2;paper p a 0 0 will give t c;dies d 5;dies c 5;dies a 6;");
        hasDue(deposit, 0, 0, 5, 1, 2);
        hasDue(deposit, 1, 0, 5, 1, 2);
        CHECK.due("holders(0, 6)", 0b10 | CROWN, deposit.holders(0, 6));
        deposit.dies(2, 6);
        CHECK.due("holders(0, 5)", 0b100, deposit.holders(0, 5));
        hasDue(deposit, 2, 0, 5, 1, 1);
    }

    private static void wedOnTheDayOfDeath() {
        WillDeposit deposit = CHECK.told("land 0 0;person a 0;person b 0;person c 0;thing t a 0 9;wed a b 1;wed a c 5;"
                + "paper p a 0 0 adds give t b;dies a 5;");
        CHECK.due("gain(2, 0): without the PAPER he takes", -900, deposit.gain(2, 0));
        CHECK.due("against(2, 0)", 0, deposit.against(2, 0));
        deposit.takeBack(0);
        hasDue(deposit, 2, 0, 5, 1, 1);
        CHECK.due("holders(0, 5)", 0b100, deposit.holders(0, 5));
        CHECK.due("wealth(2)", 900, deposit.wealth(2));
        CHECK.due("ever(2)", 1, deposit.ever(2));
        CHECK.due("ever(1)", 0, deposit.ever(1));
        deposit.dies(0, 4);
        CHECK.due("holders(0, 4)", 0b10, deposit.holders(0, 4));
    }

    private static void untilTheCrown() {
        WillDeposit deposit = CHECK.told("person a 0;thing t a 0 9999;dies a 0;");
        hasDue(deposit, 0, 0, 0, 0, 1);
        hasDue(deposit, -1, 0, 0, 1, 1);
        CHECK.due("holders(0, 0)", CROWN, deposit.holders(0, 0));
        CHECK.due("wealth(NONE)", 999900, deposit.wealth(-1));
        CHECK.due("moves(0, 0)", 1, deposit.moves(0, 0));
        CHECK.due("moves(0, 1)", 0, deposit.moves(0, 1));
    }

    private static void partsOfTheCrown() {
        WillDeposit deposit = CHECK.told("person a 0;person b 0;person c 0;person d 0;person e 0;child b a;child c a;"
                + "child d c;child e c;thing t a 0 7;dies a 1;dies b 2;dies c 3;dies e 4;");
        hasDue(deposit, -1, 0, 1, 0, 1);
        // b has no CHILDREN, is not WED, and his PARENT is dead
        hasDue(deposit, -1, 0, 2, 1, 2);
        hasDue(deposit, -1, 0, 3, 1, 2);
        hasDue(deposit, 4, 0, 3, 1, 4);
        hasDue(deposit, -1, 0, 9999, 3, 4);
        hasDue(deposit, 2, 0, 9999, 0, 1);
        CHECK.due("wealth(NONE)", 525, deposit.wealth(-1));
        CHECK.due("wealth(3)", 175, deposit.wealth(3));
        CHECK.due("holders(0, 3)", CROWN | 0b11000, deposit.holders(0, 3));
    }

    private static void likeDays() {
        WillDeposit deposit = CHECK.told("land 0 0;person a 0;person b 0;person c 0;thing t a 0 5;thing u b 0 5;"
                + "paper p a 1 0 will rest b;paper q b 1 0 will rest a;paper r a 0 0 will rest c;dies a 5;dies b 5;");
        CHECK.due("who dies that DAY doesn't take", CROWN, deposit.holders(0, 5));
        CHECK.due("ever(1)", 0b10, deposit.ever(1));
        CHECK.due("death(0, 0)", 0, deposit.death(0, 0));
        CHECK.due("death(1, 0)", 1, deposit.death(1, 0));
        deposit.dies(1, 6);
        CHECK.due("he takes who dies later", 0b10, deposit.holders(0, 5));
        CHECK.due("and it goes on", CROWN, deposit.holders(0, 6));
        CHECK.due("ever(1)", 0b11, deposit.ever(1));
    }

    private static void ownersDeadAtFirst() {
        WillDeposit deposit = CHECK.told("person a 0;person b 0;child b a;thing t a 0 5;dies a 0;");
        CHECK.due("holders(0, 0)", 0b10, deposit.holders(0, 0));
        CHECK.due("ever(0): at first, too", 1, deposit.ever(0));
        CHECK.due("moves(0, 1)", 0, deposit.moves(0, 1));
    }

    private static void wealth() {
        WillDeposit deposit = CHECK.told(TEXT);
        CHECK.due("wealth(0)", 0, deposit.wealth(0));
        CHECK.due("wealth(1)", 5000, deposit.wealth(1));
        CHECK.due("wealth(5)", 700, deposit.wealth(5));
        CHECK.due("wealth(NONE)", 5000 + 99900 + 100, deposit.wealth(-1));
        for (int stray : new int[] {-2, 6, 10, MIN, MAX}) {
            CHECK.due("wealth(stray)", -2, deposit.wealth(stray));
        }
        WillDeposit thirds = CHECK.told("person a 0;person b 0;person c 0;person d 0;child b a;child c a;child d a;"
                + "thing t a 0 1;thing u a 0 1;thing v b 0 3;dies a 0;");
        CHECK.due("each cut: 33 and 33", 66, thirds.wealth(2));
        CHECK.due("33 and 33 and 300", 366, thirds.wealth(1));
    }

    private static void ever() {
        WillDeposit deposit = CHECK.told(TEXT);
        int[] dues = {0b0111, 0b0001, 0b0101, 0b0111, 0, 0b1000};
        for (int p = 0; p < dues.length; p++) {
            CHECK.due("ever(" + p + ")", dues[p], deposit.ever(p));
        }
        for (int stray : new int[] {-1, 6, 10, MIN, MAX}) {
            CHECK.due("ever(stray)", -1, deposit.ever(stray));
        }
    }

    private static void deaths() {
        WillDeposit deposit = CHECK.told(TEXT);
        int[][] dues = {{4, 3, 0}, {0, 10, 0b0111}, {2, 20, 0b0101}, {3, 20, 0b0111}};
        for (int k = 0; k < dues.length; k++) {
            for (int what = 0; what < 3; what++) {
                CHECK.due("death(" + k + ", " + what + ")", dues[k][what], deposit.death(k, what));
            }
        }
        CHECK.due("death(4, 0)", -2, deposit.death(4, 0));
        CHECK.due("death(max, 2)", -2, deposit.death(MAX, 2));
        CHECK.due("death(4, 3): NONE ahead of -2", -1, deposit.death(4, 3));
        CHECK.due("death(0, -1)", -1, deposit.death(0, -1));
        CHECK.due("death(-1, 0)", -1, deposit.death(-1, 0));
        CHECK.due("death(min, 0)", -1, deposit.death(MIN, 0));
    }

    private static void moves() {
        WillDeposit deposit = CHECK.told(TEXT);
        int[][] dues = {{3, 20}, {2, 20}, {3, 20}, {0, -2}};
        for (int t = 0; t < dues.length; t++) {
            CHECK.due("moves(" + t + ", 0)", dues[t][0], deposit.moves(t, 0));
            CHECK.due("moves(" + t + ", 1)", dues[t][1], deposit.moves(t, 1));
        }
        deposit.dies(3, -1);
        CHECK.due("moves(1, 1)", 10, deposit.moves(1, 1));
    }

    /** Ten persons, as many CHILDREN as can be, each dying on a DAY of his own. */
    private static void manyParts() {
        StringBuilder text = new StringBuilder("land 0 0 half;");
        for (int p = 0; p < 10; p++) {
            text.append("person ").append((char) ('a' + p)).append(" 0;");
        }
        for (int p = 1; p < 10; p++) {
            text.append("child ").append((char) ('a' + p)).append(' ').append((char) ('a' + Math.max(0, (p - 2) / 2))).append(';');
            if (p > 2) {
                text.append("child ").append((char) ('a' + p)).append(' ').append((char) ('a' + (p - 2) / 2 + 1)).append(';');
            }
        }
        text.append("thing t a 0 9999;");
        for (int p = 0; p < 9; p++) {
            text.append("paper p").append((char) ('a' + p)).append(' ').append((char) ('a' + p)).append(" 0 0 will rest j;");
            text.append("dies ").append((char) ('a' + p)).append(' ').append(10 + p).append(';');
        }
        WillDeposit deposit = CHECK.told(text.toString());
        Model model = ModelText.read(text.toString());
        for (int day = 9; day < 20; day++) {
            for (int p = 0; p < 10; p++) {
                Model.Fraction part = model.way(0, day).parts[p];
                hasDue(deposit, p, 0, day, part.above.intValueExact(), part.below.intValueExact());
            }
        }
    }

    private static void kin() {
        WillDeposit deposit = CHECK.told("person a 0;person b 0;person c 0;person d 0;person e 0;person f 0;person g 0;"
                + "child c a;child c b;child d b;child e c;child f d;wed a g 4;");
        int[][] dues = {{0, 0, 0}, {0, 2, 1}, {2, 0, 1}, {0, 1, 2}, {2, 3, 2}, {4, 5, 4}, {0, 5, 4}, {0, 3, 3}, {0, 6, -2},
            {6, 0, -2}, {6, 6, 0}, {5, 0, 4}};
        for (int[] due : dues) {
            CHECK.due("kin(" + due[0] + ", " + due[1] + ")", due[2], deposit.kin(due[0], due[1]));
        }
        for (int stray : new int[] {-1, 7, 10, 32, MIN, MAX}) {
            CHECK.due("kin(stray, 0)", -1, deposit.kin(stray, 0));
            CHECK.due("kin(0, stray)", -1, deposit.kin(0, stray));
            CHECK.due("kin(stray, stray)", -1, deposit.kin(stray, stray));
        }
        WillDeposit chain = CHECK.told("person a 0;person b 0;person c 0;person d 0;person e 0;person f 0;person g 0;"
                + "person h 0;person i 0;person j 0;child b a;child c b;child d c;child e d;child f e;child g f;child h g;"
                + "child i h;child j i;");
        CHECK.due("kin(0, 9)", 9, chain.kin(0, 9));
        CHECK.due("kin(9, 0)", 9, chain.kin(9, 0));
    }
}
