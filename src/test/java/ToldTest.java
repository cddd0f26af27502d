/** Promises 5 to 8, 40 and 41: person, paper, thing, land, give, count. */
final class ToldTest {
    private static final Check CHECK = new Check("ToldTest");

    private static final String TEXT = "land 0 3 own copies;land 1 0 wed half;"
            + "person ann 0;person bob 1;person cat 1;person dan 0;child cat bob;child cat ann;child dan ann;"
            + "wed ann bob 7;wed cat ann 7;wed bob ann 6;wed dan cat 9999;"
            + "thing home bob 1 9999;thing boat cat 0 1;"
            + "paper old ann 0 1 strikes;"
            + "paper new ann 9999 0 adds own witness dan witness bob give boat cat unless dan "
            + "give home bob give home cat if ann or dan give boat dan or bob rest ann strike old;"
            + "paper his bob 5 1 will rest cat;lost new 3;lost his 0;dies cat 0;dies bob 9999;";

    public static void main(String[] args) {
        WillDeposit deposit = CHECK.told(TEXT);
        persons(deposit);
        papers(deposit);
        things(deposit);
        lands(deposit);
        gives(deposit);
        counts(deposit);
        countsBehindActs();
        wedLast();
        CHECK.end();
    }

    private static void persons(WillDeposit deposit) {
        long[][] dues = {
            {0, -2, 0b1100, 0, 2},
            {1, 9999, 0b0100, 0, 0},
            {1, 0, 0, 0b0011, 3},
            {0, -2, 0, 0b0001, 2},
        };
        for (int p = 0; p < dues.length; p++) {
            for (int what = 0; what < dues[p].length; what++) {
                CHECK.due("person(" + p + ", " + what + ")", dues[p][what], Check.person(deposit, p, what));
            }
        }
        for (int p : new int[] {-1, 4, 10, Integer.MIN_VALUE, Integer.MAX_VALUE}) {
            CHECK.due("person(" + p + ", 0)", Check.INDEX, Check.person(deposit, p, 0));
            CHECK.due("person(" + p + ", 9)", Check.INDEX, Check.person(deposit, p, 9));
        }
        for (int what : new int[] {-1, 5, Integer.MIN_VALUE, Integer.MAX_VALUE}) {
            CHECK.due("person(0, " + what + ")", Check.ELEMENT, Check.person(deposit, 0, what));
        }
    }

    private static void papers(WillDeposit deposit) {
        long[][] dues = {
            {0, 0, 1, 2, 0, 0, 0, -2, -2, 0},
            {0, 9999, 0, 1, 1, 0b1010, 4, 0, 3, 0},
            {1, 5, 1, 0, 0, 0, 0, 2, 0, 0},
        };
        for (int p = 0; p < dues.length; p++) {
            for (int what = 0; what < dues[p].length; what++) {
                CHECK.due("paper(" + p + ", " + what + ")", dues[p][what], Check.paper(deposit, p, what));
            }
        }
        for (int p : new int[] {-1, 3, 12, Integer.MIN_VALUE, Integer.MAX_VALUE}) {
            CHECK.due("paper(" + p + ", 0)", Check.INDEX, Check.paper(deposit, p, 0));
            CHECK.due("paper(" + p + ", 10)", Check.INDEX, Check.paper(deposit, p, 10));
        }
        for (int what : new int[] {-1, 10, Integer.MIN_VALUE, Integer.MAX_VALUE}) {
            CHECK.due("paper(0, " + what + ")", Check.ELEMENT, Check.paper(deposit, 0, what));
        }
    }

    private static void things(WillDeposit deposit) {
        int[][] dues = {{1, 1, 9999}, {2, 0, 1}};
        for (int t = 0; t < dues.length; t++) {
            for (int what = 0; what < 3; what++) {
                CHECK.due("thing(" + t + ", " + what + ")", dues[t][what], deposit.thing(t, what));
            }
        }
        for (int t : new int[] {-1, 2, 8, Integer.MIN_VALUE, Integer.MAX_VALUE}) {
            CHECK.due("thing(" + t + ", 0)", -1, deposit.thing(t, 0));
        }
        for (int what : new int[] {-1, 3, Integer.MIN_VALUE, Integer.MAX_VALUE}) {
            CHECK.due("thing(0, " + what + ")", -1, deposit.thing(0, what));
        }
    }

    private static void lands(WillDeposit deposit) {
        int[][] dues = {{3, 1, 0, 1, 0}, {0, 0, 1, 0, 1}};
        for (int l = 0; l < dues.length; l++) {
            for (int what = 0; what < 5; what++) {
                CHECK.due("land(" + l + ", " + what + ")", dues[l][what], deposit.land(l, what));
            }
        }
        for (int l : new int[] {-1, 2, Integer.MIN_VALUE, Integer.MAX_VALUE}) {
            CHECK.due("land(" + l + ", 0)", -1, deposit.land(l, 0));
        }
        for (int what : new int[] {-1, 5, Integer.MIN_VALUE, Integer.MAX_VALUE}) {
            CHECK.due("land(0, " + what + ")", -1, deposit.land(0, what));
        }
    }

    private static void gives(WillDeposit deposit) {
        int[][] dues = {{1, 2, 2, 3, -2}, {0, 1, 0, -2, -2}, {0, 2, 1, 0, 3}, {1, 3, 0, -2, 1}};
        for (int k = 0; k < dues.length; k++) {
            for (int what = 0; what < 5; what++) {
                CHECK.due("give(1, " + k + ", " + what + ")", dues[k][what], deposit.give(1, k, what));
            }
        }
        CHECK.due("give(1, 4, 0)", -2, deposit.give(1, 4, 0));
        CHECK.due("give(1, max, 0)", -2, deposit.give(1, Integer.MAX_VALUE, 0));
        CHECK.due("give(0, 0, 0)", -2, deposit.give(0, 0, 0));
        CHECK.due("give(0, 0, 5): NONE ahead of -2", -1, deposit.give(0, 0, 5));
        CHECK.due("give(1, 4, -1)", -1, deposit.give(1, 4, -1));
        CHECK.due("give(1, -1, 0)", -1, deposit.give(1, -1, 0));
        CHECK.due("give(3, 0, 0)", -1, deposit.give(3, 0, 0));
        CHECK.due("give(-1, 0, 0)", -1, deposit.give(-1, 0, 0));
        CHECK.due("give(1, 0, 5)", -1, deposit.give(1, 0, 5));
    }

    private static void counts(WillDeposit deposit) {
        int[] dues = {22, 4, 2, 3, 4, 2, 2, 0, 0};
        for (int what = 0; what < dues.length; what++) {
            CHECK.due("count(" + what + ")", dues[what], deposit.count(what));
        }
        for (int what : new int[] {-1, 9, Integer.MIN_VALUE, Integer.MAX_VALUE}) {
            CHECK.due("count(" + what + ")", -1, deposit.count(what));
        }
    }

    private static void countsBehindActs() {
        WillDeposit deposit = CHECK.told(TEXT);
        deposit.lose(0, 1);
        deposit.find(1);
        deposit.find(2);
        deposit.dies(0, 3);
        deposit.wed(0, 3, 4);
        deposit.takeBack(0);
        deposit.feed(1, 2, 3, 4, 5);
        int[] dues = {22, 4, 2, 3, 5, 1, 3, 6, 20};
        for (int what = 0; what < dues.length; what++) {
            CHECK.due("count(" + what + ") behind acts", dues[what], deposit.count(what));
        }
    }

    private static void wedLast() {
        WillDeposit deposit = CHECK.told("person a 0;person b 0;person c 0;wed a b 5;wed c a 5;wed a b 4;dies a 3;");
        CHECK.due("of like DAYS that told last", 2, Check.person(deposit, 0, 4));
        CHECK.due("of all DAYS, behind his death, too", 0, Check.person(deposit, 2, 4));
        deposit.wed(1, 0, 5);
        CHECK.due("wed anew on that DAY", 1, Check.person(deposit, 0, 4));
        deposit.undo();
        CHECK.due("undone", 2, Check.person(deposit, 0, 4));
    }
}
