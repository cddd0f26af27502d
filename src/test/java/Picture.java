/** What a deposit answers about all that is told and what follows from it, as one text: two pictures that are alike
 *  tell that nothing is other. The FAULT of the latest text and the ACTS that can be undone stand in it, too. */
final class Picture {
    private Picture() {
    }

    static String of(WillDeposit deposit) {
        StringBuilder picture = new StringBuilder();
        for (int what = 0; what <= 8; what++) {
            add(picture, "count", deposit.count(what));
        }
        add(picture, "fault", deposit.fault(0));
        add(picture, "place", deposit.fault(1));
        for (int what = 0; what <= 4; what++) {
            add(picture, "land 0", deposit.land(0, what));
            add(picture, "land 1", deposit.land(1, what));
        }
        for (int p = 0; p < deposit.count(1); p++) {
            addPerson(picture, deposit, p);
        }
        for (int p = 0; p < deposit.count(3); p++) {
            addPaper(picture, deposit, p);
        }
        for (int t = 0; t < deposit.count(2); t++) {
            addThing(picture, deposit, t);
        }
        add(picture, "crown", deposit.wealth(-1));
        add(picture, "key", deposit.key(0));
        return picture.toString();
    }

    private static void addPerson(StringBuilder picture, WillDeposit deposit, int p) {
        for (int what = 0; what <= 4; what++) {
            add(picture, "person", Check.person(deposit, p, what));
        }
        add(picture, "heirs", deposit.heirs(p));
        add(picture, "wealth", deposit.wealth(p));
        add(picture, "ever", deposit.ever(p));
    }

    private static void addPaper(StringBuilder picture, WillDeposit deposit, int p) {
        for (int what = 0; what <= 9; what++) {
            add(picture, "paper", Check.paper(deposit, p, what));
        }
        for (int what = 0; what <= 4; what++) {
            add(picture, "give", deposit.give(p, 0, what));
        }
        for (int t = 0; t < deposit.count(2); t++) {
            add(picture, "why", deposit.why(p, t));
            add(picture, "struckBy", deposit.struckBy(p, t));
        }
    }

    private static void addThing(StringBuilder picture, WillDeposit deposit, int t) {
        for (int what = 0; what <= 2; what++) {
            add(picture, "thing", deposit.thing(t, what));
        }
        for (int day = 0; day <= 60; day += 10) {
            add(picture, "holders", deposit.holders(t, day));
        }
    }

    private static void add(StringBuilder picture, String name, long answer) {
        picture.append(name).append(' ').append(answer).append(';');
    }
}
