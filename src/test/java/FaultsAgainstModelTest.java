/** Promises 3 and 4: thousands of texts, most of them spoilt, against the plain reader of the tests. */
final class FaultsAgainstModelTest {
    private static final Check CHECK = new Check("FaultsAgainstModelTest");

    public static void main(String[] args) {
        int[] seen = new int[4];
        for (int seed = 1; seed <= 12000; seed++) {
            RandomText random = new RandomText(seed);
            String text = random.make();
            if (seed % 10 != 0) {
                text = random.spoilt(text);
            }
            seen[compare(seed, text)]++;
        }
        for (int number = 0; number < seen.length; number++) {
            CHECK.due("fault " + number + " was met often: " + seen[number], true, seen[number] > 200);
        }
        CHECK.end();
    }

    private static int compare(int seed, String text) {
        int lines = -1;
        int number = 0;
        int place = -1;
        try {
            lines = ModelText.read(text).lines;
        } catch (Model.Fault fault) {
            number = fault.number;
            place = fault.place;
        }
        WillDeposit deposit = new WillDeposit();
        CHECK.due(seed + ": text of " + text, lines, Check.read(deposit, text));
        CHECK.due(seed + ": fault(0) of " + text, number, deposit.fault(0));
        CHECK.due(seed + ": fault(1) of " + text, place, deposit.fault(1));
        return number;
    }
}
