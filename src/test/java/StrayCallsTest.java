import java.util.Random;

/** No call throws but as the document says, whatever comes in whatever order, and what is asked changes nothing. */
final class StrayCallsTest {
    private static final Check CHECK = new Check("StrayCallsTest");
    private static final int[] ODD = {Integer.MIN_VALUE, -1000000, -34, -33, -32, -3, -2, -1, 0, 1, 2, 3, 4, 5, 6, 7, 8, 9,
        10, 11, 12, 13, 16, 31, 32, 33, 64, 9998, 9999, 10000, Integer.MAX_VALUE};

    public static void main(String[] args) {
        for (int seed = 1; seed <= 400; seed++) {
            strayRun(seed);
        }
        for (int seed = 1; seed <= 150; seed++) {
            askingChangesNothing(seed);
        }
        CHECK.end();
    }

    private static int stray(Random random) {
        return random.nextInt(20) == 0 ? random.nextInt() : ODD[random.nextInt(ODD.length)];
    }

    private static int small(Random random) {
        return random.nextInt(4) == 0 ? stray(random) : random.nextInt(4);
    }

    private static void strayRun(int seed) {
        Random random = new Random(seed);
        RandomText texts = new RandomText(seed);
        WillDeposit deposit = new WillDeposit();
        String call = "none";
        try {
            for (int k = 0; k < 512; k++) {
                if (k % 150 == 0) {
                    k += readSome(deposit, random, texts);
                }
                int question = random.nextInt(50);
                call = "call " + question;
                acts(deposit, random, question);
                ask(deposit, question, small(random), small(random), small(random), small(random));
            }
        } catch (RuntimeException e) {
            CHECK.due("run " + seed + ", " + call + " threw " + e, 0, 1);
        }
        CHECK.due("run " + seed + " came to its end", 0, 0);
    }

    private static int readSome(WillDeposit deposit, Random random, RandomText texts) {
        if (random.nextInt(5) == 0) {
            byte[] bytes = new byte[random.nextInt(200)];
            random.nextBytes(bytes);
            Check.readBytes(deposit, bytes);
        }
        String text = texts.make();
        Check.read(deposit, random.nextInt(6) == 0 ? texts.spoilt(text) : text);
        return text.length() / 20 + 12;
    }

    private static void acts(WillDeposit deposit, Random random, int act) {
        int a = small(random);
        int b = small(random);
        switch (act) {
            case 40: deposit.lose(a, b); break;
            case 41: deposit.find(a); break;
            case 42: deposit.copy(a); break;
            case 43: deposit.witness(a, b); break;
            case 44: deposit.wed(a, b, small(random)); break;
            case 45: deposit.dies(a, small(random)); break;
            case 46: deposit.takeBack(a); break;
            case 47: deposit.undo(); break;
            case 48: deposit.feed(stray(random), stray(random), stray(random), stray(random), stray(random)); break;
            case 49: deposit.text(random.nextInt(10) == 0 ? a : -1 - (a & 7)); break;
            default: break;
        }
    }

    private static long ask(WillDeposit deposit, int question, int a, int b, int c, int d) {
        switch (question) {
            case 0: return deposit.fault(a);
            case 1: return Check.person(deposit, a, b);
            case 2: return Check.paper(deposit, a, b);
            case 3: return deposit.thing(a, b);
            case 4: return deposit.land(a, b);
            case 5: return deposit.form(a, b);
            case 6: return deposit.why(a, b);
            case 7: return deposit.struckBy(a, b);
            case 8: return deposit.counting(a, b, c);
            case 9: return deposit.taker(a, b);
            case 10: return deposit.takerBy(a, b);
            case 11: return deposit.heirs(a);
            case 12: return deposit.has(a, b, c, d);
            case 13: return deposit.holders(a, b);
            case 14: return deposit.wealth(a);
            case 15: return deposit.ever(a);
            case 16: return deposit.gain(a, b);
            case 17: return deposit.against(a, b);
            case 18: return deposit.key(a);
            case 19: return deposit.wouldPaper(a, b, c);
            case 20: return deposit.wouldDie(a, b, c);
            case 21: return deposit.dayFor(a, b, c);
            case 22: return deposit.margin(a);
            case 23: return deposit.death(a, b);
            case 24: return deposit.moves(a, b);
            case 25: return deposit.kin(a, b);
            case 26: return deposit.naming(a, b);
            case 27: return deposit.sees(a, b, c);
            case 28: return deposit.give(a, b, c);
            case 29: return deposit.count(a);
            default: return 0;
        }
    }

    /** One object is asked much, its twin, told the same, only in the end: both must answer alike. */
    private static void askingChangesNothing(int seed) {
        Random random = new Random(seed);
        String text = new RandomText(seed).make();
        WillDeposit asked = CHECK.told(text);
        WillDeposit twin = CHECK.told(text);
        for (int k = 0; k < 150; k++) {
            ask(asked, random.nextInt(30), small(random), small(random), small(random), small(random));
        }
        for (int k = 0; k < 90; k++) {
            int a = random.nextInt(5);
            int b = random.nextInt(5);
            int c = random.nextInt(5);
            int d = random.nextInt(2);
            CHECK.due("run " + seed + ": question " + k % 30, ask(twin, k % 30, a, b, c, d), ask(asked, k % 30, a, b, c, d));
        }
    }
}
