/** Feeds texts to deposits and counts the answers that are not due. */
final class Check {
    /** What an answer is held to be when the call throws. */
    static final long INDEX = Long.MIN_VALUE;
    static final long ELEMENT = Long.MIN_VALUE + 1;

    private final String name;
    private int asked = 0;
    private int wrong = 0;

    Check(String name) {
        this.name = name;
    }

    void due(String call, long want, long got) {
        asked++;
        if (got != want) {
            wrong++;
            System.out.println(name + ": " + call + " answered " + got + ", due is " + want);
        }
    }

    void due(String call, boolean want, boolean got) {
        due(call, want ? 1 : 0, got ? 1 : 0);
    }

    void due(String call, String want, String got) {
        due(call + ": " + got + ", due is " + want, want.equals(got), true);
    }

    /** Ends the test: exit code 1 if one answer was wrong, or none was asked for. */
    void end() {
        System.out.println(name + ": " + asked + " answers, " + wrong + " wrong");
        if (wrong != 0 || asked == 0) {
            System.exit(1);
        }
    }

    /** A new deposit that has read a text; the text must have no FAULT. */
    WillDeposit told(String text) {
        WillDeposit deposit = new WillDeposit();
        if (read(deposit, text) < 0) {
            wrong++;
            System.out.println(name + ": fault " + deposit.fault(0) + " at " + deposit.fault(1) + " of: " + text);
        }
        return deposit;
    }

    /** A text without a FAULT, of so many LINES. */
    void good(String text, int lines) {
        WillDeposit deposit = new WillDeposit();
        due("text of " + text, lines, read(deposit, text));
        due("fault(0) of " + text, 0, deposit.fault(0));
        due("fault(1) of " + text, -1, deposit.fault(1));
        due("count(0) of " + text, lines, deposit.count(0));
    }

    /** A text with a FAULT at a place. */
    void bad(String text, int number, int place) {
        WillDeposit deposit = new WillDeposit();
        due("text of " + text, -1, read(deposit, text));
        due("fault(0) of " + text, number, deposit.fault(0));
        due("fault(1) of " + text, place, deposit.fault(1));
        due("count(0) of " + text, 0, deposit.count(0));
    }

    /** A text with a FAULT at the sign ^, which is taken out of it. */
    void bad(String marked, int number) {
        int place = marked.indexOf('^');
        bad(marked.substring(0, place) + marked.substring(place + 1), number, place);
    }

    /** What text() answers of a text on an empty tape, filled up with blanks to whole feeds. */
    static int read(WillDeposit deposit, String text) {
        return readBytes(deposit, text.getBytes(java.nio.charset.StandardCharsets.ISO_8859_1));
    }

    /** The same without text(0) ahead of it, so that the deposit keeps what it was told; its tape is empty. */
    static int readOver(WillDeposit deposit, String text) {
        return feedAndRead(deposit, text.getBytes(java.nio.charset.StandardCharsets.ISO_8859_1));
    }

    static int readBytes(WillDeposit deposit, byte[] bytes) {
        deposit.text(0);
        return feedAndRead(deposit, bytes);
    }

    private static int feedAndRead(WillDeposit deposit, byte[] bytes) {
        for (int i = 0; i < bytes.length; i += 20) {
            deposit.feed(four(bytes, i), four(bytes, i + 4), four(bytes, i + 8), four(bytes, i + 12),
                    four(bytes, i + 16));
        }
        return deposit.text(bytes.length);
    }

    private static int four(byte[] bytes, int from) {
        int number = 0;
        for (int i = from; i < from + 4; i++) {
            number = number << 8 | (i < bytes.length ? bytes[i] & 255 : ' ');
        }
        return number;
    }

    static long person(WillDeposit deposit, int p, int what) {
        try {
            return deposit.person(p, what);
        } catch (IndexOutOfBoundsException e) {
            return INDEX;
        } catch (java.util.NoSuchElementException e) {
            return ELEMENT;
        }
    }

    static long paper(WillDeposit deposit, int p, int what) {
        try {
            return deposit.paper(p, what);
        } catch (IndexOutOfBoundsException e) {
            return INDEX;
        } catch (java.util.NoSuchElementException e) {
            return ELEMENT;
        }
    }
}
