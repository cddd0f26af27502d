/** Promises 1 to 4: a new object, feed, text, fault. */
final class TapeAndTextTest {
    private static final Check CHECK = new Check("TapeAndTextTest");

    public static void main(String[] args) {
        newObject();
        feeding();
        bytesOfANumber();
        textsAndTape();
        aFaultLeavesAllElse();
        aTextTellsAllAnew();
        goodTexts();
        tokensThatAreNone();
        tokensThatCannotStand();
        wordsThatAreNotTold();
        moreMustCome();
        numbersBeyond();
        oneMoreThanTold();
        toldAlready();
        cannotBe();
        firstFaultAlongTheText();
        CHECK.end();
    }

    private static void newObject() {
        WillDeposit deposit = new WillDeposit();
        CHECK.due("fault(0)", 0, deposit.fault(0));
        CHECK.due("fault(1)", -1, deposit.fault(1));
        for (int what = 0; what <= 8; what++) {
            CHECK.due("count(" + what + ")", 0, deposit.count(what));
        }
        for (int l = 0; l < 2; l++) {
            CHECK.due("land(l, 0)", 2, deposit.land(l, 0));
            for (int what = 1; what <= 4; what++) {
                CHECK.due("land(l, " + what + ")", 0, deposit.land(l, what));
            }
        }
        CHECK.due("person(0, 0)", Check.INDEX, Check.person(deposit, 0, 0));
        CHECK.due("paper(0, 0)", Check.INDEX, Check.paper(deposit, 0, 0));
        CHECK.due("thing(0, 0)", -1, deposit.thing(0, 0));
        CHECK.due("wealth(NONE)", 0, deposit.wealth(-1));
        CHECK.due("wealth(0)", -2, deposit.wealth(0));
        CHECK.due("key(0)", -2, deposit.key(0));
        CHECK.due("key(1)", -2, deposit.key(1));
        CHECK.due("death(0, 0)", -2, deposit.death(0, 0));
        CHECK.due("undo()", -1, deposit.undo());
        CHECK.due("text(1)", -2, deposit.text(1));
        CHECK.due("text(0)", 0, deposit.text(0));
    }

    private static void feeding() {
        WillDeposit deposit = new WillDeposit();
        for (int k = 1; k <= 60; k++) {
            CHECK.due("feed " + k, 20 * k, deposit.feed(k, -k, 0, Integer.MIN_VALUE, Integer.MAX_VALUE));
            CHECK.due("count(8)", 20 * k, deposit.count(8));
        }
        CHECK.due("feed 61", -1, deposit.feed(1, 2, 3, 4, 5));
        CHECK.due("count(8) when full", 1200, deposit.count(8));
        CHECK.due("text(1201)", -2, deposit.text(1201));
        CHECK.due("count(8) behind -2", 1200, deposit.count(8));
        CHECK.due("text(1200)", -1, deposit.text(1200));
        CHECK.due("count(8) behind a fault", 0, deposit.count(8));
        CHECK.due("feed behind", 20, deposit.feed(1, 2, 3, 4, 5));
    }

    private static void bytesOfANumber() {
        WillDeposit deposit = new WillDeposit();
        // "land 1 3 own;" with a byte above 127 behind it
        deposit.feed(0x6c616e64, 0x20312033, 0x206f776e, 0x3bff2020, 0x20202020);
        CHECK.due("text(13)", 1, deposit.text(13));
        CHECK.due("land(1, 0)", 3, deposit.land(1, 0));
        CHECK.due("land(1, 1)", 1, deposit.land(1, 1));
        deposit.feed(0x6c616e64, 0x20312033, 0x206f776e, 0x3bff2020, 0x20202020);
        CHECK.due("text(14)", -1, deposit.text(14));
        CHECK.due("fault(0)", 1, deposit.fault(0));
        CHECK.due("fault(1)", 13, deposit.fault(1));
    }

    private static void textsAndTape() {
        WillDeposit deposit = new WillDeposit();
        deposit.feed(0x6c616e64, 0x20302034, 0x3b6c616e, 0x64203120, 0x313b2020);
        CHECK.due("text(-1)", -2, deposit.text(-1));
        CHECK.due("text(21)", -2, deposit.text(21));
        CHECK.due("text(min)", -2, deposit.text(Integer.MIN_VALUE));
        CHECK.due("text(max)", -2, deposit.text(Integer.MAX_VALUE));
        CHECK.due("count(8)", 20, deposit.count(8));
        CHECK.due("text(9): the first bytes alone", 1, deposit.text(9));
        CHECK.due("the tape is empty", 0, deposit.count(8));
        CHECK.due("land(0, 0)", 4, deposit.land(0, 0));
        CHECK.due("land(1, 0)", 2, deposit.land(1, 0));
        CHECK.due("text(9) again", -2, deposit.text(9));
        CHECK.due("land(0, 0) still", 4, deposit.land(0, 0));
        CHECK.due("text(0)", 0, deposit.text(0));
        CHECK.due("land(0, 0) anew", 2, deposit.land(0, 0));
    }

    private static void aFaultLeavesAllElse() {
        WillDeposit deposit = CHECK.told("land 0 4 own;person a 1;person b 0;wed a b 7;thing t b 1 9;"
                + "paper p a 3 0 adds witness b give t b;lost p 2;dies b 8;");
        CHECK.due("an act", true, deposit.dies(0, 9));
        String bad = "land 1 1 half;person x 0;person y 0;thing z x 0 8;paper q y 1 1 will own;dies x 4;wed x x 4;";
        CHECK.due("text of a fault", -1, Check.readOver(deposit, bad));
        CHECK.due("fault(0)", 3, deposit.fault(0));
        CHECK.due("fault(1)", bad.lastIndexOf("x 4;"), deposit.fault(1));
        CHECK.due("lines", 8, deposit.count(0));
        CHECK.due("persons", 2, deposit.count(1));
        CHECK.due("things", 1, deposit.count(2));
        CHECK.due("weddings", 1, deposit.count(4));
        CHECK.due("lost", 1, deposit.count(5));
        CHECK.due("dead", 2, deposit.count(6));
        CHECK.due("acts", 1, deposit.count(7));
        CHECK.due("land(0, 0)", 4, deposit.land(0, 0));
        CHECK.due("land(1, 4)", 0, deposit.land(1, 4));
        CHECK.due("home", 1, Check.person(deposit, 0, 0));
        CHECK.due("maker", 0, Check.paper(deposit, 0, 0));
        CHECK.due("undo()", 0, deposit.undo());
        CHECK.due("death", -2, Check.person(deposit, 0, 1));
        CHECK.due("text(-1) is no text", -2, deposit.text(-1));
        CHECK.due("fault(0) still", 3, deposit.fault(0));
        CHECK.due("fault(2)", -1, deposit.fault(2));
        CHECK.due("fault(-1)", -1, deposit.fault(-1));
    }

    private static void aTextTellsAllAnew() {
        WillDeposit deposit = CHECK.told("land 0 4 own wed copies half;person a 1;person b 0;child b a;wed a b 7;"
                + "thing t b 1 9;paper p a 3 0 adds own witness b give t b rest b;lost p 2;dies b 8;");
        deposit.takeBack(0);
        CHECK.due("text", 5, Check.readOver(deposit, "person c 0;person d 0;person e 1;paper q d 5 1 will;thing u d 0 4;"));
        CHECK.due("fault(0)", 0, deposit.fault(0));
        CHECK.due("fault(1)", -1, deposit.fault(1));
        CHECK.due("acts", 0, deposit.count(7));
        CHECK.due("undo()", -1, deposit.undo());
        CHECK.due("weddings", 0, deposit.count(4));
        CHECK.due("lost", 0, deposit.count(5));
        CHECK.due("dead", 0, deposit.count(6));
        for (int what = 1; what <= 4; what++) {
            CHECK.due("land(0, what)", 0, deposit.land(0, what));
        }
        CHECK.due("land(0, 0)", 2, deposit.land(0, 0));
        long[] dues = {1, 5, 1, 0, 0, 0, 0, -2, -2, 0};
        for (int what = 0; what < dues.length; what++) {
            CHECK.due("paper(0, " + what + ")", dues[what], Check.paper(deposit, 0, what));
        }
        CHECK.due("children of a", 0, Check.person(deposit, 0, 2));
        CHECK.due("parents of b", 0, Check.person(deposit, 1, 3));
    }

    private static void goodTexts() {
        CHECK.good("", 0);
        CHECK.good(" \n ", 0);
        CHECK.good("land 0 0;", 1);
        CHECK.good("land0 0own wed\ncopies half ; land 1 4 half own;", 2);
        CHECK.good("person a 0;person abcde 1;person\nz 0\n;", 3);
        CHECK.good("land 00 004;person a 01;dies a 0009999;", 3);
        CHECK.good("person a 0;thing a a 0 1;paper a a 0 0 will;thing b a 1 9999;", 4);
        CHECK.good("person a 0;dies a 0;", 2);
        CHECK.good("person a 0;person b 0;person c 0;child c b;child c a;wed a b 0;wed b a 9999;wed a c 0;", 8);
        CHECK.good("person a 0;person b 0;wed a b 1;wed a b 1;wed a b 1;wed a b 1;wed a b 1;wed a b 1;", 8);
        CHECK.good("person a 0;person b 0;thing t a 0 5;paper p b 3 0 strikes rest b give t b give t b if b or a "
                + "give t a unless a give t a or b own;", 4);
        CHECK.good("person a 0;paper p a 3 0 will;paper q a 2 0 adds strike p;paper r a 1 0 adds strike q strike p;"
                + "lost p 0;lost q 3;", 6);
        CHECK.good("person a 0;person b 0;paper p a 3 0 will;paper q b 2 0 strikes;paper r a 2 1 strikes strike p;", 5);
        CHECK.good("person a 0;person b 0;person c 0;person d 0;person e 0;"
                + "paper p a 1 0 will witness b witness c witness d witness e;", 6);
        CHECK.good("person aa 0;person a 0;person aaa 0;person ab 0;person ba 0;", 5);
    }

    private static void tokensThatAreNone() {
        CHECK.bad("^$", 1);
        CHECK.bad("^A", 1);
        CHECK.bad("land 0 2^\t;", 1);
        CHECK.bad("land 0 2^\r;", 1);
        CHECK.bad("land 0 ^-2;", 1);
        CHECK.bad("land 0 2^.5;", 1);
        CHECK.bad("person ab^C 0;", 1);
        CHECK.bad("person ^abcdef 0;", 1);
        CHECK.bad("^persons a 0;", 1);
        CHECK.bad("^lan 0 2;", 1);
        CHECK.bad("person a 0;wed ^abcdefgh a 0;", 1);
        CHECK.bad("land 0 2^\u0000;", 1);
        CHECK.bad("land 0 2^\u00a0;", 1);
        CHECK.bad("land 0 2^\u00ff;", 1);
        CHECK.bad("^`", 1);
        CHECK.bad("^{", 1);
        CHECK.bad("land ^/ 2;", 1);
        CHECK.bad("land 0^: 2;", 1);
    }

    private static void tokensThatCannotStand() {
        CHECK.bad("^;", 1);
        CHECK.bad("land 0 2;^;", 1);
        CHECK.bad("^a;", 1);
        CHECK.bad("^3;", 1);
        CHECK.bad("^own;", 1);
        CHECK.bad("land ^a 2;", 1);
        CHECK.bad("land 0^;", 1);
        CHECK.bad("land 0 2 ^rest;", 1);
        CHECK.bad("land 0 2 own ^3;", 1);
        CHECK.bad("land 0 2 own ^a;", 1);
        CHECK.bad("person ^3 0;", 1);
        CHECK.bad("person ^land 0;", 1);
        CHECK.bad("person ^strikes 0;", 1);
        CHECK.bad("person ^or 0;", 1);
        CHECK.bad("person a ^b;", 1);
        CHECK.bad("person a 0 ^1;", 1);
        CHECK.bad("person a 0;paper p a 0 0 ^own;", 1);
        CHECK.bad("person a 0;paper p a 0 0 ^strike;", 1);
        CHECK.bad("person a 0;paper p a 0 0 ^;", 1);
        CHECK.bad("person a 0;paper p a 0 0 will ^a;", 1);
        CHECK.bad("person a 0;paper p a 0 0 will ^half;", 1);
        CHECK.bad("person a 0;paper p a 0 0 will ^if a;", 1);
        CHECK.bad("person a 0;paper p a 0 0 will rest a ^or a;", 1);
        CHECK.bad("person a 0;paper p a 0 0 will rest ^own;", 1);
        CHECK.bad("person a 0;person b 0;thing t a 0 1;paper p a 0 0 will give t a if a ^unless b;", 1);
        CHECK.bad("person a 0;person b 0;thing t a 0 1;paper p a 0 0 will give t a or b ^if b;", 1);
        CHECK.bad("person a 0;dies a ^a;", 1);
        CHECK.bad("person a 0;dies a 5 ^6;", 1);
        for (String word : ("land person child wed thing paper lost dies own copies half will adds strikes witness "
                + "give if unless or rest strike").split(" ")) {
            CHECK.bad("person ^" + word + " 0;", 1);
        }
    }

    private static void wordsThatAreNotTold() {
        CHECK.bad("person a 0;child ^b a;", 1);
        CHECK.bad("person a 0;child a ^b;", 1);
        CHECK.bad("wed ^a b 0;", 1);
        CHECK.bad("person a 0;wed a ^b 0;", 1);
        CHECK.bad("thing t ^a 0 1;", 1);
        CHECK.bad("person a 0;thing t ^t 0 1;", 1);
        CHECK.bad("paper p ^a 0 0 will;", 1);
        CHECK.bad("person a 0;paper p a 0 0 will witness ^b;", 1);
        CHECK.bad("person a 0;paper p a 0 0 will give ^t a;", 1);
        CHECK.bad("person a 0;thing t a 0 1;paper p a 0 0 will give t ^b;", 1);
        CHECK.bad("person a 0;thing t a 0 1;paper p a 0 0 will give t a if ^b;", 1);
        CHECK.bad("person a 0;thing t a 0 1;paper p a 0 0 will give t a unless a or ^b;", 1);
        CHECK.bad("person a 0;paper p a 0 0 will rest ^b;", 1);
        CHECK.bad("person a 0;paper p a 0 0 will strike ^q;", 1);
        CHECK.bad("person a 0;paper p a 0 0 will strike ^p;", 1);
        CHECK.bad("person a 0;lost ^a 0;", 1);
        CHECK.bad("person a 0;paper p a 0 0 will;dies ^p 0;", 1);
        CHECK.bad("dies ^a 0;person a 0;", 1);
    }

    private static void moreMustCome() {
        CHECK.bad("land", 1, 4);
        CHECK.bad("land ", 1, 5);
        CHECK.bad("land 0 2", 1, 8);
        CHECK.bad("land 0 2 \n ", 1, 11);
        CHECK.bad("land 0 2 own", 1, 12);
        CHECK.bad("person a 0;paper p a 0 0 will rest", 1, 34);
        CHECK.bad("person a 0;thing t a 0 1;paper p a 0 0 will give t a or", 1, 55);
        CHECK.bad("person a 0;dies a 5", 1, 19);
        CHECK.bad("perso", 1, 0);
    }

    private static void numbersBeyond() {
        CHECK.bad("land ^2 2;", 2);
        CHECK.bad("land ^10 2;", 2);
        CHECK.bad("land 0 ^5;", 2);
        CHECK.bad("person a ^2;", 2);
        CHECK.bad("person a 0;thing t a ^2 1;", 2);
        CHECK.bad("person a 0;thing t a 0 ^0;", 2);
        CHECK.bad("person a 0;thing t a 0 ^10000;", 2);
        CHECK.bad("person a 0;person b 0;wed a b ^10000;", 2);
        CHECK.bad("person a 0;paper p a ^10000 0 will;", 2);
        CHECK.bad("person a 0;paper p a 0 ^2 will;", 2);
        CHECK.bad("person a 0;paper p a 0 0 will;lost p ^4;", 2);
        CHECK.bad("person a 0;dies a ^10000;", 2);
        CHECK.bad("person a 0;dies a ^4294967296;", 2);
        CHECK.bad("person a 0;dies a ^18446744073709551617;", 2);
        CHECK.bad("person a 0;dies a ^99999999999999999999999999999999999999999999;", 2);
    }

    private static String persons(int many) {
        StringBuilder text = new StringBuilder();
        for (int p = 0; p < many; p++) {
            text.append("person ").append((char) ('a' + p)).append(" 0;");
        }
        return text.toString();
    }

    private static String repeat(String part, int times) {
        return part.repeat(times);
    }

    private static void oneMoreThanTold() {
        CHECK.good(persons(10), 10);
        CHECK.bad(persons(10) + "^person a 0;", 2);
        CHECK.bad(persons(10) + "^person", 2);
        StringBuilder things = new StringBuilder(persons(1));
        for (int t = 0; t < 8; t++) {
            things.append("thing ").append((char) ('a' + t)).append(" a 0 1;");
        }
        CHECK.good(things.toString(), 9);
        CHECK.bad(things + "^thing z a 0 1;", 2);
        StringBuilder papers = new StringBuilder(persons(1));
        for (int p = 0; p < 12; p++) {
            papers.append("paper ").append((char) ('a' + p)).append(" a 0 0 will;");
        }
        CHECK.good(papers.toString(), 13);
        CHECK.bad(papers + "^paper z a 0 0 will;", 2);
        CHECK.bad(persons(2) + repeat("wed a b 1;", 6) + "^wed a b 1;", 2);
        CHECK.bad(persons(6) + "paper p a 0 0 will witness b witness c witness d witness e ^witness b;", 2);
        String give = persons(1) + "thing t a 0 1;paper p a 0 0 will" + repeat(" give t a", 6);
        CHECK.good(give + ";", 3);
        CHECK.bad(give + " ^give t a;", 2);
        String strike = papers.substring(0, persons(1).length() + 4 * "paper a a 0 0 will;".length())
                + "paper p a 0 0 will strike a strike b strike c";
        CHECK.good(strike + ";", 6);
        CHECK.bad(strike + " ^strike d;", 2);
    }

    private static void toldAlready() {
        CHECK.bad("land 0 2;land 1 2;land ^0 2;", 3);
        CHECK.bad("land 1 2;land ^1 2;", 3);
        for (String right : new String[] {"own", "wed", "copies", "half"}) {
            CHECK.bad("land 0 2 " + right + " ^" + right + ";", 3);
            CHECK.bad("land 0 2 own wed copies half ^" + right + ";", 3);
            CHECK.good("land 0 2 " + right + ";land 1 2 " + right + ";", 2);
        }
        CHECK.bad("person a 0;person ^a 1;", 3);
        CHECK.bad("person abcde 0;person abcdf 0;person ^abcde 1;", 3);
        CHECK.bad("person a 0;thing t a 0 1;thing ^t a 0 1;", 3);
        CHECK.bad("person a 0;paper p a 0 0 will;paper ^p a 0 0 will;", 3);
        CHECK.bad("person a 0;person b 0;child b a;child b ^a;", 3);
        CHECK.bad("person a 0;person b 0;person c 0;person d 0;child d a;child d b;child d ^c;", 3);
        CHECK.bad("person a 0;paper p a 0 0 will own ^own;", 3);
        CHECK.bad("person a 0;paper p a 0 0 will rest a ^rest a;", 3);
        CHECK.bad("person a 0;person b 0;paper p a 0 0 will witness b own witness ^b;", 3);
        CHECK.bad("person a 0;paper q a 0 0 will;paper p a 0 0 will strike q strike ^q;", 3);
        CHECK.bad("person a 0;paper q a 0 0 will;lost q 0;lost ^q 0;", 3);
        CHECK.bad("person a 0;dies a 0;dies ^a 1;", 3);
    }

    private static void cannotBe() {
        CHECK.bad("person a 0;person b 0;child a ^b;", 3);
        CHECK.bad("person a 0;child a ^a;", 3);
        CHECK.bad("person a 0;wed a ^a 0;", 3);
        CHECK.bad("person a 0;paper p a 0 0 will witness ^a;", 3);
        CHECK.bad("person a 0;person b 0;paper q b 0 0 will;paper p a 0 0 will strike ^q;", 3);
        CHECK.bad("person a 0;thing t a 0 1;paper p a 0 0 will give t a or ^a;", 3);
        CHECK.bad("person a 0;person b 0;thing t a 0 1;paper p a 0 0 will give t b if a or ^b;", 3);
    }

    private static void firstFaultAlongTheText() {
        CHECK.bad("land ^2 9 own own;", 2);
        CHECK.bad("land 0 ^9 own own;", 2);
        CHECK.bad("land 0 4 own ^own x;", 3);
        CHECK.bad("land 0 4;land ^0 9;", 3);
        CHECK.bad("person ^abcdef 7", 1);
        CHECK.bad("person a 0;wed a ^a 10000;", 3);
        CHECK.bad("person a 0;wed ^b b 10000;", 1);
        CHECK.bad("person a 0;paper p a 0 0 will own ^own $", 3);
        CHECK.bad("person a 0;child a ^b x;", 1);
    }
}
