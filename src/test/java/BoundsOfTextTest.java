/** Terms, section 1, and promises 2 to 4: each number, word and count of a TEXT just below, at and just above
 *  its bound, with the FAULT and its place. The sign ^ marks the place of a FAULT. */
final class BoundsOfTextTest {
    private static final Check CHECK = new Check("BoundsOfTextTest");
    private static final String[] WORDS = {"land", "person", "child", "wed", "thing", "paper", "lost", "dies", "own",
        "copies", "half", "will", "adds", "strikes", "witness", "give", "if", "unless", "or", "rest", "strike"};

    public static void main(String[] args) {
        tapeOf1200();
        firstBytesOfTheTape();
        textsOf1200();
        signs();
        blanks();
        lettersOfAName();
        wordsThatAreNoNames();
        numbersOfLands();
        numbersOfPersonsAndWeddings();
        numbersOfThings();
        numbersOfPapers();
        numbersLeftOut();
        longNumbers();
        landsOnce();
        tenPersons();
        eightThings();
        twelvePapers();
        sixWeddings();
        fourWitnesses();
        sixGives();
        threeStrikes();
        ownAndRestOnce();
        twoParents();
        behindItsParent();
        lostOnceDeadOnce();
        namesInTheirKind();
        toldAhead();
        ofOnePlaceTheLeast();
        firstAlongTheText();
        CHECK.end();
    }

    // ---- promises 2 and 3: the TAPE

    private static void feedBlanks(WillDeposit deposit, int times) {
        for (int k = 1; k <= times; k++) {
            CHECK.due("feed " + k, 20 * k, deposit.feed(0x20202020, 0x20202020, 0x20202020, 0x20202020, 0x20202020));
        }
    }

    private static void tapeOf1200() {
        WillDeposit deposit = new WillDeposit();
        CHECK.due("the TAPE with none", 0, deposit.count(8));
        feedBlanks(deposit, 59);
        CHECK.due("the TAPE with 1180", 1180, deposit.count(8));
        // a ';' would be a FAULT: so the last twenty are seen to come, and the next twenty not to
        CHECK.due("feed to 1200", 1200, deposit.feed(0x20202020, 0x20202020, 0x20202020, 0x20202020, 0x2020203b));
        CHECK.due("NONE if it would have more", -1, deposit.feed(0x3b3b3b3b, 0x3b3b3b3b, 0x3b3b3b3b, 0x3b3b3b3b, 0x3b3b3b3b));
        CHECK.due("and none come", 1200, deposit.count(8));
        CHECK.due("NONE again", -1, deposit.feed(0, 0, 0, 0, 0));
        CHECK.due("text(1201)", -2, deposit.text(1201));
        CHECK.due("the TAPE stays", 1200, deposit.count(8));
        CHECK.due("text(1200)", -1, deposit.text(1200));
        CHECK.due("the 1200th byte is there", 1199, deposit.fault(1));
        CHECK.due("it is empty then", 0, deposit.count(8));
        feedBlanks(deposit, 60);
        CHECK.due("text(1199)", 0, deposit.text(1199));
        CHECK.due("the last byte doesn't stay", 0, deposit.count(8));
        CHECK.due("feed on the empty TAPE", 20, deposit.feed(0, 0, 0, 0, 0));
    }

    private static void firstBytesOfTheTape() {
        int[][] dues = {{-1, -2}, {Integer.MIN_VALUE, -2}, {0, 0}, {8, -1}, {9, 1}, {17, -1}, {18, 2}, {19, 2}, {20, -1},
            {21, -2}, {40, -2}, {1200, -2}, {Integer.MAX_VALUE, -2}};
        for (int[] due : dues) {
            WillDeposit deposit = new WillDeposit();
            deposit.feed(0x6c616e64, 0x20302034, 0x3b6c616e, 0x64203120, 0x313b203b); // land 0 4;land 1 1; ;
            CHECK.due("text(" + due[0] + ")", due[1], deposit.text(due[0]));
            CHECK.due("the TAPE behind text(" + due[0] + ")", due[1] == -2 ? 20 : 0, deposit.count(8));
            CHECK.due("LINES behind text(" + due[0] + ")", Math.max(due[1], 0), deposit.count(0));
        }
        WillDeposit none = new WillDeposit();
        CHECK.due("text(1) of the empty TAPE", -2, none.text(1));
        CHECK.due("text(0) of the empty TAPE", 0, none.text(0));
    }

    private static void textsOf1200() {
        CHECK.good(" ".repeat(1200), 0);
        CHECK.good(" ".repeat(1191) + "land 0 2;", 1);
        CHECK.good("land " + "0".repeat(1192) + " 4;", 1);
        CHECK.bad(" ".repeat(1192) + "land 0 2", 1, 1200);
        CHECK.bad("land 0 2" + " ".repeat(1192), 1, 1200);
        CHECK.bad("person " + "x".repeat(1193), 1, 7);
        CHECK.bad("land 0 " + "9".repeat(1193), 2, 7);
        CHECK.bad("land 0 4;".repeat(133), 3, 14);
        CHECK.bad(";".repeat(1200), 1, 0);
        CHECK.bad("0;".repeat(600), 1, 0);
        // the longest row of tokens that can stand: 1200 bytes, then the 6th wed
        String weddings = "person a0;person b0;" + "wed a b0;".repeat(6);
        CHECK.good(weddings + " ".repeat(1200 - weddings.length()), 8);
    }

    // ---- TOKENS

    private static void signs() {
        for (int sign = 0; sign < 256; sign++) {
            boolean word = sign >= 'a' && sign <= 'z';
            boolean digit = sign >= '0' && sign <= '9';
            boolean blank = sign == 10 || sign == 32;
            String text = "land 0 2" + (char) sign;
            if (word || blank) {
                CHECK.bad(text, 1, blank ? 9 : 8);
            } else if (digit) {
                CHECK.bad(text, 2, 7);
            } else if (sign == ';') {
                CHECK.good(text, 1);
            } else {
                CHECK.bad(text, 1, 8);
            }
        }
    }

    private static void blanks() {
        CHECK.good("\n land \n\n 0\n2 \n ; \n", 1);
        CHECK.bad("land 0 2^\t;", 1);
        CHECK.bad("land 0 2^\u000b;", 1);
        CHECK.bad("land 0 2^\r\n;", 1);
        CHECK.bad("^\u001f", 1);
        CHECK.bad("^!", 1);
        CHECK.good("", 0);
        CHECK.good(" ", 0);
        CHECK.good("\n", 0);
    }

    private static void lettersOfAName() {
        for (String name : new String[] {"a", "z", "az", "abcde", "zzzzz"}) {
            CHECK.good("person " + name + " 0;thing " + name + " " + name + " 0 1;paper " + name + " " + name
                    + " 0 0 will give " + name + " " + name + ";lost " + name + " 0;dies " + name + " 0;", 5);
        }
        CHECK.bad("person ^0;", 1);
        CHECK.bad("person ^abcdef 0;", 1);
        CHECK.bad("person ^zzzzzz 0;", 1);
        CHECK.bad("person a 0;thing ^abcdef a 0 1;", 1);
        CHECK.bad("person a 0;paper ^abcdef a 0 0 will;", 1);
        // five letters alike are not enough
        CHECK.good("person abcde 0;person abcdf 0;person bbcde 0;", 3);
        CHECK.bad("person abcde 0;dies ^abcdef 1;", 1);
        CHECK.bad("person abcde 0;dies ^abcd 1;", 1);
    }

    private static void wordsThatAreNoNames() {
        for (String word : WORDS) {
            CHECK.bad("person ^" + word + " 0;", 1);
            CHECK.bad("person a 0;thing ^" + word + " a 0 1;", 1);
            CHECK.bad("person a 0;paper ^" + word + " a 0 0 will;", 1);
            CHECK.bad("person a 0;dies ^" + word + " 0;", 1);
            String shorter = word.substring(0, word.length() - 1);
            boolean isWord = shorter.equals("strike");
            if (shorter.length() <= 5) {
                CHECK.good("person " + shorter + " 0;", 1);
            } else {
                CHECK.bad("person ^" + shorter + " 0;", 1);
            }
            CHECK.due(shorter + " is a word, too", isWord, java.util.List.of(WORDS).contains(shorter));
            if (word.length() < 5) {
                CHECK.good("person " + word + "x 0;person x" + word + " 0;", 2);
            }
            // with one letter more it is no word of a LINE
            CHECK.bad("^" + word + "x", 1);
        }
    }

    // ---- numbers

    /** The numbers from least to most may stand for the sign #; the one above is too much, and so is 0 if it is below. */
    private static void numbers(String text, int lines, int least, int most) {
        int place = text.indexOf('#');
        CHECK.good(text.replace("#", String.valueOf(least)), lines);
        CHECK.good(text.replace("#", String.valueOf(most)), lines);
        CHECK.good(text.replace("#", "000" + most), lines);
        if (most > least) {
            CHECK.good(text.replace("#", String.valueOf(most - 1)), lines);
            CHECK.good(text.replace("#", String.valueOf(least + 1)), lines);
        }
        CHECK.bad(text.replace("#", String.valueOf(most + 1)), 2, place);
        CHECK.bad(text.replace("#", "10" + most), 2, place);
        if (least > 0) {
            CHECK.bad(text.replace("#", String.valueOf(least - 1)), 2, place);
        }
        CHECK.bad(text.replace("#", "-1"), 1, place);
        CHECK.bad(text.replace("#", "a"), 1, place);
        CHECK.bad(text.replace("#", "own"), 1, place);
    }

    private static void numbersOfLands() {
        for (int l = 0; l <= 1; l++) {
            for (int n = 0; n <= 4; n++) {
                WillDeposit deposit = CHECK.told("land " + l + " " + n + ";");
                CHECK.due("WITNESSES", n, deposit.land(l, 0));
                CHECK.due("2 without a LINE", 2, deposit.land(1 - l, 0));
            }
            CHECK.bad("land " + l + " ^5;", 2);
            CHECK.bad("land " + l + " ^10;", 2);
            CHECK.bad("land " + l + "^;", 1);
        }
        CHECK.bad("land ^2 0;", 2);
        CHECK.bad("land ^3 5;", 2);
        CHECK.bad("land ^10 0;", 2);
        CHECK.good("land 1 0;land 0 0;", 2);
    }

    private static void numbersOfPersonsAndWeddings() {
        numbers("person a #;", 1, 0, 1);
        numbers("person a 0;person b 0;wed a b #;", 3, 0, 9999);
        numbers("person a 0;dies a #;", 2, 0, 9999);
        CHECK.due("HOME 1", 1, Check.person(CHECK.told("person a 1;"), 0, 0));
        CHECK.due("dead on DAY 0", 0, Check.person(CHECK.told("person a 1;dies a 0;"), 0, 1));
        CHECK.due("dead on DAY 9999", 9999, Check.person(CHECK.told("person a 1;dies a 9999;"), 0, 1));
    }

    private static void numbersOfThings() {
        numbers("person a 0;thing t a # 1;", 2, 0, 1);
        numbers("person a 0;thing t a 0 #;", 2, 1, 9999);
        CHECK.due("WORTH 1", 1, CHECK.told("person a 0;thing t a 0 1;").thing(0, 2));
        CHECK.due("WORTH 9999", 9999, CHECK.told("person a 0;thing t a 0 9999;").thing(0, 2));
        CHECK.due("LAND 1", 1, CHECK.told("person a 0;thing t a 1 9999;").thing(0, 1));
    }

    private static void numbersOfPapers() {
        numbers("person a 0;paper p a # 0 will;", 2, 0, 9999);
        numbers("person a 0;paper p a 0 # will;", 2, 0, 1);
        numbers("person a 0;paper p a 0 0 will;lost p #;", 3, 0, 3);
        CHECK.due("DAY 9999", 9999, Check.paper(CHECK.told("person a 0;paper p a 9999 1 will;"), 0, 1));
        CHECK.due("no COPY", 0, Check.paper(CHECK.told("person a 0;paper p a 0 1 will;lost p 0;"), 0, 8));
        CHECK.due("3 COPIES", 3, Check.paper(CHECK.told("person a 0;paper p a 0 1 will;lost p 3;"), 0, 8));
    }

    private static void numbersLeftOut() {
        CHECK.bad("land ^;", 1);
        CHECK.bad("land 0^;", 1);
        CHECK.bad("person a^;", 1);
        CHECK.bad("person a 0;person b 0;wed a b^;", 1);
        CHECK.bad("person a 0;dies a^;", 1);
        CHECK.bad("person a 0;thing t a 1^;", 1);
        CHECK.bad("person a 0;paper p a 1 ^will;", 1);
        CHECK.bad("person a 0;paper p a 0 0 will;lost p^;", 1);
    }

    private static void longNumbers() {
        for (String number : new String[] {"10000", "65536", "99999", "100000", "2147483647", "2147483648", "4294967295",
            "4294967296", "4294967297", "9223372036854775808", "18446744073709551616", "18446744073709551617"}) {
            CHECK.bad("person a 0;dies a ^" + number + ";", 2);
            CHECK.bad("person ^" + number + " 0;", 1);
            CHECK.bad("land ^" + number + " 0;", 2);
        }
        CHECK.good("person a 0;dies a 00000000000000000000000000009999;", 2);
    }

    // ---- once each, and how many at most

    private static void landsOnce() {
        CHECK.good("land 1 3;", 1);
        CHECK.good("land 1 3;land 0 3;", 2);
        CHECK.bad("land 1 3;land ^1 2;", 3);
        CHECK.bad("land 0 3;land 1 3;land ^0 3;", 3);
        CHECK.bad("land 0 3;land 1 3;land ^1 3;", 3);
        String[] has = {"own", "wed", "copies", "half"};
        for (int h = 0; h < has.length; h++) {
            WillDeposit deposit = CHECK.told("land 0 1 " + has[h] + ";");
            for (int what = 1; what <= 4; what++) {
                CHECK.due(has[h] + ", land(0, " + what + ")", what == h + 1 ? 1 : 0, deposit.land(0, what));
                CHECK.due("nothing without", 0, deposit.land(1, what));
            }
            CHECK.bad("land 0 1 " + has[h] + " ^" + has[h] + ";", 3);
            CHECK.bad("land 0 1 half copies wed own ^" + has[h] + ";", 3);
        }
        CHECK.good("land 0 1 half copies wed own;land 1 1 wed own half copies;", 2);
    }

    private static void tenPersons() {
        for (int many : new int[] {0, 1, 9, 10}) {
            CHECK.good(Texts.persons(many), many);
            CHECK.due("PERSONS", many, CHECK.told(Texts.persons(many)).count(1));
        }
        CHECK.bad(Texts.persons(10) + "^person k 0;", 2);
        CHECK.bad(Texts.persons(10) + "^person a 9;", 2);
        CHECK.bad(Texts.persons(10) + "^person", 2);
        CHECK.good(Texts.persons(10) + "dies j 1;", 11);
    }

    private static void eightThings() {
        for (int many : new int[] {0, 1, 7, 8}) {
            CHECK.good(Texts.persons(1) + Texts.things(many), 1 + many);
            CHECK.due("THINGS", many, CHECK.told(Texts.persons(1) + Texts.things(many)).count(2));
        }
        CHECK.bad(Texts.persons(1) + Texts.things(8) + "^thing i a 0 1;", 2);
        CHECK.bad(Texts.persons(1) + Texts.things(8) + "^thing a x 7 0;", 2);
        CHECK.bad(Texts.persons(1) + Texts.things(8) + "^thing", 2);
    }

    private static void twelvePapers() {
        for (int many : new int[] {0, 1, 11, 12}) {
            CHECK.good(Texts.persons(1) + Texts.papers(many), 1 + many);
            CHECK.due("PAPERS", many, CHECK.told(Texts.persons(1) + Texts.papers(many)).count(3));
        }
        CHECK.bad(Texts.persons(1) + Texts.papers(12) + "^paper m a 0 0 adds;", 2);
        CHECK.bad(Texts.persons(1) + Texts.papers(12) + "^paper a x", 2);
        CHECK.good(Texts.persons(1) + Texts.papers(12) + Texts.each("lost ? 3;", 0, 12), 25);
    }

    private static void sixWeddings() {
        for (int many : new int[] {0, 1, 5, 6}) {
            CHECK.good(Texts.persons(2) + "wed a b 3;".repeat(many), 2 + many);
            CHECK.due("WEDDINGS", many, CHECK.told(Texts.persons(2) + "wed a b 3;".repeat(many)).count(4));
        }
        CHECK.bad(Texts.persons(2) + "wed a b 3;".repeat(6) + "^wed a b 3;", 2);
        CHECK.bad(Texts.persons(2) + "wed a b 3;".repeat(6) + "^wed a a 3;", 2);
        CHECK.bad(Texts.persons(2) + "wed a ^a 3;", 3);
        CHECK.bad(Texts.persons(2) + "wed b ^b 10000;", 3);
    }

    private static void fourWitnesses() {
        String paper = Texts.persons(7) + "paper p a 0 0 will";
        for (int many : new int[] {0, 1, 3, 4}) {
            String text = paper + Texts.each(" witness ?", 1, many) + ";";
            CHECK.good(text, 8);
            CHECK.due("WITNESSES", (1 << many) - 1 << 1, Check.paper(CHECK.told(text), 0, 5));
        }
        String four = paper + Texts.each(" witness ?", 1, 4);
        CHECK.bad(four + " ^witness f;", 2);
        CHECK.bad(four + " ^witness a;", 2);
        CHECK.bad(four + " ^witness;", 2);
        CHECK.bad(paper + " witness ^a;", 3);
        CHECK.bad(paper + " witness b witness ^b;", 3);
        CHECK.bad(paper + Texts.each(" witness ?", 1, 3) + " witness ^d;", 3);
        // the next PAPER has its own four
        CHECK.good(four + ";paper q b 0 0 will witness a" + Texts.each(" witness ?", 2, 3) + ";", 9);
    }

    private static void sixGives() {
        String paper = Texts.persons(3) + Texts.things(2) + "paper p a 0 0 will";
        for (int many : new int[] {0, 1, 5, 6}) {
            String text = paper + " give b c".repeat(many) + ";";
            CHECK.good(text, 6);
            CHECK.due("GIVES", many, Check.paper(CHECK.told(text), 0, 6));
        }
        CHECK.bad(paper + " give b c".repeat(6) + " ^give b c;", 2);
        CHECK.bad(paper + " give b c".repeat(6) + " ^give x", 2);
        CHECK.good(paper + " give b c".repeat(6) + ";paper q a 0 0 will" + " give a a".repeat(6) + ";", 7);
        CHECK.bad(paper + " give b c or ^c;", 3);
        CHECK.bad(paper + " give b c if c or ^c;", 3);
        CHECK.good(paper + " give b c if c or a;", 6);
    }

    private static void threeStrikes() {
        String papers = Texts.persons(2) + Texts.papers(5);
        for (int many : new int[] {0, 1, 2, 3}) {
            CHECK.good(papers + "paper p a 0 0 will" + Texts.each(" strike ?", 0, many) + ";", 8);
        }
        String three = papers + "paper p a 0 0 strikes" + Texts.each(" strike ?", 0, 3);
        CHECK.bad(three + " ^strike d;", 2);
        CHECK.bad(three + " ^strike a;", 2);
        CHECK.bad(three + " ^strike", 2);
        CHECK.good(three + ";paper q a 0 0 strikes" + Texts.each(" strike ?", 2, 3) + ";", 9);
        CHECK.bad(papers + "paper p a 0 0 strikes strike e strike ^e;", 3);
        CHECK.bad(papers + "paper p a 0 0 strikes strike c strike b strike ^c;", 3);
        CHECK.bad(papers + "paper p b 0 0 strikes strike ^a;", 3);
        CHECK.bad(papers + "paper p a 0 0 strikes strike ^p;", 1);
        CHECK.bad(papers + "paper p a 0 0 strikes strike ^q;paper q a 0 0 will;", 1);
    }

    private static void ownAndRestOnce() {
        String paper = Texts.persons(2) + "paper p a 0 0 will";
        CHECK.due("not by OWN HAND", 0, Check.paper(CHECK.told(paper + ";"), 0, 4));
        CHECK.due("by OWN HAND", 1, Check.paper(CHECK.told(paper + " own;"), 0, 4));
        CHECK.bad(paper + " own ^own;", 3);
        CHECK.bad(paper + " own rest a ^own", 3);
        CHECK.due("no rest", -2, Check.paper(CHECK.told(paper + ";"), 0, 7));
        CHECK.due("rest to the first PERSON", 0, Check.paper(CHECK.told(paper + " rest a;"), 0, 7));
        CHECK.bad(paper + " rest a ^rest b;", 3);
        CHECK.bad(paper + " rest a own ^rest x", 3);
        CHECK.good(paper + " rest a own;paper q b 0 0 will own rest a;", 4);
    }

    private static void twoParents() {
        String four = Texts.persons(4);
        CHECK.good(four + "child d a;", 5);
        CHECK.good(four + "child d a;child d b;", 6);
        CHECK.bad(four + "child d a;child d b;child d ^c;", 3);
        CHECK.bad(four + "child d a;child d b;child d ^a;", 3);
        CHECK.bad(four + "child d a;child d ^a;", 3);
        CHECK.due("two PARENTS", 0b0110, Check.person(CHECK.told(four + "child d c;child d b;"), 3, 3));
        CHECK.good(four + "child d a;child d b;child c a;child c b;", 8);
        String all = Texts.persons(10) + "child b a;" + Texts.each("child ? a;child ? b;", 2, 8);
        CHECK.due("nine CHILDREN", 0b1111111110, Check.person(CHECK.told(all), 0, 2));
    }

    private static void behindItsParent() {
        CHECK.good("person a 0;person b 0;child b a;", 3);
        CHECK.bad("person a 0;person b 0;child a ^b;", 3);
        CHECK.bad("person a 0;person b 0;child a ^a;", 3);
        CHECK.bad("person a 0;person b 0;child b ^b;", 3);
        CHECK.good(Texts.persons(10) + "child j i;child j a;", 12);
        CHECK.bad(Texts.persons(10) + "child i ^j;", 3);
    }

    private static void lostOnceDeadOnce() {
        String two = "person a 0;person b 0;paper p a 0 0 will;paper q a 0 0 will;";
        CHECK.good(two + "lost q 0;lost p 0;dies b 0;dies a 0;", 8);
        CHECK.bad(two + "lost q 0;lost ^q 0;", 3);
        CHECK.bad(two + "lost q 3;lost p 0;lost ^q 4;", 3);
        CHECK.bad(two + "dies a 0;dies ^a 0;", 3);
        CHECK.bad(two + "dies a 9999;dies b 0;dies ^a 10000;", 3);
    }

    private static void namesInTheirKind() {
        CHECK.good("person a 0;thing a a 0 1;paper a a 0 0 will give a a;", 3);
        CHECK.bad("person a 0;person ^a 0;", 3);
        CHECK.bad("person a 0;thing b a 0 1;thing ^b a 0 1;", 3);
        CHECK.bad("person a 0;paper b a 0 0 will;paper ^b a 0 0 will;", 3);
        CHECK.bad(Texts.persons(9) + "person ^i 0;", 3);
        CHECK.bad("person a 0;thing b a 0 1;dies ^b 0;", 1);
        CHECK.bad("person a 0;thing b a 0 1;lost ^b 0;", 1);
        CHECK.bad("person a 0;paper b a 0 0 will;dies ^b 0;", 1);
        CHECK.bad("person a 0;paper b a 0 0 will;lost ^a 0;", 1);
        CHECK.bad("person a 0;paper b a 0 0 will give ^b a;", 1);
        WillDeposit deposit = CHECK.told("person x 0;person a 1;thing a x 0 7;thing x a 1 8;"
                + "paper a x 3 0 will give x a;paper x a 4 1 will give a x;");
        CHECK.due("numbered from 0 on as told", 1, Check.person(deposit, 1, 0));
        CHECK.due("OWNER of thing 0", 0, deposit.thing(0, 0));
        CHECK.due("OWNER of thing 1", 1, deposit.thing(1, 0));
        CHECK.due("THING of the first PAPER", 1, deposit.give(0, 0, 0));
        CHECK.due("PERSON of the first PAPER", 1, deposit.give(0, 0, 1));
        CHECK.due("THING of the second PAPER", 0, deposit.give(1, 0, 0));
        CHECK.due("PERSON of the second PAPER", 0, deposit.give(1, 0, 1));
    }

    private static void toldAhead() {
        CHECK.bad("child ^b a;person a 0;person b 0;", 1);
        CHECK.bad("person a 0;wed a ^b 0;person b 0;", 1);
        CHECK.bad("thing t ^a 0 1;person a 0;", 1);
        CHECK.bad("paper p ^a 0 0 will;person a 0;", 1);
        CHECK.bad("person a 0;paper p a 0 0 will give ^t a;thing t a 0 1;", 1);
        CHECK.bad("person a 0;lost ^p 0;paper p a 0 0 will;", 1);
        CHECK.bad("dies ^a 0;person a 0;", 1);
    }

    // ---- several FAULTS

    private static void ofOnePlaceTheLeast() {
        // a word of which there are too many already, where it can't stand at all
        CHECK.bad(Texts.persons(10) + "land 0 2 ^person k 0;", 1);
        CHECK.bad(Texts.persons(10) + "dies ^person 0;", 1);
        CHECK.bad(Texts.persons(1) + Texts.things(8) + "person b 0 ^thing", 1);
        CHECK.bad(Texts.persons(1) + Texts.papers(12) + "lost ^paper 0;", 1);
        CHECK.bad(Texts.persons(2) + "wed a b 0;".repeat(6) + "dies a 0 ^wed", 1);
        String paper = Texts.persons(6) + Texts.things(1) + "paper p a 0 0 will";
        CHECK.bad(paper + Texts.each(" witness ?", 1, 4) + " rest ^witness", 1);
        CHECK.bad(paper + " give a b".repeat(6) + " rest ^give", 1);
        // a word told already, where it can't stand
        CHECK.bad(paper + " own rest ^own;", 1);
        CHECK.bad(paper + " rest a give a ^rest;", 1);
        CHECK.bad("land 0 2 own;land ^own", 1);
        // a number beyond all, where none can stand
        CHECK.bad("person ^10000 0;", 1);
        CHECK.bad("person a 0 ^2;", 1);
        CHECK.bad("land 0 2 ^5;", 1);
        // a NAME told already, where none can stand
        CHECK.bad("person a 0;person b ^a;", 1);
        CHECK.bad("person a 0 ^a;", 1);
    }

    private static void firstAlongTheText() {
        CHECK.bad("land ^2 5 own own $", 2);
        CHECK.bad("land 0 ^5 own own $", 2);
        CHECK.bad("land 0 4 own ^own $", 3);
        CHECK.bad("land 0 4 own ^$ own", 1);
        CHECK.bad("land 0 4;land ^0 5;person abcdef", 3);
        CHECK.bad("person a 0;person ^a 2;", 3);
        CHECK.bad("person a 0;wed ^x x 10000;", 1);
        CHECK.bad("person a 0;wed a ^a 10000", 3);
        CHECK.bad("person a 0;thing t a ^2 0", 2);
        CHECK.bad("person a 0;thing t a 0 ^0", 2);
        CHECK.bad("person a 0;paper p a ^10000 2 own", 2);
        CHECK.bad("person a 0;paper p a 0 ^2 own", 2);
        CHECK.bad("person a 0;paper p a 0 0 ^own", 1);
        CHECK.bad("person a 0;dies a 0;dies ^a 10000", 3);
        CHECK.bad("person a 0;paper p a 0 0 will;lost p ^4 4", 2);
        CHECK.bad("land 0 2 ^land 0 2;", 1);
    }
}
