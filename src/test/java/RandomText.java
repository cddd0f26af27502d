import java.util.ArrayList;
import java.util.List;
import java.util.Random;

/** Makes texts without a FAULT, and texts that most often have one. Seeds are fixed: the same texts each time. */
final class RandomText {
    private static final String[] PEOPLE = {"ann", "bob", "cat", "dan", "eve", "fay", "gus", "hal", "ida", "jo"};
    private static final String[] GOODS = {"home", "boat", "ring", "cow", "ann", "mill", "pot", "bed"};
    private static final String[] SHEETS = {"pa", "pb", "pc", "pd", "pe", "pf", "pg", "ph", "pi", "pj", "pk", "ann"};
    private static final String[] ODD = {"land", "person", "child", "wed", "thing", "paper", "lost", "dies", "own",
        "copies", "half", "will", "adds", "strikes", "witness", "give", "if", "unless", "or", "rest", "strike", ";",
        "0", "1", "2", "3", "4", "5", "9999", "10000", "4294967297", "ann", "bob", "pa", "home", "abcdef", "$", "x"};

    private final Random random;
    private final int lastDay;
    /** Between the DAYS that are told there may be some that are not. */
    private final int step;

    RandomText(long seed) {
        random = new Random(seed);
        lastDay = random.nextInt(4) == 0 ? 9999 : 3 + random.nextInt(12);
        step = lastDay < 9999 && random.nextInt(2) == 0 ? 1 + random.nextInt(6) : 1;
    }

    int below(int bound) {
        return random.nextInt(bound);
    }

    int day() {
        return random.nextInt(40) == 0 ? random.nextInt(2) * 9999 : step * random.nextInt(lastDay + 1);
    }

    private static List<Integer> some(Random random, int of, int many) {
        List<Integer> all = new ArrayList<>();
        for (int i = 0; i < of; i++) {
            all.add(i);
        }
        java.util.Collections.shuffle(all, random);
        return all.subList(0, Math.min(of, many));
    }

    String make() {
        List<String> lines = new ArrayList<>();
        int people = 1 + random.nextInt(10);
        int goods = random.nextInt(random.nextInt(8) + 1) + (random.nextInt(5) == 0 ? 0 : 1);
        for (int l = 0; l < 2; l++) {
            if (random.nextInt(5) > 0) {
                StringBuilder line = new StringBuilder("land " + l + " " + random.nextInt(random.nextInt(5) + 1));
                for (int right : some(random, 4, random.nextInt(5))) {
                    line.append(' ').append(new String[] {"own", "wed", "copies", "half"}[right]);
                }
                lines.add(line.toString());
            }
        }
        for (int p = 0; p < people; p++) {
            lines.add("person " + PEOPLE[p] + " " + random.nextInt(2));
            for (int parent : some(random, p, random.nextInt(3))) {
                if (random.nextInt(4) > 0) {
                    lines.add("child " + PEOPLE[p] + " " + PEOPLE[parent]);
                }
            }
        }
        for (int w = random.nextInt(7); w > 0 && people > 1; w--) {
            List<Integer> two = some(random, people, 2);
            lines.add("wed " + PEOPLE[two.get(0)] + " " + PEOPLE[two.get(1)] + " " + day());
        }
        for (int t = 0; t < goods; t++) {
            lines.add("thing " + GOODS[t] + " " + PEOPLE[random.nextInt(people)] + " " + random.nextInt(2) + " "
                    + (1 + random.nextInt(9999)));
        }
        papers(lines, people, goods);
        for (int p = 0; p < people; p++) {
            if (random.nextInt(5) > 1) {
                lines.add("dies " + PEOPLE[p] + " " + day());
            }
        }
        return joined(lines);
    }

    private void papers(List<String> lines, int people, int goods) {
        int sheets = random.nextInt(13);
        int makers = 1 + random.nextInt(people);
        int[] maker = new int[sheets];
        for (int s = 0; s < sheets; s++) {
            maker[s] = random.nextInt(makers);
            StringBuilder line = new StringBuilder("paper " + SHEETS[s] + " " + PEOPLE[maker[s]] + " " + day() + " "
                    + random.nextInt(2) + " " + new String[] {"will", "adds", "adds", "strikes"}[random.nextInt(4)]);
            line.append(random.nextInt(2) == 0 ? " own" : "");
            for (int w : some(random, people, random.nextInt(4))) {
                line.append(w == maker[s] ? "" : " witness " + PEOPLE[w]);
            }
            for (int g = random.nextInt(random.nextInt(5) + 1); g > 0 && goods > 0; g--) {
                int to = random.nextInt(people);
                line.append(" give ").append(GOODS[random.nextInt(goods)]).append(' ').append(PEOPLE[to]);
                int condition = random.nextInt(5);
                line.append(condition > 1 ? "" : (condition == 0 ? " if " : " unless ") + PEOPLE[random.nextInt(people)]);
                int other = random.nextInt(people);
                line.append(random.nextInt(3) > 0 || other == to ? "" : " or " + PEOPLE[other]);
            }
            line.append(random.nextInt(3) > 0 ? "" : " rest " + PEOPLE[random.nextInt(people)]);
            for (int struck : some(random, s, random.nextInt(3))) {
                line.append(maker[struck] == maker[s] ? " strike " + SHEETS[struck] : "");
            }
            lines.add(line.toString());
            if (random.nextInt(5) == 0) {
                lines.add("lost " + SHEETS[s] + " " + random.nextInt(4));
            }
        }
    }

    /** As many of the LINES as the tape takes. */
    private static String joined(List<String> lines) {
        StringBuilder text = new StringBuilder();
        for (String line : lines) {
            if (text.length() + line.length() < 1200) {
                text.append(line).append(';');
            } else {
                break;
            }
        }
        return text.toString();
    }

    /** Puts another number for a number, another name for a name, another word for a word. */
    private void tokenOfLike(List<String> tokens, int at) {
        String[] numbers = {"0", "1", "2", "4", "5", "9999", "10000", "99999999999"};
        String old = tokens.get(at);
        if (old.matches("[0-9]+")) {
            tokens.set(at, numbers[random.nextInt(numbers.length)]);
        } else if (List.of(ODD).subList(0, 21).contains(old)) {
            tokens.set(at, ODD[random.nextInt(21)]);
        } else {
            String[][] names = {PEOPLE, GOODS, SHEETS};
            String[] some = names[random.nextInt(3)];
            tokens.set(at, some[random.nextInt(some.length)]);
        }
    }

    /** The text with something in it made otherwise: a token left out, doubled, put elsewhere or for another one. */
    String spoilt(String text) {
        List<String> tokens = new ArrayList<>(List.of(text.replace(";", " ; ").trim().split(" +")));
        for (int times = 1 + random.nextInt(2); times > 0 && !tokens.isEmpty(); times--) {
            int at = random.nextInt(tokens.size());
            switch (random.nextInt(12)) {
                case 0: tokens.remove(at); break;
                case 1: tokens.add(at, tokens.get(at)); break;
                case 2: tokens.set(at, ODD[random.nextInt(ODD.length)]); break;
                case 3: tokens.add(at, ODD[random.nextInt(ODD.length)]); break;
                case 4: tokens.set(at, tokens.get(random.nextInt(tokens.size()))); break;
                case 5: {
                    int end = Math.min(tokens.size(), at + 1 + random.nextInt(9));
                    List<String> piece = new ArrayList<>(tokens.subList(at, end));
                    tokens.addAll(random.nextInt(tokens.size() + 1), piece);
                    break;
                }
                default: tokenOfLike(tokens, at); break;
            }
        }
        StringBuilder made = new StringBuilder();
        for (String token : tokens) {
            made.append(token).append(random.nextInt(20) == 0 ? "\n" : " ");
        }
        int cut = random.nextInt(4) == 0 ? random.nextInt(made.length() + 1) : made.length();
        return made.substring(0, Math.min(1200, cut));
    }
}
