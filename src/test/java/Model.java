import java.math.BigInteger;
import java.util.ArrayList;
import java.util.List;

/** The document once more, in its plainest form and without a thought for cost: what a deposit is held against. */
final class Model {
    static final int NEVER = -1;

    static final class Fault extends RuntimeException {
        private static final long serialVersionUID = 1L;
        final int number;
        final int place;

        Fault(int number, int place) {
            this.number = number;
            this.place = place;
        }
    }

    static final class Land {
        int witnesses = 2;
        List<String> has = new ArrayList<>();
        boolean told;
    }

    static final class Person {
        String name;
        int home;
        int death = NEVER;
        List<Integer> parents = new ArrayList<>();
    }

    static final class Wedding {
        int one;
        int other;
        int day;
    }

    static final class Thing {
        String name;
        int owner;
        int land;
        int worth;
    }

    static final class Give {
        int thing;
        int to;
        int condition;
        int person = -2;
        int other = -2;
    }

    static final class Paper {
        String name;
        int maker;
        int day;
        int land;
        String kind;
        boolean own;
        List<Integer> witnesses = new ArrayList<>();
        List<Give> gives = new ArrayList<>();
        int rest = -2;
        List<Integer> strikes = new ArrayList<>();
        boolean lost;
        int copies;
        boolean taken;
    }

    static final class Fraction {
        static final Fraction ZERO = new Fraction(BigInteger.ZERO, BigInteger.ONE);
        static final Fraction ONE = new Fraction(BigInteger.ONE, BigInteger.ONE);
        final BigInteger above;
        final BigInteger below;

        Fraction(BigInteger above, BigInteger below) {
            BigInteger common = above.gcd(below);
            this.above = above.divide(common);
            this.below = below.divide(common);
        }

        Fraction plus(Fraction o) {
            return new Fraction(above.multiply(o.below).add(o.above.multiply(below)), below.multiply(o.below));
        }

        Fraction dividedBy(int n) {
            return new Fraction(above, below.multiply(BigInteger.valueOf(n)));
        }

        boolean isZero() {
            return above.signum() == 0;
        }
    }

    final Land[] lands = {new Land(), new Land()};
    final List<Person> persons = new ArrayList<>();
    final List<Wedding> weddings = new ArrayList<>();
    final List<Thing> things = new ArrayList<>();
    final List<Paper> papers = new ArrayList<>();
    int lines;

    Model copyOf() {
        Model m = new Model();
        for (int l = 0; l < 2; l++) {
            m.lands[l] = lands[l];
        }
        for (Person p : persons) {
            Person q = new Person();
            q.name = p.name;
            q.home = p.home;
            q.death = p.death;
            q.parents = p.parents;
            m.persons.add(q);
        }
        m.weddings.addAll(weddings);
        m.things.addAll(things);
        for (Paper p : papers) {
            Paper q = new Paper();
            q.name = p.name;
            q.maker = p.maker;
            q.day = p.day;
            q.land = p.land;
            q.kind = p.kind;
            q.own = p.own;
            q.witnesses = new ArrayList<>(p.witnesses);
            q.gives = p.gives;
            q.rest = p.rest;
            q.strikes = p.strikes;
            q.lost = p.lost;
            q.copies = p.copies;
            q.taken = p.taken;
            m.papers.add(q);
        }
        m.lines = lines;
        return m;
    }

    // ---- the law

    boolean lives(int person, int day) {
        int death = persons.get(person).death;
        return death == NEVER || death > day;
    }

    boolean later(int a, int b) {
        int one = papers.get(a).day;
        int other = papers.get(b).day;
        return one > other || one == other && a > b;
    }

    int lived(int paper) {
        int n = 0;
        for (int w : papers.get(paper).witnesses) {
            n += lives(w, papers.get(paper).day) ? 1 : 0;
        }
        return n;
    }

    boolean byHand(int paper, int land) {
        return papers.get(paper).own && lands[land].has.contains("own");
    }

    boolean form(int paper, int land) {
        return byHand(paper, land) || lived(paper) >= lands[land].witnesses;
    }

    boolean proved(int paper) {
        Paper p = papers.get(paper);
        return !p.lost || p.copies >= 1 && lands[p.land].has.contains("copies");
    }

    boolean good(int paper, int thing) {
        Paper p = papers.get(paper);
        int death = persons.get(p.maker).death;
        return !p.taken && death != NEVER && p.day < death && proved(paper)
                && (form(paper, p.land) || form(paper, things.get(thing).land));
    }

    int struckBy(int paper, int thing) {
        int by = -2;
        for (int q = 0; q < papers.size(); q++) {
            Paper other = papers.get(q);
            if (other.maker == papers.get(paper).maker && later(q, paper) && good(q, thing)
                    && (other.kind.equals("will") || other.strikes.contains(paper)) && (by < 0 || later(q, by))) {
                by = q;
            }
        }
        return by;
    }

    boolean broken(int paper) {
        Paper p = papers.get(paper);
        if (!lands[p.land].has.contains("wed")) {
            return false;
        }
        for (Wedding w : weddings) {
            if ((w.one == p.maker || w.other == p.maker) && w.day > p.day && w.day < persons.get(p.maker).death) {
                return true;
            }
        }
        return false;
    }

    int why(int paper, int thing) {
        Paper p = papers.get(paper);
        int death = persons.get(p.maker).death;
        if (p.taken) {
            return 7;
        }
        if (death == NEVER) {
            return 1;
        }
        if (p.day >= death) {
            return 2;
        }
        if (!proved(paper)) {
            return 3;
        }
        if (!form(paper, p.land) && !form(paper, things.get(thing).land)) {
            return 4;
        }
        if (struckBy(paper, thing) != -2) {
            return 5;
        }
        return broken(paper) ? 6 : 0;
    }

    List<Integer> counting(int maker, int thing) {
        List<Integer> all = new ArrayList<>();
        for (int p = 0; p < papers.size(); p++) {
            if (papers.get(p).maker == maker && why(p, thing) == 0) {
                all.add(p);
            }
        }
        all.sort((a, b) -> later(a, b) ? -1 : later(b, a) ? 1 : 0);
        return all;
    }

    boolean mayTake(int person, int paper, int thing, int day) {
        if (person < 0 || !lives(person, day)) {
            return false;
        }
        Paper p = papers.get(paper);
        return !p.witnesses.contains(person) || byHand(paper, p.land) || byHand(paper, things.get(thing).land);
    }

    /** TAKER and PAPER; {-2, -2} without. */
    int[] taker(int person, int thing) {
        int day = persons.get(person).death;
        List<Integer> counting = counting(person, thing);
        for (int paper : counting) {
            for (Give g : papers.get(paper).gives) {
                boolean so = g.condition == 0 || lives(g.person, day) == (g.condition == 1);
                if (g.thing == thing && so) {
                    if (mayTake(g.to, paper, thing, day)) {
                        return new int[] {g.to, paper};
                    }
                    if (mayTake(g.other, paper, thing, day)) {
                        return new int[] {g.other, paper};
                    }
                }
            }
        }
        for (int paper : counting) {
            if (mayTake(papers.get(paper).rest, paper, thing, day)) {
                return new int[] {papers.get(paper).rest, paper};
            }
        }
        return new int[] {-2, -2};
    }

    List<Integer> children(int person) {
        List<Integer> all = new ArrayList<>();
        for (int p = 0; p < persons.size(); p++) {
            if (persons.get(p).parents.contains(person)) {
                all.add(p);
            }
        }
        return all;
    }

    List<Integer> living(List<Integer> some, int day) {
        List<Integer> all = new ArrayList<>();
        for (int p : some) {
            if (lives(p, day)) {
                all.add(p);
            }
        }
        return all;
    }

    int wedLast(int person, int upTo) {
        int spouse = -2;
        int day = -1;
        for (Wedding w : weddings) {
            if (w.day <= upTo && w.day >= day && (w.one == person || w.other == person)) {
                spouse = w.one + w.other - person;
                day = w.day;
            }
        }
        return spouse;
    }

    List<Integer> heirs(int person) {
        int day = persons.get(person).death;
        List<Integer> children = living(children(person), day);
        if (!children.isEmpty()) {
            return children;
        }
        int spouse = wedLast(person, day);
        if (spouse >= 0 && lives(spouse, day)) {
            return List.of(spouse);
        }
        return living(persons.get(person).parents, day);
    }

    static int bits(List<Integer> some) {
        int bits = 0;
        for (int p : some) {
            bits |= 1 << p;
        }
        return bits;
    }

    List<Integer> deaths() {
        List<Integer> all = new ArrayList<>();
        for (int p = 0; p < persons.size(); p++) {
            if (persons.get(p).death != NEVER) {
                all.add(p);
            }
        }
        all.sort((a, b) -> persons.get(a).death != persons.get(b).death
                ? Integer.compare(persons.get(a).death, persons.get(b).death) : Integer.compare(a, b));
        return all;
    }

    // ---- how things go on

    /** What comes of a THING up to a DAY. */
    static final class Way {
        final Fraction[] parts = new Fraction[11];
        int ever;
        int left;
        int moves;
        int last = -2;

        int holders() {
            int bits = 0;
            for (int h = 0; h <= 10; h++) {
                bits |= parts[h].isZero() ? 0 : 1 << h;
            }
            return bits;
        }

        void give(int to, Fraction part) {
            parts[to] = parts[to].plus(part);
        }
    }

    Way way(int thing, int day) {
        Way way = new Way();
        java.util.Arrays.fill(way.parts, Fraction.ZERO);
        way.parts[things.get(thing).owner] = Fraction.ONE;
        way.ever = way.holders();
        for (int dead : deaths()) {
            Fraction part = way.parts[dead];
            int death = persons.get(dead).death;
            if (death > day || part.isZero()) {
                continue;
            }
            way.parts[dead] = Fraction.ZERO;
            int taker = taker(dead, thing)[0];
            List<Integer> children = living(children(dead), death);
            List<Integer> heirs = heirs(dead);
            if (taker >= 0 && lands[things.get(thing).land].has.contains("half") && !children.isEmpty()) {
                way.give(taker, part.dividedBy(2));
                for (int child : children) {
                    way.give(child, part.dividedBy(2).dividedBy(children.size()));
                }
            } else if (taker >= 0) {
                way.give(taker, part);
            } else if (heirs.isEmpty()) {
                way.give(10, part);
            } else {
                for (int heir : heirs) {
                    way.give(heir, part.dividedBy(heirs.size()));
                }
            }
            way.left |= 1 << dead;
            way.ever |= way.holders();
            way.moves++;
            way.last = death;
        }
        return way;
    }

    int holders(int thing) {
        return way(thing, 9999).holders();
    }

    int wealth(int holder) {
        int sum = 0;
        for (int t = 0; t < things.size(); t++) {
            Fraction part = way(t, 9999).parts[holder];
            BigInteger worth = BigInteger.valueOf(100L * things.get(t).worth);
            sum += part.above.multiply(worth).divide(part.below).intValueExact();
        }
        return sum;
    }

    Model without(int paper) {
        Model m = copyOf();
        m.papers.get(paper).taken = true;
        return m;
    }

    int gain(int person, int paper) {
        return wealth(person) - without(paper).wealth(person);
    }

    int[] against(int person) {
        int[] worst = {-2, -2};
        int least = 0;
        for (int p = 0; p < papers.size(); p++) {
            int gain = gain(person, p);
            if (gain < least) {
                least = gain;
                worst = new int[] {p, gain};
            }
        }
        return worst;
    }

    int[] key() {
        int[] best = {-2, -2};
        for (int p = 0; p < papers.size(); p++) {
            Model m = without(p);
            int n = 0;
            for (int t = 0; t < things.size(); t++) {
                n += m.holders(t) != holders(t) ? 1 : 0;
            }
            if (n > best[1]) {
                best = new int[] {p, n};
            }
        }
        return best;
    }

    int dayFor(int person, int taker, int thing, int step) {
        Model m = copyOf();
        for (int day = 0; day <= 9999; day++) {
            // days behind all that is told are alike
            if (day > step && day < 9999) {
                continue;
            }
            m.persons.get(person).death = day;
            if ((m.holders(thing) >> taker & 1) != 0) {
                return day;
            }
        }
        return -2;
    }

    boolean givesTo(int paper, int person) {
        Paper p = papers.get(paper);
        if (p.rest == person) {
            return true;
        }
        for (Give g : p.gives) {
            if (g.to == person || g.other == person) {
                return true;
            }
        }
        return false;
    }

    int naming(int maker, int person) {
        int bits = 0;
        for (int p = 0; p < papers.size(); p++) {
            bits |= papers.get(p).maker == maker && givesTo(p, person) ? 1 << p : 0;
        }
        return bits;
    }

    boolean sees(int person, int paper, int day) {
        Paper p = papers.get(paper);
        if (!lives(person, day)) {
            return false;
        }
        if (lives(p.maker, day)) {
            return person == p.maker;
        }
        return p.witnesses.contains(person) || givesTo(paper, person) || heirs(p.maker).contains(person);
    }

    int margin(int paper) {
        if (byHand(paper, 0) || byHand(paper, 1) || lands[0].witnesses == 0 || lands[1].witnesses == 0) {
            return -3;
        }
        if (!form(paper, 0) && !form(paper, 1)) {
            return -2;
        }
        int gone = 0;
        while (lived(paper) - gone >= lands[0].witnesses || lived(paper) - gone >= lands[1].witnesses) {
            gone++;
        }
        return gone;
    }

    int kin(int one, int other) {
        List<Integer> reached = new ArrayList<>(List.of(one));
        for (int steps = 0; steps <= 10; steps++) {
            if (reached.contains(other)) {
                return steps;
            }
            List<Integer> more = new ArrayList<>(reached);
            for (int p : reached) {
                more.addAll(persons.get(p).parents);
                more.addAll(children(p));
            }
            reached = new ArrayList<>(new java.util.TreeSet<>(more));
        }
        return -2;
    }
}
