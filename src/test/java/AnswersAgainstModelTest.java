import java.util.ArrayDeque;
import java.util.ArrayList;
import java.util.Deque;
import java.util.List;

/** Promises 5 to 41: random texts, ACTS and questions, each answer held against the plain model of the tests. */
final class AnswersAgainstModelTest {
    private static final Check CHECK = new Check("AnswersAgainstModelTest");
    private static final int RUNS = 4000;

    private final RandomText random;
    private final WillDeposit deposit;
    private final Deque<Model> earlier = new ArrayDeque<>();
    private final String run;
    private Model model;

    private AnswersAgainstModelTest(int seed) {
        random = new RandomText(seed);
        run = "run " + seed + ": ";
        String text = random.make();
        // an object that was told something else ahead of this text, with ACTS, answers like a new one
        deposit = CHECK.told(seed % 2 == 0 ? "" : random.make());
        deposit.takeBack(0);
        deposit.lose(1, 2);
        CHECK.due(run + "the text has no FAULT", true, Check.readOver(deposit, text) >= 0);
        model = ModelText.read(text);
    }

    public static void main(String[] args) {
        for (int seed = 1; seed <= RUNS; seed++) {
            new AnswersAgainstModelTest(seed).go();
        }
        CHECK.end();
    }

    private void go() {
        for (int k = 0; k < 60; k++) {
            if (k % 4 == 3) {
                act();
            }
            ask(random.below(33));
        }
        for (int k = 0; k < 3; k++) {
            undo();
            ask(random.below(33));
        }
    }

    private void due(String call, long want, long got) {
        CHECK.due(run + call, want, got);
    }

    /** A number of one told, or, now and then, one that isn't. */
    private int of(int count) {
        int chance = random.below(30);
        return chance == 0 ? -1 - random.below(2) : chance == 1 ? count + random.below(2) : count == 0 ? 0
                : random.below(count);
    }

    private int person() {
        return of(model.persons.size());
    }

    private int paper() {
        return of(model.papers.size());
    }

    private int thing() {
        return of(model.things.size());
    }

    private int day() {
        int chance = random.below(40);
        return chance == 0 ? -1 : chance == 1 ? 10000 : chance == 2 ? Integer.MIN_VALUE : random.day();
    }

    private boolean isPerson(int p) {
        return p >= 0 && p < model.persons.size();
    }

    private boolean isPaper(int p) {
        return p >= 0 && p < model.papers.size();
    }

    private boolean isThing(int t) {
        return t >= 0 && t < model.things.size();
    }

    private static boolean isDay(int day) {
        return day >= 0 && day <= 9999;
    }

    private void remember() {
        earlier.push(model);
        if (earlier.size() > 16) {
            earlier.removeLast();
        }
        model = model.copyOf();
    }

    private void act() {
        int paper = paper();
        int person = person();
        switch (random.below(7)) {
            case 0: lose(paper, of(4)); break;
            case 1: find(paper); break;
            case 2: copy(paper); break;
            case 3: witness(paper, person); break;
            case 4: wed(person, person(), day()); break;
            case 5: dies(person, random.below(4) == 0 ? -1 : day()); break;
            default: takeBack(paper); break;
        }
        due("count(7)", earlier.size(), deposit.count(7));
    }

    private void lose(int paper, int copies) {
        boolean does = isPaper(paper) && copies >= 0 && copies <= 3
                && (!model.papers.get(paper).lost || model.papers.get(paper).copies != copies);
        if (does) {
            remember();
            model.papers.get(paper).lost = true;
            model.papers.get(paper).copies = copies;
        }
        due("lose(" + paper + ", " + copies + ")", does ? 1 : 0, deposit.lose(paper, copies) ? 1 : 0);
    }

    private void find(int paper) {
        boolean does = isPaper(paper) && model.papers.get(paper).lost;
        if (does) {
            remember();
            model.papers.get(paper).lost = false;
        }
        due("find(" + paper + ")", does ? 1 : 0, deposit.find(paper) ? 1 : 0);
    }

    private void copy(int paper) {
        int want = -1;
        if (isPaper(paper)) {
            want = -2;
            if (model.papers.get(paper).lost && model.papers.get(paper).copies < 3) {
                remember();
                want = ++model.papers.get(paper).copies;
            }
        }
        due("copy(" + paper + ")", want, deposit.copy(paper));
    }

    private void witness(int paper, int person) {
        int want = -1;
        if (isPaper(paper) && isPerson(person)) {
            want = -2;
            Model.Paper p = model.papers.get(paper);
            if (p.witnesses.size() < 4 && !p.witnesses.contains(person) && p.maker != person) {
                remember();
                model.papers.get(paper).witnesses.add(person);
                want = model.papers.get(paper).witnesses.size();
            }
        }
        due("witness(" + paper + ", " + person + ")", want, deposit.witness(paper, person));
    }

    private void wed(int one, int other, int day) {
        int want = -1;
        if (isPerson(one) && isPerson(other) && one != other && isDay(day)) {
            want = -2;
            if (model.weddings.size() < 6) {
                remember();
                Model.Wedding w = new Model.Wedding();
                w.one = one;
                w.other = other;
                w.day = day;
                model.weddings.add(w);
                want = model.weddings.size();
            }
        }
        due("wed(" + one + ", " + other + ", " + day + ")", want, deposit.wed(one, other, day));
    }

    private void dies(int person, int day) {
        boolean does = isPerson(person) && (day == -1 || isDay(day)) && model.persons.get(person).death != day;
        if (does) {
            remember();
            model.persons.get(person).death = day;
        }
        due("dies(" + person + ", " + day + ")", does ? 1 : 0, deposit.dies(person, day) ? 1 : 0);
    }

    private void takeBack(int paper) {
        boolean does = isPaper(paper) && !model.papers.get(paper).taken;
        if (does) {
            remember();
            model.papers.get(paper).taken = true;
        }
        due("takeBack(" + paper + ")", does ? 1 : 0, deposit.takeBack(paper) ? 1 : 0);
    }

    private void undo() {
        int want = -1;
        if (!earlier.isEmpty()) {
            model = earlier.pop();
            want = earlier.size();
        }
        due("undo()", want, deposit.undo());
    }

    private void ask(int question) {
        if (question < 11) {
            askWhatIsTold(question);
        } else if (question < 22) {
            askTheLaw(question);
        } else {
            askTheWay(question);
        }
    }

    private void askWhatIsTold(int question) {
        int p = person();
        int paper = paper();
        int t = thing();
        int what = of(5);
        switch (question) {
            case 0: case 1: due("person(" + p + ", " + what + ")", personDue(p, what), Check.person(deposit, p, what)); break;
            case 2: case 3: case 4: {
                int field = of(10);
                due("paper(" + paper + ", " + field + ")", paperDue(paper, field), Check.paper(deposit, paper, field));
                break;
            }
            case 5: due("thing(" + t + ", " + what + ")", thingDue(t, what), deposit.thing(t, what)); break;
            case 6: {
                int l = of(2);
                due("land(" + l + ", " + what + ")", landDue(l, what), deposit.land(l, what));
                break;
            }
            case 7: case 8: {
                int k = of(3);
                due("give(" + paper + ", " + k + ", " + what + ")", giveDue(paper, k, what), deposit.give(paper, k, what));
                break;
            }
            default: {
                int number = of(8);
                due("count(" + number + ")", countDue(number), deposit.count(number));
                break;
            }
        }
    }

    private long personDue(int p, int what) {
        if (!isPerson(p)) {
            return Check.INDEX;
        }
        Model.Person one = model.persons.get(p);
        switch (what) {
            case 0: return one.home;
            case 1: return one.death < 0 ? -2 : one.death;
            case 2: return Model.bits(model.children(p));
            case 3: return Model.bits(one.parents);
            case 4: return model.wedLast(p, 10000);
            default: return Check.ELEMENT;
        }
    }

    private long paperDue(int p, int what) {
        if (!isPaper(p)) {
            return Check.INDEX;
        }
        Model.Paper one = model.papers.get(p);
        switch (what) {
            case 0: return one.maker;
            case 1: return one.day;
            case 2: return one.land;
            case 3: return List.of("will", "adds", "strikes").indexOf(one.kind);
            case 4: return one.own ? 1 : 0;
            case 5: return Model.bits(one.witnesses);
            case 6: return one.gives.size();
            case 7: return one.rest;
            case 8: return one.lost ? one.copies : -2;
            case 9: return one.taken ? 1 : 0;
            default: return Check.ELEMENT;
        }
    }

    private long thingDue(int t, int what) {
        if (!isThing(t) || what < 0 || what > 2) {
            return -1;
        }
        Model.Thing one = model.things.get(t);
        return new int[] {one.owner, one.land, one.worth}[what];
    }

    private long landDue(int l, int what) {
        if (l < 0 || l > 1 || what < 0 || what > 4) {
            return -1;
        }
        String[] names = {"", "own", "wed", "copies", "half"};
        return what == 0 ? model.lands[l].witnesses : model.lands[l].has.contains(names[what]) ? 1 : 0;
    }

    private long giveDue(int paper, int k, int what) {
        if (!isPaper(paper) || k < 0 || what < 0 || what > 4) {
            return -1;
        }
        if (k >= model.papers.get(paper).gives.size()) {
            return -2;
        }
        Model.Give g = model.papers.get(paper).gives.get(k);
        return new int[] {g.thing, g.to, g.condition, g.person, g.other}[what];
    }

    private long countDue(int what) {
        int lost = 0;
        for (Model.Paper p : model.papers) {
            lost += p.lost ? 1 : 0;
        }
        int[] dues = {model.lines, model.persons.size(), model.things.size(), model.papers.size(), model.weddings.size(),
            lost, model.deaths().size(), earlier.size(), 0};
        return what < 0 || what > 8 ? -1 : dues[what];
    }

    private void askTheLaw(int question) {
        int p = person();
        int q = person();
        int paper = paper();
        int t = thing();
        boolean both = isPaper(paper) && isThing(t);
        String at = "(" + paper + ", " + t + ")";
        switch (question) {
            case 11: {
                int l = of(2);
                due("form(" + paper + ", " + l + ")", !isPaper(paper) || l < 0 || l > 1 ? -1 : model.form(paper, l) ? 1 : 0,
                        deposit.form(paper, l));
                break;
            }
            case 12: due("why" + at, both ? model.why(paper, t) : -1, deposit.why(paper, t)); break;
            case 13: due("struckBy" + at, both ? model.struckBy(paper, t) : -1, deposit.struckBy(paper, t)); break;
            case 14: counting(p, t, of(3)); break;
            case 15: due("taker(" + p + ", " + t + ")", takerDue(p, t, 0), deposit.taker(p, t)); break;
            case 16: due("takerBy(" + p + ", " + t + ")", takerDue(p, t, 1), deposit.takerBy(p, t)); break;
            case 17: due("heirs(" + p + ")", !isPerson(p) ? -1 : model.persons.get(p).death < 0 ? -3
                    : Model.bits(model.heirs(p)), deposit.heirs(p)); break;
            case 18: due("margin(" + paper + ")", isPaper(paper) ? model.margin(paper) : -1, deposit.margin(paper)); break;
            case 19: due("naming(" + p + ", " + q + ")", isPerson(p) && isPerson(q) ? model.naming(p, q) : -1,
                    deposit.naming(p, q)); break;
            case 20: due("kin(" + p + ", " + q + ")", isPerson(p) && isPerson(q) ? model.kin(p, q) : -1,
                    deposit.kin(p, q)); break;
            default: {
                int day = day();
                boolean ok = isPerson(p) && isPaper(paper) && isDay(day);
                due("sees(" + p + ", " + paper + ", " + day + ")", !ok ? -1 : model.sees(p, paper, day) ? 1 : 0,
                        deposit.sees(p, paper, day));
                break;
            }
        }
    }

    private void counting(int p, int t, int k) {
        int want = -1;
        if (isPerson(p) && isThing(t) && k >= 0) {
            List<Integer> all = model.counting(p, t);
            want = k < all.size() ? all.get(k) : -2;
        }
        due("counting(" + p + ", " + t + ", " + k + ")", want, deposit.counting(p, t, k));
    }

    private long takerDue(int p, int t, int which) {
        if (!isPerson(p) || !isThing(t)) {
            return -1;
        }
        return model.persons.get(p).death < 0 ? -3 : model.taker(p, t)[which];
    }

    private void askTheWay(int question) {
        int p = person();
        int paper = paper();
        int t = thing();
        int what = of(2);
        int day = day();
        if (question < 26 && random.below(4) == 0) {
            // the CROWN
            p = -1;
        }
        switch (question) {
            case 22: case 23: has(p, t, day, what); break;
            case 24: due("holders(" + t + ", " + day + ")", isThing(t) && isDay(day) ? model.way(t, day).holders() : -1,
                    deposit.holders(t, day)); break;
            case 25: due("wealth(" + p + ")", p == -1 ? model.wealth(10) : isPerson(p) ? model.wealth(p) : -2,
                    deposit.wealth(p)); break;
            case 26: ever(p); break;
            case 27: death(of(4), of(3)); break;
            case 28: moves(t, what); break;
            case 29: {
                boolean ok = isPerson(p) && isPaper(paper);
                due("gain(" + p + ", " + paper + ")", ok ? model.gain(p, paper) : -1000000, deposit.gain(p, paper));
                break;
            }
            case 30: {
                boolean is = what == 0 || what == 1;
                due("against(" + p + ", " + what + ")", isPerson(p) && is ? model.against(p)[what] : -1,
                        deposit.against(p, what));
                due("key(" + what + ")", is ? model.key()[what] : -1, deposit.key(what));
                break;
            }
            case 31: wouldPaper(paper, of(3), t); break;
            default: {
                wouldDie(p, day, t);
                dayFor(p, person(), t);
                break;
            }
        }
    }

    private void has(int p, int t, int day, int part) {
        long want = -1;
        if ((p == -1 || isPerson(p)) && isThing(t) && isDay(day) && (part == 0 || part == 1)) {
            Model.Fraction f = model.way(t, day).parts[p == -1 ? 10 : p];
            want = (part == 0 ? f.above : f.below).longValueExact();
        }
        due("has(" + p + ", " + t + ", " + day + ", " + part + ")", want, deposit.has(p, t, day, part));
    }

    private void ever(int p) {
        int want = isPerson(p) ? 0 : -1;
        for (int t = 0; t < model.things.size() && isPerson(p); t++) {
            want |= (model.way(t, 9999).ever >> p & 1) << t;
        }
        due("ever(" + p + ")", want, deposit.ever(p));
    }

    private void death(int k, int what) {
        int want = -1;
        if (k >= 0 && what >= 0 && what <= 2) {
            want = -2;
            List<Integer> dead = new ArrayList<>(model.deaths());
            if (k < dead.size()) {
                int left = 0;
                for (int t = 0; t < model.things.size(); t++) {
                    left |= (model.way(t, 9999).left >> dead.get(k) & 1) << t;
                }
                want = new int[] {dead.get(k), model.persons.get(dead.get(k)).death, left}[what];
            }
        }
        due("death(" + k + ", " + what + ")", want, deposit.death(k, what));
    }

    private void moves(int t, int what) {
        boolean ok = isThing(t) && (what == 0 || what == 1);
        due("moves(" + t + ", " + what + ")", !ok ? -1 : what == 0 ? model.way(t, 9999).moves : model.way(t, 9999).last,
                deposit.moves(t, what));
    }

    private void wouldPaper(int paper, int what, int t) {
        int want = -1;
        if (isPaper(paper) && what >= 0 && what <= 2 && isThing(t)) {
            Model would = model.copyOf();
            Model.Paper p = would.papers.get(paper);
            p.taken |= what == 2;
            p.lost = what == 0 || what == 2 && p.lost;
            p.copies = what == 0 ? 0 : p.copies;
            want = would.holders(t);
        }
        due("wouldPaper(" + paper + ", " + what + ", " + t + ")", want, deposit.wouldPaper(paper, what, t));
    }

    private void wouldDie(int p, int day, int t) {
        int want = -1;
        if (isPerson(p) && (day == -1 || isDay(day)) && isThing(t)) {
            Model would = model.copyOf();
            would.persons.get(p).death = day;
            want = would.holders(t);
        }
        due("wouldDie(" + p + ", " + day + ", " + t + ")", want, deposit.wouldDie(p, day, t));
    }

    private void dayFor(int p, int taker, int t) {
        int want = -1;
        if (isPerson(p) && isPerson(taker) && p != taker && isThing(t)) {
            int latest = 20;
            for (Model.Paper other : model.papers) {
                latest = Math.max(latest, other.day);
            }
            for (Model.Wedding w : model.weddings) {
                latest = Math.max(latest, w.day);
            }
            for (Model.Person other : model.persons) {
                latest = Math.max(latest, other.death);
            }
            if (latest > 150) {
                return;
            }
            want = model.dayFor(p, taker, t, latest + 2);
        }
        due("dayFor(" + p + ", " + taker + ", " + t + ")", want, deposit.dayFor(p, taker, t));
    }
}
