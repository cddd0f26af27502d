import java.util.List;
import java.util.Set;

/** Reads a text into a Model, or throws its first Fault. */
final class ModelText {
    private static final Set<String> WORDS = Set.of("land", "person", "child", "wed", "thing", "paper", "lost", "dies",
            "own", "copies", "half", "will", "adds", "strikes", "witness", "give", "if", "unless", "or", "rest", "strike");

    private final String text;
    private final Model model = new Model();
    private int end = 0;
    private int place = 0;
    private String token = "";

    private ModelText(String text) {
        this.text = text;
        step();
    }

    static Model read(String text) {
        ModelText reader = new ModelText(text);
        while (!reader.token.isEmpty()) {
            reader.line();
            reader.model.lines++;
        }
        return reader.model;
    }

    private static Model.Fault fault(int number, int place) {
        return new Model.Fault(number, place);
    }

    private void step() {
        while (end < text.length() && (text.charAt(end) == ' ' || text.charAt(end) == '\n')) {
            end++;
        }
        place = end;
        String letters = "abcdefghijklmnopqrstuvwxyz";
        String digits = "0123456789";
        if (end < text.length()) {
            char sign = text.charAt(end);
            String like = letters.indexOf(sign) >= 0 ? letters : digits.indexOf(sign) >= 0 ? digits : "";
            end++;
            while (end < text.length() && like.indexOf(text.charAt(end)) >= 0) {
                end++;
            }
        }
        token = text.substring(place, end);
    }

    private boolean comes(String word) {
        return token.equals(word);
    }

    private void line() {
        int start = place;
        String word = token;
        if (word.equals("person") && model.persons.size() == 10 || word.equals("thing") && model.things.size() == 8
                || word.equals("paper") && model.papers.size() == 12 || word.equals("wed") && model.weddings.size() == 6) {
            throw fault(2, start);
        }
        step();
        switch (word) {
            case "land": land(); break;
            case "person": {
                Model.Person p = new Model.Person();
                p.name = fresh(model.persons.stream().map(q -> q.name).toList());
                p.home = number(0, 1);
                model.persons.add(p);
                break;
            }
            case "child": {
                int child = person();
                int at = place;
                int parent = person();
                List<Integer> parents = model.persons.get(child).parents;
                if (parent >= child || parents.contains(parent) || parents.size() == 2) {
                    throw fault(3, at);
                }
                parents.add(parent);
                break;
            }
            case "wed": {
                Model.Wedding w = new Model.Wedding();
                w.one = person();
                int at = place;
                w.other = person();
                if (w.one == w.other) {
                    throw fault(3, at);
                }
                w.day = number(0, 9999);
                model.weddings.add(w);
                break;
            }
            case "thing": {
                Model.Thing t = new Model.Thing();
                t.name = fresh(model.things.stream().map(q -> q.name).toList());
                t.owner = person();
                t.land = number(0, 1);
                t.worth = number(1, 9999);
                model.things.add(t);
                break;
            }
            case "paper": paper(); break;
            case "lost": {
                int at = place;
                Model.Paper p = model.papers.get(paperNumber());
                if (p.lost) {
                    throw fault(3, at);
                }
                p.copies = number(0, 3);
                p.lost = true;
                break;
            }
            case "dies": {
                int at = place;
                Model.Person p = model.persons.get(person());
                if (p.death != Model.NEVER) {
                    throw fault(3, at);
                }
                p.death = number(0, 9999);
                break;
            }
            default: throw fault(1, start);
        }
        if (!comes(";")) {
            throw fault(1, place);
        }
        step();
    }

    private void land() {
        int at = place;
        Model.Land land = model.lands[number(0, 1)];
        if (land.told) {
            throw fault(3, at);
        }
        land.told = true;
        land.witnesses = number(0, 4);
        while (List.of("own", "wed", "copies", "half").contains(token)) {
            if (land.has.contains(token)) {
                throw fault(3, place);
            }
            land.has.add(token);
            step();
        }
    }

    private void paper() {
        Model.Paper p = new Model.Paper();
        p.name = fresh(model.papers.stream().map(q -> q.name).toList());
        p.maker = person();
        p.day = number(0, 9999);
        p.land = number(0, 1);
        if (!List.of("will", "adds", "strikes").contains(token)) {
            throw fault(1, place);
        }
        p.kind = token;
        step();
        while (List.of("own", "witness", "give", "rest", "strike").contains(token)) {
            part(p);
        }
        model.papers.add(p);
    }

    private void part(Model.Paper p) {
        String word = token;
        if (word.equals("own") && p.own || word.equals("rest") && p.rest >= 0) {
            throw fault(3, place);
        }
        if (word.equals("witness") && p.witnesses.size() == 4 || word.equals("give") && p.gives.size() == 6
                || word.equals("strike") && p.strikes.size() == 3) {
            throw fault(2, place);
        }
        step();
        int at = place;
        switch (word) {
            case "own": p.own = true; break;
            case "rest": p.rest = person(); break;
            case "witness": {
                int w = person();
                if (w == p.maker || p.witnesses.contains(w)) {
                    throw fault(3, at);
                }
                p.witnesses.add(w);
                break;
            }
            case "strike": {
                int s = paperNumber();
                if (model.papers.get(s).maker != p.maker || p.strikes.contains(s)) {
                    throw fault(3, at);
                }
                p.strikes.add(s);
                break;
            }
            default: give(p); break;
        }
    }

    private void give(Model.Paper p) {
        Model.Give g = new Model.Give();
        g.thing = known(model.things.stream().map(q -> q.name).toList());
        g.to = person();
        if (comes("if") || comes("unless")) {
            g.condition = comes("if") ? 1 : 2;
            step();
            g.person = person();
        }
        if (comes("or")) {
            step();
            int at = place;
            g.other = person();
            if (g.other == g.to) {
                throw fault(3, at);
            }
        }
        p.gives.add(g);
    }

    private void name() {
        if (!token.matches("[a-z]{1,5}") || WORDS.contains(token)) {
            throw fault(1, place);
        }
    }

    private String fresh(List<String> names) {
        name();
        if (names.contains(token)) {
            throw fault(3, place);
        }
        String fresh = token;
        step();
        return fresh;
    }

    private int known(List<String> names) {
        name();
        int known = names.indexOf(token);
        if (known < 0) {
            throw fault(1, place);
        }
        step();
        return known;
    }

    private int person() {
        return known(model.persons.stream().map(q -> q.name).toList());
    }

    private int paperNumber() {
        return known(model.papers.stream().map(q -> q.name).toList());
    }

    private int number(int least, int most) {
        if (!token.matches("[0-9]+")) {
            throw fault(1, place);
        }
        java.math.BigInteger value = new java.math.BigInteger(token);
        if (value.compareTo(java.math.BigInteger.valueOf(least)) < 0
                || value.compareTo(java.math.BigInteger.valueOf(most)) > 0) {
            throw fault(2, place);
        }
        step();
        return value.intValueExact();
    }
}
