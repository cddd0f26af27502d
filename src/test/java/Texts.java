/** Pieces of texts that several tests put together: names are a, b, c .. in each kind. */
final class Texts {
    private Texts() {
    }

    static char name(int number) {
        return (char) ('a' + number);
    }

    /** So many PERSONS of HOME 0. */
    static String persons(int many) {
        StringBuilder text = new StringBuilder();
        for (int p = 0; p < many; p++) {
            text.append("person ").append(name(p)).append(" 0;");
        }
        return text.toString();
    }

    /** So many THINGS of the first PERSON in LAND 0, of WORTH 1. */
    static String things(int many) {
        StringBuilder text = new StringBuilder();
        for (int t = 0; t < many; t++) {
            text.append("thing ").append(name(t)).append(" a 0 1;");
        }
        return text.toString();
    }

    /** So many PAPERS that add, of the first PERSON, of DAY 0, in LAND 0. */
    static String papers(int many) {
        StringBuilder text = new StringBuilder();
        for (int p = 0; p < many; p++) {
            text.append("paper ").append(name(p)).append(" a 0 0 adds;");
        }
        return text.toString();
    }

    /** The same LINE or PART so often, each with the next name for the sign ?. */
    static String each(String part, int first, int many) {
        StringBuilder text = new StringBuilder();
        for (int k = first; k < first + many; k++) {
            text.append(part.replace('?', name(k)));
        }
        return text.toString();
    }
}
