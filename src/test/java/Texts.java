/** Texts that are slopes, and texts with a fault at a place. */
final class Texts {
    /** What the marked texts stand behind. */
    static final String FIELD = "field 3 4;";

    /** Five cells down the left side (places 0 2 4 6 8), each 10 lower; the right side is high. */
    static final String STAIR = "field 2 5;row 50 90;row 40 90;row 30 90;row 20 90;row 10 90;"
            + "owner ann;owner bob;land ann at 0 0 to 1 1;land bob at 0 2 to 0 4;";

    private Texts() {
    }

    static BoulderDowry stair(String more) {
        return Check.of(STAIR + more);
    }

    /** A field of cells of these heights. */
    static BoulderDowry field(int wide, int... heights) {
        StringBuilder text = new StringBuilder("field " + wide + " " + heights.length / wide + ";");
        for (int i = 0; i < heights.length; i++) {
            text.append(i % wide == 0 ? "row " : " ").append(heights[i]).append(i % wide == wide - 1 ? ";" : "");
        }
        return Check.of(text.toString());
    }

    static void fault(String text, int kind, int place) {
        BoulderDowry x = new BoulderDowry();
        String shown = text.length() > 90 ? text.substring(0, 40) + " .. " + text.substring(text.length() - 40) : text;
        Check.due("slope() of " + shown, Check.tell(x, text), BoulderDowry.NONE);
        Check.due("fault(0) of " + shown, x.fault(0), kind);
        Check.due("fault(1) of " + shown, x.fault(1), place);
        Check.due("status(1) of " + shown, x.status(1), 1);
    }

    /** A fault behind FIELD at the place where the mark ! stands (which is taken out). */
    static void marked(String rest, int kind) {
        int place = rest.indexOf('!');
        fault(FIELD + rest.substring(0, place) + rest.substring(place + 1), kind, FIELD.length() + place);
    }

    static void fine(String text, int statements) {
        BoulderDowry x = new BoulderDowry();
        Check.due("slope() of " + text, Check.tell(x, text), statements);
        Check.due("fault(0) of " + text, x.fault(0), 0);
        Check.due("fault(1) of " + text, x.fault(1), BoulderDowry.NONE);
        Check.due("status(1) of " + text, x.status(1), 0);
    }

    /** A part n times, each with the next letter for # and the next free cell of FIELD for @. */
    static String times(String part, int n) {
        StringBuilder all = new StringBuilder();
        for (int i = 0; i < n; i++) {
            all.append(part.replace("#", "" + (char) ('a' + i)).replace("@", i % 3 + " " + i / 3));
        }
        return all.toString();
    }
}
