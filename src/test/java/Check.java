/** Compares answers with those that are due, and ends a test. */
final class Check {
    private final String name;
    private String heading = "";
    private int made;
    private int wrong;

    Check(String name) {
        this.name = name;
    }

    /** What is printed before the calls from now on. */
    void under(String words) {
        heading = " [" + words + "]";
    }

    int made() {
        return made;
    }

    void due(String call, long got, long want) {
        made++;
        if (got != want) {
            wrong++;
            System.out.println(name + heading + ": " + call + " answered " + got + ", due is " + want);
        }
    }

    /** A call that must answer an error, count it once under told(place), and change nothing else. */
    void refused(ChipRing x, String call, java.util.function.IntSupplier made, int want) {
        int place = want == ChipRing.BAD ? 0 : want == ChipRing.NO ? 1 : 2;
        long[] before = Boards.everything(x);
        due(call, made.getAsInt(), want);
        before[place]++;
        long[] after = Boards.everything(x);
        for (int i = 0; i < Math.max(before.length, after.length); i++) {
            long was = i < before.length ? before[i] : Long.MIN_VALUE;
            long is = i < after.length ? after[i] : Long.MIN_VALUE;
            due(call + ", then value " + i + " of the whole state", is, was);
        }
    }

    void end() {
        System.out.println(name + ": " + made + " answers, " + wrong + " wrong");
        if (wrong != 0 || made == 0) {
            System.exit(1);
        }
    }
}
