/** Counts answers that are as due and prints those that are not. */
final class Check {
    private final String name;
    private int passed;
    private int failed;

    Check(String name) {
        this.name = name;
    }

    void due(String call, long got, long want) {
        if (got == want) {
            passed++;
            return;
        }
        failed++;
        System.out.println(name + ": " + call + " answered " + got + ", due is " + want);
    }

    void holds(String what, boolean so) {
        due(what, so ? 1 : 0, 1);
    }

    /** Says a text sign by sign. */
    static void say(FairSeats x, String text) {
        for (int i = 0; i < text.length(); i++) {
            x.say(text.charAt(i));
        }
    }

    /** Makes a text the HALL. */
    static int hall(FairSeats x, String text) {
        x.wipe();
        say(x, text);
        return x.hall();
    }

    void end() {
        System.out.println(name + ": " + passed + " passed, " + failed + " failed");
        if (failed != 0) {
            System.exit(1);
        }
    }
}
