/** Counts and prints the answers that are not the ones that are due. */
final class Check {
    private int wrong = 0;
    private String part = "";

    /** Names what the next checks belong to. */
    void part(String name) {
        part = name;
    }

    void due(String call, long got, long want) {
        if (got != want) {
            wrong++;
            System.out.println(part + ": " + call + " answered " + got + ", due is " + want);
        }
    }

    void yes(String what, boolean holds) {
        if (!holds) {
            wrong++;
            System.out.println(part + ": it does not hold that " + what);
        }
    }

    void end() {
        if (wrong != 0) {
            System.out.println(wrong + " checks failed");
            System.exit(1);
        }
    }
}
