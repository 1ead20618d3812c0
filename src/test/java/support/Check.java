/** Counts the answers that are not as due, and ends the program with 1 if there are any. */
final class Check {
    private static final int MOST_TOLD = 40;
    private static int looked = 0;
    private static int wrong = 0;

    private Check() {
    }

    static void due(String call, long got, long want) {
        count(got == want, call + " answered " + got + ", due is " + want);
    }

    static void dueFloat(String call, float got, float want) {
        count(got == want, call + " answered " + got + ", due is " + want);
    }

    private static void count(boolean right, String story) {
        looked++;
        if (!right) {
            wrong++;
            if (wrong <= MOST_TOLD) {
                System.out.println(story);
            }
        }
    }

    static int wrongSoFar() {
        return wrong;
    }

    static void end() {
        System.out.println(looked + " answers looked at, " + wrong + " not as due");
        if (wrong != 0 || looked == 0) {
            System.exit(1);
        }
    }
}
