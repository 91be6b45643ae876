/** Compares answers with the ones that are due and tells those that are not. */
final class Check {
    private int right;
    private int wrong;

    void due(String call, long answered, long due) {
        if (answered == due) {
            right++;
        } else {
            wrong++;
            System.out.println(call + " answered " + answered + ", due is " + due);
        }
    }

    /** Ends the test: with exit code 1 if one answer was not as due, or if nothing was asked. */
    void end(String test) {
        System.out.println(test + ": " + right + " answers as due, " + wrong + " not");
        if (wrong > 0 || right == 0) {
            System.exit(1);
        }
    }
}
