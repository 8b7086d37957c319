/** The boundary cases of one promise: each runs by itself, under the sentence of the document that it tests. */
final class Sentences {
    private int held;
    private int broken;

    interface Case {
        void run(Check check);
    }

    void holds(String sentence, Case test) {
        Check check = new Check();
        boolean ended = endsByItself(test, check);
        if (ended && check.allDue()) {
            held++;
        } else {
            broken++;
            System.out.println("does not hold: " + sentence);
        }
    }

    /** No call of the face throws, so whatever comes out of one breaks the sentence that is tested. */
    private static boolean endsByItself(Case test, Check check) {
        try {
            test.run(check);
            return true;
        } catch (RuntimeException thrown) {
            System.out.println("thrown: " + thrown);
            return false;
        }
    }

    void end() {
        System.out.println(held + " sentences hold, " + broken + " do not");
        if (broken != 0 || held == 0) {
            System.exit(1);
        }
    }
}
