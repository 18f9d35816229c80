/** Counts the answers that are not the ones that are due. */
final class Due {
    private static int asked = 0;
    private static int wrong = 0;
    private static int sentences = 0;
    private static String sentence = "";
    /** The number of answers when the latest sentence began. */
    private static int before = 0;

    interface Call {
        Object answer();
    }

    private Due() {
    }

    /** What is due from here on is due by this sentence, or part of one, of the document. */
    static void by(String words) {
        endSentence();
        sentence = words;
        sentences++;
        before = asked;
        if (!Document.says(words)) {
            wrong++;
            System.out.println("the document does not say: " + words);
        }
    }

    private static void endSentence() {
        if (sentences > 0 && asked == before) {
            wrong++;
            System.out.println("no answer was asked for by: " + sentence);
        }
    }

    static void is(String call, Call made, Object want) {
        Object got;
        try {
            got = made.answer();
        } catch (RuntimeException e) {
            got = e.getClass().getSimpleName();
        }
        asked++;
        if (!got.equals(want)) {
            wrong++;
            String place = sentences == 0 ? "" : "\"" + sentence + "\": ";
            System.out.println(place + call + " answered " + got + ", due is " + want);
        }
    }

    /** Ends the test: exit code 1 if an answer was wrong, or if none was asked for. */
    static void end() {
        endSentence();
        String by = sentences == 0 ? "" : " by " + sentences + " sentences";
        System.out.println(asked + " answers" + by + ", " + wrong + " not as due");
        if (wrong != 0 || asked == 0) {
            System.exit(1);
        }
    }
}
