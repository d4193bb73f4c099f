/** Tests one sentence of the document by itself: also when a call throws or does not end, the next sentence is tested. */
final class Sentence {
    private static final long MOST_MILLIS = 120_000;

    private Sentence() {
    }

    static void test(String sentence, Runnable body) {
        int before = Check.wrongAnswers();
        Check.printAgain();
        Throwable[] thrown = new Throwable[1];
        Thread run = new Thread(() -> {
            try {
                body.run();
            } catch (Throwable t) {
                thrown[0] = t;
            }
        });
        run.setDaemon(true);
        run.start();
        boolean ended = endsInTime(run);
        Check.due("a test that ends", ended, true);
        Check.due("what was thrown", ended && thrown[0] != null ? thrown[0].toString() : "nothing", "nothing");
        if (Check.wrongAnswers() > before) {
            System.out.println("DOES NOT HOLD: " + sentence);
        }
    }

    private static boolean endsInTime(Thread run) {
        try {
            run.join(MOST_MILLIS);
        } catch (InterruptedException e) {
            return false;
        }
        return !run.isAlive();
    }
}
