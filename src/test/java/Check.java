/** Notes answers that are not the ones due, and ends a test with exit code 1 if there was one. */
final class Check {
    interface Call {
        long answer();
    }

    private int wrong = 0;
    private int asked = 0;

    void due(String call, long want, long got) {
        asked++;
        if (got != want) {
            wrong++;
            System.out.println(call + " answered " + got + ", due is " + want);
        }
    }

    void isTrue(String call, boolean got) {
        due(call, 1, got ? 1 : 0);
    }

    void isFalse(String call, boolean got) {
        due(call, 0, got ? 1 : 0);
    }

    /** The class must be the very one: a subclass is what the machine throws by itself. */
    void throwing(String call, Class<? extends RuntimeException> want, Call made) {
        asked++;
        String got = told(made);
        if (!got.equals("throws " + want.getSimpleName())) {
            wrong++;
            System.out.println(call + " " + got + ", due is throws " + want.getSimpleName());
        }
    }

    void illegal(String call, Call made) {
        throwing(call, IllegalArgumentException.class, made);
    }

    void badState(String call, Call made) {
        throwing(call, IllegalStateException.class, made);
    }

    void noIndex(String call, Call made) {
        throwing(call, IndexOutOfBoundsException.class, made);
    }

    /** What a call answers or throws, as a text. */
    static String told(Call made) {
        try {
            return "answers " + made.answer();
        } catch (RuntimeException e) {
            return "throws " + e.getClass().getSimpleName();
        }
    }

    /** The moves of a bay's plan, as box:from>to, those that were worked with a star. */
    static String plan(MoveOrder x, int bay, int moves) {
        StringBuilder text = new StringBuilder();
        for (int i = 0; i < moves; i++) {
            text.append(i == 0 ? "" : " ").append(x.move(bay, i, 0)).append(':').append(x.move(bay, i, 1))
                .append('>').append(x.move(bay, i, 2)).append(x.move(bay, i, 3) == 1 ? "*" : "");
        }
        return text.toString();
    }

    void planDue(String call, String want, MoveOrder x, int bay) {
        int moves = x.plan(bay);
        same(call, want, plan(x, bay, moves));
        noIndex(call + ", one move more", () -> x.move(bay, moves, 0));
    }

    void same(String call, String want, String got) {
        asked++;
        if (!got.equals(want)) {
            wrong++;
            System.out.println(call + " told " + got + ", due is " + want);
        }
    }

    void end() {
        System.out.println(wrong == 0 ? asked + " answers, all as due" : wrong + " answers are not as due");
        if (wrong != 0) {
            System.exit(1);
        }
    }
}
