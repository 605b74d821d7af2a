/** Notes answers that are not the ones due, and ends a test with exit code 1 if there was one. */
final class Check {
    interface Call {
        long answer();
    }

    private String sentence = "";
    private int wrong = 0;
    private int asked = 0;

    /** The document's words that the answers from here on are due by; a failure names them. */
    void sentence(String words) {
        sentence = words + ": ";
    }

    private void note(boolean right, String text) {
        asked++;
        if (!right) {
            wrong++;
            System.out.println(sentence + text);
        }
    }

    void due(String call, long want, long got) {
        note(got == want, call + " answered " + got + ", due is " + want);
    }

    void isTrue(String call, boolean got) {
        due(call, 1, got ? 1 : 0);
    }

    void isFalse(String call, boolean got) {
        due(call, 0, got ? 1 : 0);
    }

    void same(String call, String want, String got) {
        note(got.equals(want), call + " told " + got + ", due is " + want);
    }

    /** A call that throws: that very class, as a class below it is what the machine throws; it changes nothing. */
    private void throwing(String call, MoveOrder x, String want, Call made) {
        String ahead = state(x);
        same(call, "throws " + want, told(made));
        same(call + ", state behind it", ahead, state(x));
    }

    void illegal(String call, MoveOrder x, Call made) {
        throwing(call, x, "IllegalArgumentException", made);
    }

    void badState(String call, MoveOrder x, Call made) {
        throwing(call, x, "IllegalStateException", made);
    }

    void noIndex(String call, MoveOrder x, Call made) {
        throwing(call, x, "IndexOutOfBoundsException", made);
    }

    /** A call that answers 0 as it is refused, and changes nothing. */
    void refused(String call, MoveOrder x, Call made) {
        String ahead = state(x);
        same(call, "answers 0", told(made));
        same(call + ", state behind it", ahead, state(x));
    }

    /** What a call answers or throws, as a text. */
    static String told(Call made) {
        try {
            return "answers " + made.answer();
        } catch (RuntimeException e) {
            return "throws " + e.getClass().getSimpleName();
        }
    }

    /** All that the calls tell which change nothing. */
    static String state(MoveOrder x) {
        StringBuilder text = new StringBuilder();
        for (int what = 0; what < 24; what++) {
            text.append(x.count(what)).append(' ');
        }
        for (int box = 0; box < x.count(0); box++) {
            text.append(" box ").append(place(x, box));
        }
        for (int bay = 0; x.count(10 + bay) != MoveOrder.NONE; bay++) {
            text.append(" bay ").append(x.least(bay)).append(' ').append(x.dual(bay));
            text.append(" plan ").append(planned(x, bay));
        }
        return text.toString();
    }

    /** Port, bay, stack and tier of a box. */
    static String place(MoveOrder x, int box) {
        return x.look(box, 0) + " " + x.look(box, 1) + " " + x.look(box, 2) + " " + x.look(box, 3);
    }

    /** The moves of a bay's plan, as box:from>to, those that were worked with a star; none without a plan. */
    static String planned(MoveOrder x, int bay) {
        if (x.count(20 + bay) == MoveOrder.NONE) {
            return "none";
        }
        StringBuilder text = new StringBuilder();
        for (int i = 0; hasMove(x, bay, i); i++) {
            text.append(i == 0 ? "" : " ").append(x.move(bay, i, 0)).append(':').append(x.move(bay, i, 1))
                .append('>').append(x.move(bay, i, 2)).append(x.move(bay, i, 3) == 1 ? "*" : "");
        }
        return text.toString();
    }

    private static boolean hasMove(MoveOrder x, int bay, int i) {
        return told(() -> x.move(bay, i, 0)).startsWith("answers");
    }

    /** Plans a bay: the moves due, as many as the answer says, none of them worked. */
    void planDue(String call, String want, MoveOrder x, int bay) {
        int moves = x.plan(bay);
        same(call, want, planned(x, bay));
        due(call + ", its length", want.isEmpty() ? 0 : want.split(" ").length, moves);
    }

    void end() {
        System.out.println(wrong == 0 ? asked + " answers, all as due" : wrong + " answers are not as due");
        if (wrong != 0) {
            System.exit(1);
        }
    }
}
