/** What the tests share: shops of a text, and answers compared with those that are due. */
final class Check {
    interface Call {
        Object make();
    }

    private static int wrong = 0;
    private static int done = 0;

    private Check() {
    }

    static DrumRope shop(String text) {
        DrumRope x = new DrumRope();
        int answer = load(x, text);
        is(answer >= 0 ? 1 : 0, 1, "the text is right: " + text);
        return x;
    }

    static void type(DrumRope x, String text) {
        for (int i = 0; i < text.length(); i++) {
            x.appendByte(text.charAt(i));
        }
    }

    static int load(DrumRope x, String text) {
        type(x, text);
        return x.load();
    }

    static void is(Object got, Object want, String what) {
        done++;
        if (!got.equals(want)) {
            wrong++;
            StackTraceElement place = new Throwable().getStackTrace()[1];
            for (StackTraceElement e : new Throwable().getStackTrace()) {
                if (!e.getClassName().equals("Check")) {
                    place = e;
                    break;
                }
            }
            System.out.println(place + ": " + what + " is " + got + ", due is " + want);
        }
    }

    static void is(Object got, Object want) {
        is(got, want, "the answer");
    }

    /** The text's error: its kind, position and statement. */
    static void error(String text, int kind, int position, int statement) {
        DrumRope x = new DrumRope();
        is(load(x, text), -100 - position, "load of '" + text + "'");
        is(x.loadError(), kind, "loadError of '" + text + "'");
        is(x.loadStatement(), statement, "loadStatement of '" + text + "'");
    }

    /** The text's error, which stands at the sign ^; the sign itself is no part of the text. */
    static void errorAt(String marked, int kind, int statement) {
        int position = marked.indexOf('^');
        error(marked.substring(0, position) + marked.substring(position + 1), kind, position, statement);
    }

    static void index(Call call) {
        is(thrown(call), "IndexOutOfBoundsException", "what is thrown");
    }

    static void argument(Call call) {
        is(thrown(call), "IllegalArgumentException", "what is thrown");
    }

    private static String thrown(Call call) {
        try {
            return "nothing, but the answer " + call.make();
        } catch (RuntimeException e) {
            return e.getClass().getSimpleName();
        }
    }

    static void end() {
        System.out.println(done + " answers, " + wrong + " wrong");
        if (wrong > 0) {
            System.exit(1);
        }
    }
}
