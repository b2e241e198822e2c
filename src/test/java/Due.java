import java.util.NoSuchElementException;

/** What the tests share: objects made of a text, and answers compared with those that are due. */
final class Due {
    private int wrong;
    private String sentence = "";

    /** An object whose tape has the text; blanks fill its last twenty bytes. */
    static void tape(HedgeWants x, String text) {
        StringBuilder padded = new StringBuilder(text);
        while (padded.length() % 20 != 0) {
            padded.append(' ');
        }
        for (int at = 0; at < padded.length(); at += 20) {
            int[] numbers = new int[5];
            for (int i = 0; i < 20; i++) {
                numbers[i / 4] = numbers[i / 4] << 8 | padded.charAt(at + i) & 255;
            }
            x.feed(numbers[0], numbers[1], numbers[2], numbers[3], numbers[4]);
        }
    }

    static int read(HedgeWants x, String text) {
        tape(x, text);
        return x.province(text.length());
    }

    static HedgeWants of(String text) {
        HedgeWants x = new HedgeWants();
        int fault = read(x, text);
        if (fault != 0) {
            throw new IllegalStateException("a test's text has the fault " + fault + " at " + x.fault() + ": " + text);
        }
        return x;
    }

    /** What the document says of the calls that follow: a wrong answer is told with it. */
    void sentence(String words) {
        sentence = "\"" + words + "\": ";
        is("the document says so", Document.says(words), true);
    }

    void is(String call, long got, long want) {
        if (got != want) {
            wrong++;
            System.out.println(sentence + call + " answered " + got + ", due is " + want);
        }
    }

    void is(String call, boolean got, boolean want) {
        is(call, got ? 1 : 0, want ? 1 : 0);
    }

    void lacks(String call, Runnable run) {
        is(call + " throws (1 NoSuchElementException, 2 IllegalArgumentException)", thrownBy(run), 1);
    }

    void bars(String call, Runnable run) {
        is(call + " throws (1 NoSuchElementException, 2 IllegalArgumentException)", thrownBy(run), 2);
    }

    private static int thrownBy(Runnable run) {
        try {
            run.run();
            return 0;
        } catch (NoSuchElementException e) {
            return e.getClass() == NoSuchElementException.class ? 1 : 3;
        } catch (IllegalArgumentException e) {
            return e.getClass() == IllegalArgumentException.class ? 2 : 4;
        }
    }

    /** A fault of a text: its number and place. */
    void fault(String text, int code, int place) {
        HedgeWants x = new HedgeWants();
        is("province of \"" + text + "\"", read(x, text), code);
        is("fault of \"" + text + "\"", x.fault(), place);
    }

    void end() {
        if (wrong > 0) {
            System.out.println(wrong + " answers are not as due");
            System.exit(1);
        }
    }
}
