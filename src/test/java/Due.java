import java.nio.charset.StandardCharsets;
import java.util.NoSuchElementException;

/** What the tests share: telling a text, and holding an answer against the one that is due. */
final class Due {
    private int wrong = 0;
    private int held = 0;
    private String saying = "";

    /** Something that answers a number, or throws. */
    interface Call {
        long answer();
    }

    /**
     * What is held from here on stands for these words of the document: those of a promise, or (0)
     * of 'Terms'. SayingsTest looks whether they stand there.
     */
    void says(int promise, String words) {
        saying = (promise == 0 ? "Terms" : "Promise " + promise) + " '" + words + "': ";
    }

    void is(String what, long got, long want) {
        held++;
        if (got != want) {
            wrong++;
            System.out.println(saying + what + " answered " + got + ", due is " + want);
        }
    }

    void is(String what, boolean got, boolean want) {
        is(what, got ? 1 : 0, want ? 1 : 0);
    }

    /** The call throws NoSuchElementException. */
    void none(String what, Call call) {
        is(what + " (1 NoSuchElementException, 2 IllegalArgumentException)", thrown(call), 1);
    }

    /** The call throws IllegalArgumentException. */
    void bad(String what, Call call) {
        is(what + " (1 NoSuchElementException, 2 IllegalArgumentException)", thrown(call), 2);
    }

    /** 1 NoSuchElementException, 2 IllegalArgumentException, 0 none. */
    static int thrown(Call call) {
        try {
            call.answer();
            return 0;
        } catch (NoSuchElementException e) {
            return 1;
        } catch (IllegalArgumentException e) {
            return 2;
        }
    }

    void end(String name) {
        System.out.println(name + ": " + held + " answers, " + wrong + " not as due");
        if (wrong != 0) {
            System.exit(1);
        }
    }

    static void feed(HornHouses x, String text) {
        byte[] bytes = text.getBytes(StandardCharsets.ISO_8859_1);
        for (int at = 0; at < bytes.length; at += 20) {
            int[] n = new int[5];
            for (int i = 0; i < 20; i++) {
                n[i / 4] = n[i / 4] << 8 | (at + i < bytes.length ? bytes[at + i] & 255 : 32);
            }
            x.feed(n[0], n[1], n[2], n[3], n[4]);
        }
    }

    static int tell(HornHouses x, String text) {
        feed(x, text);
        return x.town(text.length());
    }

    /** A new object of a town that must be right. */
    static HornHouses town(String text) {
        HornHouses x = new HornHouses();
        int fault = tell(x, text);
        if (fault != 0) {
            throw new IllegalStateException("fault " + fault + " at " + x.fault() + " of " + text);
        }
        return x;
    }
}
