import java.nio.charset.StandardCharsets;

/** What the tests share: feeding a tape, comparing answers, ending with an exit code. */
final class Check {
    private static int wrong = 0;
    private static int looked = 0;

    private Check() {
    }

    static void due(String what, long want, long got) {
        looked++;
        if (want != got) {
            wrong++;
            if (wrong <= 60) {
                System.out.println(what + " answered " + got + ", due is " + want);
            }
        }
    }

    static void due(String what, boolean want, boolean got) {
        due(what, want ? 1 : 0, got ? 1 : 0);
    }

    static int wrongSoFar() {
        return wrong;
    }

    /** Prints how it went and ends the machine with 1 if an answer was not as due. */
    static void finish(String name) {
        System.out.println(name + ": " + looked + " answers, " + wrong + " not as due");
        if (wrong != 0 || looked == 0) {
            System.exit(1);
        }
    }

    static byte[] bytes(String text) {
        return text.getBytes(StandardCharsets.ISO_8859_1);
    }

    static byte[] bytes(int... values) {
        byte[] all = new byte[values.length];
        for (int k = 0; k < values.length; k++) {
            all[k] = (byte) values[k];
        }
        return all;
    }

    /** Puts the bytes on an empty tape. */
    static void tape(KilnBench x, byte[] all) {
        x.end(0);
        for (int from = 0; from < all.length; from += 20) {
            int[] word = new int[5];
            for (int k = 0; k < 20; k++) {
                int value = from + k < all.length ? all[from + k] & 255 : 32;
                word[k / 4] |= value << 24 - 8 * (k % 4);
            }
            x.feed(word[0], word[1], word[2], word[3], word[4]);
        }
        x.end(all.length);
    }

    static int town(KilnBench x, String text) {
        tape(x, bytes(text));
        return x.town();
    }

    /** A new object with a town that has to be without fault. */
    static KilnBench made(String text) {
        KilnBench x = new KilnBench();
        int statements = town(x, text);
        if (statements < 0) {
            due("town " + text + " fault " + x.fault(0) + " at " + x.fault(1), 0, statements);
        }
        return x;
    }

    static int on(KilnBench x, int... image) {
        tape(x, bytes(image));
        return x.on() ? 1 : 0;
    }

    static int see(KilnBench x, int... rows) {
        tape(x, bytes(rows));
        return x.see();
    }

    /** The bytes of the object's image as it is now. */
    static int[] image(KilnBench x) {
        int[] all = new int[x.image()];
        for (int k = 0; k < all.length; k++) {
            all[k] = x.octet(k);
        }
        return all;
    }

    /** Writes the last byte anew, so that the image is refused for what it tells alone. */
    static int[] sealed(int... image) {
        int check = 241;
        for (int k = 0; k < image.length - 1; k++) {
            check = (5 * check + image[k]) % 251;
        }
        image[image.length - 1] = check;
        return image;
    }
}
