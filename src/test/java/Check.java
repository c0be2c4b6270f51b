import java.nio.charset.StandardCharsets;

/** What all tests share: comparing answers, and bringing a text onto the tape. */
final class Check {
    private static int asked = 0;
    private static int wrong = 0;
    private static String beside = "";

    private Check() {
    }

    static void due(String what, long got, long want) {
        asked++;
        if (got != want) {
            wrong++;
            if (wrong <= 40) {
                System.out.println(what + " answered " + got + ", due is " + want);
                if (!beside.isEmpty()) {
                    System.out.println("  for " + beside);
                }
            }
        }
    }

    static void due(String what, boolean got, boolean want) {
        due(what, got ? 1 : 0, want ? 1 : 0);
    }

    static int asked() {
        return asked;
    }

    /** The words of the document that what is asked from now on stands for. */
    static void beside(String words) {
        beside = words;
    }

    static void finish(String name) {
        System.out.println(name + ": " + asked + " answers, " + wrong + " not as due");
        if (wrong != 0 || asked == 0) {
            System.exit(1);
        }
    }

    static byte[] bytes(String text) {
        return text.getBytes(StandardCharsets.ISO_8859_1);
    }

    /** Feeds all bytes, and ends the tape behind the last of them. */
    static void feed(BoulderDowry x, byte[] bytes) {
        for (int from = 0; from < bytes.length; from += 20) {
            int[] numbers = new int[5];
            for (int i = 0; i < 20; i++) {
                int octet = from + i < bytes.length ? bytes[from + i] & 255 : 32;
                numbers[i / 4] = numbers[i / 4] << 8 | octet;
            }
            x.feed(numbers[0], numbers[1], numbers[2], numbers[3], numbers[4]);
        }
        x.end(bytes.length);
    }

    static int tell(BoulderDowry x, String text) {
        feed(x, bytes(text));
        return x.slope();
    }

    /** An object with this slope, which must be without a fault. */
    static BoulderDowry of(String text) {
        BoulderDowry x = new BoulderDowry();
        if (tell(x, text) == BoulderDowry.NONE) {
            due("fault of " + text + " at " + x.fault(1), x.fault(0), 0);
        }
        return x;
    }

    static byte[] image(BoulderDowry x) {
        byte[] bytes = new byte[x.image()];
        for (int i = 0; i < bytes.length; i++) {
            bytes[i] = (byte) x.octet(i);
        }
        return bytes;
    }

    /** Puts the byte that the ones ahead of it ask for at the end. */
    static byte[] checked(byte[] bytes) {
        int c = 83;
        for (int i = 0; i + 1 < bytes.length; i++) {
            c = (3 * c + (bytes[i] & 255)) % 253;
        }
        bytes[bytes.length - 1] = (byte) c;
        return bytes;
    }
}
