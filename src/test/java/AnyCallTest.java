import java.util.Random;

/** No call ever throws, whatever its arguments and whatever was done before; the same calls give the same answers. */
public final class AnyCallTest {
    private static final int[] ODD = {0, 1, 2, 3, -1, -2, 9, 10, 11, 12, 13, 59, 60, 61, 63, 64, 99, 100, 255, 1023, 9999, 10000, 99999,
        100000, Integer.MAX_VALUE, Integer.MIN_VALUE, Integer.MAX_VALUE - 1, Integer.MIN_VALUE + 1};

    private final Random random;
    private final BoulderDowry x = new BoulderDowry();

    private AnyCallTest(int run) {
        random = new Random(run);
    }

    private int any() {
        int kind = random.nextInt(3);
        return kind == 0 ? ODD[random.nextInt(ODD.length)] : kind == 1 ? random.nextInt(12) - 1 : random.nextInt(70);
    }

    private void fill() {
        switch (random.nextInt(4)) {
            case 0:
                Check.feed(x, Check.bytes(Model.random(random, 60).text()));
                break;
            case 1:
                byte[] bytes = new byte[random.nextInt(1600)];
                random.nextBytes(bytes);
                Check.feed(x, bytes);
                break;
            case 2:
                byte[] image = Check.image(x);
                image[random.nextInt(image.length)] = (byte) random.nextInt(256);
                Check.feed(x, Check.checked(image));
                break;
            default:
                Check.feed(x, Check.bytes("field 2 2;due " + "(".repeat(random.nextInt(12)) + "not ".repeat(random.nextInt(390))));
                break;
        }
        if (random.nextBoolean()) {
            x.slope();
        } else {
            x.on();
        }
    }

    private long call() {
        switch (random.nextInt(40)) {
            case 0: return x.feed(any(), any(), any(), any(), any());
            case 1: return x.end(any()) ? 1 : 0;
            case 2: return x.slope();
            case 3: return x.fault(any());
            case 4: return x.has(any());
            case 5: return x.letter(any(), any(), any());
            case 6: return x.cell(any(), any());
            case 7: return x.stone(any(), any());
            case 8: return x.house(any(), any());
            case 9: return x.owner(any(), any());
            case 10: return x.due(any(), any());
            case 11: return x.law(any(), any(), any(), any(), any());
            case 12: return x.lever(any(), any());
            case 13: return x.spring(any());
            case 14: return x.goOn(any());
            case 15: return x.seed(any()) ? 1 : 0;
            case 16: return x.net(any(), random.nextBoolean()) ? 1 : 0;
            case 17: return x.wall(any(), any()) ? 1 : 0;
            case 18: return x.dig(any(), any());
            case 19: return x.take(any());
            case 20: return x.undo() ? 1 : 0;
            case 21: return x.path(any(), any(), any());
            case 22: return x.roll(any(), any(), any());
            case 23: return x.thaw(any(), any());
            case 24: return x.lies(any(), any());
            case 25: return x.hit(any());
            case 26: return x.worst(any());
            case 27: return x.men(any(), any());
            case 28: return x.crew(any(), any(), any());
            case 29: return x.nets(any());
            case 30: return x.dowry(any(), any(), any(), any());
            case 31: return x.whence(any(), any());
            case 32: return x.leans(any(), any());
            case 33: return x.quarry(any(), any());
            case 34: return x.ropes(any());
            case 35: return x.image();
            case 36: return x.octet(any());
            case 37: return x.on() ? 1 : 0;
            case 38: return x.status(any());
            default:
                fill();
                return 0;
        }
    }

    private long run() {
        Check.feed(x, Check.bytes(Model.random(random, 60).text()));
        x.slope();
        long all = 0;
        for (int i = 0; i < 512; i++) {
            all = 31 * all + call();
        }
        return all;
    }

    public static void main(String[] args) {
        for (int run = 0; run < 1500; run++) {
            Check.due("run " + run + " a second time", new AnyCallTest(run).run(), new AnyCallTest(run).run());
        }
        Check.finish("AnyCallTest");
    }
}
