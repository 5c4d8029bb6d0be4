import java.util.Random;

/** All promises: long runs of calls drawn from fixed seeds, each answer against that of the Model. */
public final class ModelTest {

    private static final int RUNS = 1500;

    /** With a digest behind each fourth one and the two calls at the end 512: as many as an object is used for. */
    private static final int CALLS = 408;
    private static final int DIGEST_EVERY = 4;

    /** Calls that are drawn more often than others, so that much goes on in views and walks. */
    private static final String[] OFTEN = {
        "put bkv", "put bkv", "put bkv", "sub bkiki", "part wkiki", "viewPut wkv", "step ", "step ", "step ", "write v", "drop ",
    };

    /** Calls that empty a book at once are drawn less often, so that books fill. */
    private static final String RARE = " clear sift copy thin raise viewClear ";

    private final Random random;
    private final int keys;
    private final int firstKey;
    private final boolean isCalm;

    private ModelTest(int seed) {
        random = new Random(seed);
        keys = new int[] {4, 8, 16, 100}[random.nextInt(4)];
        firstKey = random.nextInt(101 - keys);
        isCalm = random.nextBoolean();
    }

    public static void main(String[] args) {
        Runs runs = new Runs();
        for (int seed = 0; seed < RUNS; seed++) {
            new ModelTest(seed).compare(runs, seed);
        }
        runs.end();
    }

    private void compare(Runs runs, int seed) {
        Twins twins = new Twins(runs, "seed " + seed);
        for (int call = 0; call < CALLS; call++) {
            String told = drawn();
            String kinds = Calls.kinds(told);
            int[] arguments = new int[kinds.length()];
            for (int i = 0; i < arguments.length; i++) {
                arguments[i] = argument(kinds.charAt(i));
            }
            twins.call(told, arguments);
            if (call % DIGEST_EVERY == 0) {
                twins.digest();
            }
        }
        twins.call("isSound ");
        twins.digest();
    }

    private String drawn() {
        int drawn = random.nextInt(Calls.TOLD.length + OFTEN.length);
        String told = drawn < OFTEN.length ? OFTEN[drawn] : Calls.TOLD[drawn - OFTEN.length];
        boolean isRare = RARE.contains(" " + Calls.name(told) + " ");
        return isRare && random.nextInt(isCalm ? 40 : 3) > 0 ? "put bkv" : told;
    }

    private int argument(char kind) {
        boolean isWrong = random.nextInt(60) == 0;
        switch (kind) {
            case 'b':
                return isWrong ? random.nextInt(6) - 2 : random.nextInt(3);
            case 'w':
                return isWrong ? random.nextInt(8) - 2 : random.nextInt(4);
            case 'k':
                return isWrong ? random.nextInt(2) * 101 - 1 : firstKey + random.nextInt(keys);
            case 'v':
                return isWrong ? random.nextInt(2) * 20000 - 10000 : value();
            case 'i':
                return random.nextInt(2);
            case 'r':
                return isWrong ? random.nextInt(2) * 2000 - 1000 : random.nextInt(1999) - 999;
            case 's':
                return isWrong ? random.nextInt(2) * 99 + 1 : 2 + random.nextInt(98);
            case 'p':
                return isWrong ? -1 - random.nextInt(3) : random.nextInt(keys + 2);
            default:
                return isWrong ? random.nextInt(2) * (kind - '0' + 2) - 1 : random.nextInt(kind - '0' + 1);
        }
    }

    private int value() {
        switch (random.nextInt(4)) {
            case 0:
                return random.nextInt(5) - 2;
            case 1:
                return random.nextInt(1203) - 601;
            case 2:
                return (random.nextInt(2) * 2 - 1) * (9999 - random.nextInt(3));
            default:
                return random.nextInt(19999) - 9999;
        }
    }
}
