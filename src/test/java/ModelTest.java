import java.util.Random;

/** All promises: long runs of calls drawn from fixed seeds, each answer against that of the Model. */
public final class ModelTest {

    private static final int RUNS = 1500;
    private static final int CALLS = 400;
    private static final int DIGEST_EVERY = 4;

    /** The calls with their arguments: b book, w view, k key, v value, i is-, r by of raise(), s by of sift(), digits: 0 to that. */
    private static final String[] CALLS_TOLD = {
        "put bkv", "put bkv", "put bkv", "put bkv", "putAbsent bkv", "replace bkv", "swap bkvv", "strike bk", "strikePair bkv",
        "merge bkv", "grow bk", "halve bk", "twice bk", "poll bi", "raise br", "sift bs", "strikeValue bv", "clear b",
        "pour bb", "copy bb", "thin bbi", "head bki", "tail bki", "sub bkiki", "sub bkiki", "part wkiki", "part wkiki", "shut w",
        "viewPut wkv", "viewPut wkv", "viewStrike wk", "viewMerge wkv", "viewPoll wi", "viewClear w", "walk b", "viewWalk w",
        "step ", "step ", "step ", "step ", "write v", "write v", "drop ", "drop ", "keep bi", "brand v", "knock ",
        "get bk", "getOr bkv", "has bk", "hasValue bv", "ofBook b8", "near bk7", "place bk", "at bp", "row b", "same bb",
        "viewGet wk", "ofView w8", "viewNear wk3", "viewRow w", "ledger 6", "isSound ",
    };

    /** Calls that empty a book at once are drawn less often, so that books fill. */
    private static final String RARE = "clear sift copy thin raise viewClear";

    private final Random random;
    private final int keys;
    private final int firstKey;
    private final boolean isCalm;

    private ModelTest(int seed) {
        random = new Random(seed);
        keys = new int[] {4, 8, 16, 100}[random.nextInt(4)];
        firstKey = random.nextInt(101 - keys);
        isCalm = random.nextBoolean();
    }

    public static void main(String[] args) {
        Runs runs = new Runs();
        for (int seed = 0; seed < RUNS; seed++) {
            new ModelTest(seed).compare(runs, seed);
        }
        runs.end();
    }

    private void compare(Runs runs, int seed) {
        Rangeledger ledger = new Rangeledger();
        Model model = new Model();
        for (int call = 0; call < CALLS; call++) {
            String[] told = drawn().split(" ", -1);
            int[] arguments = new int[told[1].length()];
            StringBuilder text = new StringBuilder();
            for (int i = 0; i < arguments.length; i++) {
                char kind = told[1].charAt(i);
                arguments[i] = argument(kind);
                text.append(i == 0 ? "" : ", ").append(kind == 'i' ? String.valueOf(arguments[i] == 1) : arguments[i]);
            }
            String line = told[0] + "(" + text + ")";
            runs.check("seed " + seed + ", call " + call + ": " + line, Runs.answer(ledger, line), due(model, told[0], arguments));
            if (call % DIGEST_EVERY == 0) {
                runs.check("seed " + seed + ", digest behind call " + call, Runs.answer(ledger, "digest()"),
                    due(model, "digest", new int[0]));
            }
        }
        runs.check("seed " + seed + ", sound at the end", ledger.isSound(), true);
    }

    private static String due(Model model, String name, int[] arguments) {
        try {
            return String.valueOf(model.ask(name, arguments));
        } catch (IndexOutOfBoundsException | IllegalArgumentException | IllegalStateException e) {
            return "! " + e.getClass().getSimpleName();
        }
    }

    private String drawn() {
        String told = CALLS_TOLD[random.nextInt(CALLS_TOLD.length)];
        boolean isRare = RARE.contains(told.substring(0, told.indexOf(' ')));
        return isRare && random.nextInt(isCalm ? 40 : 3) > 0 ? "put bkv" : told;
    }

    private int argument(char kind) {
        boolean isWrong = random.nextInt(60) == 0;
        switch (kind) {
            case 'b':
                return isWrong ? random.nextInt(6) - 2 : random.nextInt(3);
            case 'w':
                return isWrong ? random.nextInt(8) - 2 : random.nextInt(4);
            case 'k':
                return isWrong ? random.nextInt(2) * 101 - 1 : firstKey + random.nextInt(keys);
            case 'v':
                return isWrong ? random.nextInt(2) * 20000 - 10000 : value();
            case 'i':
                return random.nextInt(2);
            case 'r':
                return isWrong ? random.nextInt(2) * 2000 - 1000 : random.nextInt(1999) - 999;
            case 's':
                return isWrong ? random.nextInt(2) * 99 + 1 : 2 + random.nextInt(98);
            case 'p':
                return isWrong ? -1 - random.nextInt(3) : random.nextInt(keys + 2);
            default:
                return isWrong ? random.nextInt(2) * (kind - '0' + 2) - 1 : random.nextInt(kind - '0' + 1);
        }
    }

    private int value() {
        switch (random.nextInt(4)) {
            case 0:
                return random.nextInt(5) - 2;
            case 1:
                return random.nextInt(1203) - 601;
            case 2:
                return (random.nextInt(2) * 2 - 1) * (9999 - random.nextInt(3));
            default:
                return random.nextInt(19999) - 9999;
        }
    }
}
