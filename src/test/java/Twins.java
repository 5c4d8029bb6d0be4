/** A Rangeledger and a Model that get the same calls, and must answer the same. */
final class Twins {

    private final Runs runs;
    private final String name;
    private final Rangeledger ledger = new Rangeledger();
    private final Model model = new Model();
    private int calls;

    Twins(Runs runs, String name) {
        this.runs = runs;
        this.name = name;
    }

    /** Makes a call told in Calls, and hands back its answer. */
    String call(String told, int... arguments) {
        calls++;
        String line = Calls.line(told, arguments);
        String got = Runs.answer(ledger, line);
        runs.check(name + ", call " + calls + ": " + line, got, due(Calls.name(told), arguments));
        return got;
    }

    String digest() {
        return call("digest ");
    }

    private String due(String call, int[] arguments) {
        try {
            return String.valueOf(model.ask(call, arguments));
        } catch (IndexOutOfBoundsException | IllegalArgumentException | IllegalStateException e) {
            return "! " + e.getClass().getSimpleName();
        }
    }
}
