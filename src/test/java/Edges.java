import java.util.Set;
import java.util.TreeSet;

/** Runs of calls, each for one sentence of the document, which must stand there word by word. */
final class Edges {

    private final Runs runs = new Runs();
    private final Set<Integer> promises = new TreeSet<>();

    /** A run for words of the "Description". */
    void sentence(String words, String lines) {
        runs.check("the Description says: " + words, Doc.describes(words), true);
        runs.run(words, lines);
    }

    /** A run for words of a promise. */
    void promise(int number, String words, String lines) {
        String name = "promise " + number + ": " + words;
        runs.check("stands there, " + name, Doc.promises(number, words), true);
        promises.add(number);
        runs.run(name, lines);
    }

    /** Ends the program; each promise from the first one to the last one must have had a run. */
    void end(int first, int last) {
        for (int number = first; number <= last; number++) {
            runs.check("promise " + number + " has a run", promises.contains(number), true);
        }
        runs.end();
    }
}
