import java.nio.file.Paths;

/** Sentence by sentence, from 'Terms' to promise 40: the cases at the edges that the document names. */
public final class Boundaries extends Sentences {
    private Boundaries() {
    }

    public static void main(String[] args) throws Exception {
        quoteFrom(Paths.get("../shared/DOC.md"));
        BoundariesOfTexts.run();
        BoundariesOfDances.run();
        BoundariesOfUndoing.run();
        BoundariesOfFigures.run();
        BoundariesOfTold.run();
        lookForUnquoted();
        end("Boundaries");
    }
}
