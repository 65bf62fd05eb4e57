import java.io.IOException;
import java.nio.file.Files;
import java.nio.file.Path;

/** Tests that name the promise (or 'Terms') and the sentence of the document that they look at. */
class Sentences extends Checks {
    static final int LEAST = Integer.MIN_VALUE;
    static final int GREATEST = Integer.MAX_VALUE;
    // numbers that none of so many has, the nearest and the farthest ones
    static final int[] NONE_OF_FOUR = {-1, 4, 5, 1000, LEAST, GREATEST};
    static final int[] NONE_OF_FIVE = {-1, 5, 6, 1000, LEAST, GREATEST};
    static final int[] NONE_OF_THREE = {-1, 3, 4, 1000, LEAST, GREATEST};

    private static Document document;

    /** Reads the document that the quotes are looked up in; where it is not there, they are not. */
    static void quoteFrom(Path file) throws IOException {
        if (Files.exists(file)) {
            document = new Document(file);
        } else {
            System.out.println("there is no " + file + ": what is quoted was not looked up");
        }
    }

    /** What the checks that follow are about: a sentence of 'Terms'. */
    static void terms(String sentence) {
        quote(Document.TERMS, "Terms", sentence);
    }

    /** What the checks that follow are about: a sentence of a promise. */
    static void promise(int number, String sentence) {
        quote(number, "promise " + number, sentence);
    }

    /** Moves a SQUARE by hand: a number is so many twists of 1 (below 0: backs), all else a turn. */
    static void walk(RopeDance x, int square, String moves) {
        for (String part : moves.isEmpty() ? new String[0] : moves.split(" ")) {
            if (part.equals("turn")) {
                is("turn on the way", x.move(square, 2, 0), true);
            } else {
                int k = Integer.parseInt(part);
                for (int left = Math.abs(k); left > 0; left -= 9) {
                    is("move on the way", x.move(square, k > 0 ? 0 : 1, Math.min(9, left)), true);
                }
            }
        }
    }

    /** A SQUARE that is P / Q by moves from 0 / 1 on, and five FIGURES. */
    static RopeDance at(int p, int q, String moves) {
        RopeDance x = with("square a;figure f turn;figure g twist 9;figure h back 9;figure i twist 9 back 9;figure j back 9 twist 9;");
        walk(x, 0, moves);
        tangle(x, 0, p, q);
        return x;
    }

    private static void quote(int part, String name, String sentence) {
        about = name + ", \"" + sentence + "\"";
        if (document != null) {
            is("does it stand in the document?", document.quote(part, sentence), true);
        }
    }

    /** Every word of the document must have been quoted by now. */
    static void lookForUnquoted() {
        about = "the document";
        if (document != null) {
            for (String words : document.unquoted()) {
                is("is it quoted by a test? " + words, false, true);
            }
        }
    }
}
