import java.io.IOException;
import java.nio.file.Path;

/** Each sentence of the document, with checks of its own. The argument tells where the document is. */
public final class SentencesTest {
    public static void main(String[] args) throws IOException {
        Sentences sentences = new Sentences(Path.of(args[0]));
        new TermsSentences(sentences).check();
        new PromiseSentences(sentences).check();
        new RefusalSentences(sentences).check();
        sentences.end();
    }
}
