import java.io.IOException;

/** Every sentence of the document that names a boundary case, at the last input on each side of the edge. */
public final class SentencesTest {
  private SentencesTest() {}

  public static void main(String[] args) throws IOException {
    Sentences sentences = new Sentences();
    new NumberSentences(sentences).all();
    new ActSentences(sentences).all();
    new DirectionSentences(sentences).all();
    new MachineSentences(sentences).all();
    new ExceptionSentences(sentences).all();
    sentences.end();
  }
}
