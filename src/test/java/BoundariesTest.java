import java.util.List;

/**
 * The boundary cases that the document names, sentence by sentence: each test says for which promise and sentence it
 * stands. In the end there must be no sentence of a promise or of the Terms for which no test stands.
 */
public final class BoundariesTest {
  private BoundariesTest() {
  }

  public static void main(String[] args) {
    LandBounds.all();
    TextBounds.all();
    WayBounds.all();
    WalkBounds.all();
    FolkBounds.all();
    DoubtBounds.all();
    VoiceBounds.all();
    SheetBounds.all();
    ImageBounds.all();
    for (int promise = 1; promise <= 49; promise++) allNamed("Promise " + promise);
    for (int term = 0; term <= 5; term++) allNamed("Terms " + term);
    Bounds.TALLY.close();
  }

  private static void allNamed(String part) {
    List<String> left = Bounds.DOCUMENT.unnamed(part);
    Bounds.TALLY.is(part + ": no test stands for " + left, left.isEmpty());
  }
}
