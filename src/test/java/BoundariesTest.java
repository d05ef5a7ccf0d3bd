import java.util.List;
import java.util.Set;
import java.util.TreeSet;

/**
 * The document from its first line to its last, sentence by sentence, with the boundary cases that it names: each test
 * says for which part and sentence it stands. In the end there must be no sentence for which no test stands.
 */
public final class BoundariesTest {
  private BoundariesTest() {
  }

  public static void main(String[] args) {
    FaceBounds.all();
    LandBounds.all();
    TextBounds.all();
    WayBounds.all();
    WalkBounds.all();
    FolkBounds.all();
    DoubtBounds.all();
    VoiceBounds.all();
    SheetBounds.all();
    ImageBounds.all();
    Set<String> parts = partsDue();
    Bounds.TALLY.is("the document's parts are " + Bounds.DOCUMENT.parts(), Bounds.DOCUMENT.parts().equals(parts));
    for (String part : parts) {
      List<String> left = Bounds.DOCUMENT.unnamed(part);
      Bounds.TALLY.is(part + ": no test stands for " + left, left.isEmpty());
    }
    Bounds.TALLY.close();
  }

  private static Set<String> partsDue() {
    Set<String> parts = new TreeSet<>(
        List.of("Title", "What it is", "The public face", "Ahead of the calls", "Not promised"));
    for (int term = 0; term <= 5; term++) parts.add("Terms " + term);
    for (int promise = 1; promise <= 49; promise++) parts.add("Promise " + promise);
    return parts;
  }
}
