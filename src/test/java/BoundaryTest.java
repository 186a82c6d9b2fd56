import java.io.IOException;
import java.nio.file.Path;

/** Every sentence of the document that names a boundary case, case by case; it runs from the project's root. */
public final class BoundaryTest {
  public static void main(String[] args) throws IOException {
    Sentences s = new Sentences(Path.of("../shared/DOC.md"));
    LetterCases.tell(s);
    FaultCases.tell(s);
    BearerCases.tell(s);
    SettingCases.tell(s);
    LoadCases.tell(s);
    TrialCases.tell(s);
    OrderCases.tell(s);
    RowCases.tell(s);
    WayCases.tell(s);
    HailCases.tell(s);
    ImageCases.tell(s);
    CountCases.tell(s);
    if (s.end() > 0) System.exit(1);
  }
}
