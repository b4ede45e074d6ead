/** What the examples of README.md say is so. */
public final class ReadmeTest extends Checks {
  public static void main(String[] args) {
    firstExample();
    patterns();
    faults();
    finish();
  }

  private static void firstExample() {
    PatternedDecimals x = new PatternedDecimals();
    for (char c : "#,##0.00;(#)".toCharArray()) {
      due("type " + c, x.type(c), true);
    }
    due("apply", x.apply(), NONE);
    due("mode", x.mode(4), true);
    due("format", x.format(-1234565, 3), 10);
    due("OUT", outOf(x), "(1,234.57)");
    due("out", x.out(0), 40);
    due("field 1", x.field(1, false), 7);
    due("end of field 1", x.field(1, true), 9);
    x.copy();
    due("parse", x.parse(), true);
    due("value", x.value(), -123457L);
    due("scale", x.scale(), 2);
    due("print", x.print(), 12);
    due("OUT after print", outOf(x), "#,##0.00;(#)");
  }

  private static void patterns() {
    formats("0.00", 5, 1, "0.50");
    formats("#.##", 5, 1, ".5");
    formats("#,##0", 1234567, 0, "1,234,567");
    formats("0.#%", 125, 3, "12.5%");
    formats("0.0##E00", 12345, 0, "1.234E04");
    formats("$0;($0)", -7, 0, "($7)");
    formats("0", -7, 0, "-7");
    formats("'#'0", 7, 0, "#7");
    formats("0 o''clock", 7, 0, "7 o'clock");
  }

  private static void faults() {
    fault("0.0,", 3);
    fault("0,", 2);
  }
}
