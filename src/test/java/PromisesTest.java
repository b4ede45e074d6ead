/** One group of checks for each promise of the document: ordinary inputs, edges, wrong inputs. */
public final class PromisesTest extends Checks {
  public static void main(String[] args) {
    constants();
    newObject();
    type();
    wipeAndLength();
    applyPatterns();
    applyFaults();
    applyKeepsState();
    applyLongTexts();
    mode();
    setting();
    formatAnswers();
    formatRounds();
    formatDigits();
    formatGroups();
    formatAffixes();
    formatExponents();
    print();
    out();
    field();
    copy();
    parseBodies();
    parseSigns();
    parseExponents();
    parseLimits();
    valueAndScale();
    finish();
  }

  private static void constants() {
    due("NONE", NONE, -1);
    due("BAD", BAD, -2);
    due("INEXACT", INEXACT, -3);
  }

  private static void newObject() {
    PatternedDecimals x = new PatternedDecimals();
    due("new length", x.length(), 0);
    due("new out", x.out(0), NONE);
    due("new value", x.value(), 0L);
    due("new scale", x.scale(), 0);
    due("new parse", x.parse(), false);
    due("new print", x.print(), NONE);
    due("new field", x.field(0, false), NONE);
    for (int k = 0; k <= 6; k++) {
      due("new setting " + k, x.setting(k), NONE);
    }
    due("new format", x.format(1, 0), NONE);
    due("no pattern goes before bad", x.format(Long.MIN_VALUE, 99), NONE);
    due("new apply", x.apply(), 0);
    PatternedDecimals half = with("0");
    due("first mode is half even, down", formatted(half, 25, 1), "2");
    due("first mode is half even, up", formatted(half, 35, 1), "4");
  }

  private static void type() {
    for (int c = 0; c < 65536; c++) {
      if (c < 32 || c > 126) {
        PatternedDecimals none = new PatternedDecimals();
        due("type of " + c, none.type((char) c), false);
        due("length after type of " + c, none.length(), 0);
      }
    }
    PatternedDecimals x = new PatternedDecimals();
    for (int c = 32; c <= 126; c++) {
      due("type of " + c, x.type((char) c), true);
    }
    due("length after all characters", x.length(), 95);
    for (int k = 95; k < 120; k++) {
      due("type number " + k, x.type('a'), true);
    }
    due("type into a full text", x.type('a'), false);
    due("length of a full text", x.length(), 120);
    x.wipe();
    due("type after wipe", x.type('0'), true);
    due("apply after wipe", x.apply(), NONE);
  }

  private static void wipeAndLength() {
    PatternedDecimals x = new PatternedDecimals();
    x.wipe();
    due("length of an empty text", x.length(), 0);
    retype(x, "0.0");
    due("length", x.length(), 3);
    due("apply", x.apply(), NONE);
    due("format", formatted(x, 15, 1), "1.5");
    x.wipe();
    due("length after wipe", x.length(), 0);
    due("wipe leaves OUT", outOf(x), "1.5");
    due("wipe leaves the pattern", x.setting(1), 1);
    due("wipe leaves the fields", x.field(1, false), 2);
    due("apply of an empty text", x.apply(), 0);
  }

  private static void applyPatterns() {
    String[] patterns = {
      "0", "#", "##0", "#,##0", "#,#,0,0", "0.", "#.", "0.0", "#.#", "0.00##", "0E0", "0.E0", "00.0#E000",
      "000000000000", "############", "#,#,#,#,#,#,0,0,0,0,0,0", "0.000000000", "0.#########", "0;0", "a0b;c0d",
      "''0", "'#'0", "'a''b'0", "'''a'0''", "%0", "0%", "'%'0", "0';'", "0';';#", " 0 ", "0e", "5#9", "0-;-0",
      "0;#,##0.0#", "0;0E0", "#,0;0.0E00x", "''''0''''", "0'''", "'E'0'E'"
    };
    for (String pattern : patterns) {
      fault(pattern, pattern.equals("0'''") ? 4 : NONE);
    }
  }

  private static void applyFaults() {
    fault("", 0);
    fault("abc", 3);
    fault("'", 1);
    fault("''", 2);
    fault("'0'", 3);
    fault("'0", 2);
    fault("0'", 2);
    fault("0'ab", 4);
    fault("0'''", 4);
    fault("0'a'';0", 7);
    fault(".5", 0);
    fault(",0", 0);
    fault("a,0", 1);
    fault("E", 0);
    fault(";", 0);
    fault("a;0", 1);
    fault("0#", 1);
    fault("#0#", 2);
    fault("0,#", 2);
    fault("0,", 2);
    fault("0,,0", 2);
    fault("0,a", 2);
    fault("0,.0", 2);
    fault("0,;0", 2);
    fault("0,'a'", 2);
    fault("0.,", 2);
    fault("0..", 2);
    fault("0.#0", 3);
    fault("0.0#0", 4);
    fault("0a0", 2);
    fault("0a.", 2);
    fault("0a,", 2);
    fault("0aE", 2);
    fault("0a#", 2);
    fault("0'a'#", 4);
    fault("#E0", 1);
    fault("0,0E0", 3);
    fault("#0.0E0", 4);
    fault("0E", 2);
    fault("0E#", 2);
    fault("0E-0", 2);
    fault("0E'a'", 2);
    fault("0E;0", 2);
    fault("0E0000", 5);
    fault("0E0.0", 3);
    fault("0E0E0", 3);
    fault("0.0E0#", 5);
    fault("0;", 2);
    fault("0;a", 3);
    fault("0;;", 2);
    fault("0;0;", 3);
    fault("0;0;0", 3);
    fault("0;0#", 3);
    fault("0;#E0", 3);
    fault("0;a'", 4);
    fault("0;0,", 4);
    fault("0000000000000", 12);
    fault("#############", 12);
    fault("000000000000,0", 12);
    fault("0,0,0,0,0,0,0,0,0,0,0,00", 23);
    fault("0.0000000000", 11);
    fault("0.##########", 11);
    fault("0.00000####0", 11);
  }

  private static void applyKeepsState() {
    PatternedDecimals x = with("0.0;(0)");
    due("format", formatted(x, -15, 1), "(1.5)");
    x.copy();
    due("parse", x.parse(), true);
    retype(x, "x%,");
    due("wrong apply", x.apply(), 2);
    due("TEXT stays", x.length(), 3);
    due("OUT stays", outOf(x), "(1.5)");
    due("fields stay", x.field(0, false), 1);
    due("setting 1 stays", x.setting(1), 1);
    due("setting 5 stays", x.setting(5), 1);
    due("setting 6 stays", x.setting(6), 1);
    due("value stays", x.value(), -15L);
    due("affixes stay", formatted(x, -25, 1), "(2.5)");
    retype(x, "0");
    due("another apply", x.apply(), NONE);
    due("TEXT stays too", x.length(), 1);
    due("OUT stays too", outOf(x), "(2.5)");
    due("fields stay too", x.field(1, true), 4);
    due("setting 6 changes", x.setting(6), 0);
    due("affixes change", formatted(x, -3, 0), "-3");
    due("value stays too", x.value(), -15L);
    applyInARow();
  }

  private static void applyInARow() {
    PatternedDecimals x = with("%#,00.0%;(%0)");
    String[] patterns = {"0", "#.#", "a0b", "0;x0y", "0", "00E0", "#"};
    String[] negative = {"-3", "-3", "-a3b", "x3y", "-3", "-30E-1", "-3"};
    for (int k = 0; k < patterns.length; k++) {
      retype(x, patterns[k]);
      due("apply of " + patterns[k] + " in a row", x.apply(), NONE);
      due("setting 3 in a row", x.setting(3), 0);
      due("setting 5 in a row", x.setting(5), 1);
      due("setting 6 in a row", x.setting(6), k == 3 ? 1 : 0);
      due("format by " + patterns[k] + " in a row", formatted(x, -3, 0), negative[k]);
      due("print of " + patterns[k] + " in a row", x.print() > 0, true);
      due("first character printed in a row", x.out(0), (int) patterns[k].charAt(0));
    }
  }

  private static void applyLongTexts() {
    String forty = many('a', 39) + "0";
    fault(forty, NONE);
    longFault(many('b', 40) + "0", 40);
    longFault("0" + many('b', 119), 40);
    longFault(many('b', 119), 119);
    longFault(many('b', 60) + "0,x" + many('b', 20), 62);
    longFault(many('b', 60) + "0'" + many('#', 58), 120);
    longFault("0,x" + many('b', 80), 2);
    longFault("0;" + many('b', 117) + "0", 40);
  }

  private static void longFault(String text, int want) {
    fault(text, want);
    PatternedDecimals x = with(many('a', 39) + "0");
    retype(x, text);
    due("apply of " + text + " over another pattern", x.apply(), want);
    due("that pattern stays, positive", formatted(x, 1, 0), many('a', 39) + "1");
    due("that pattern stays, negative", formatted(x, -1, 0), "-" + many('a', 39) + "1");
  }

  private static void mode() {
    PatternedDecimals x = with("0");
    for (int m = 0; m <= 7; m++) {
      due("mode " + m, x.mode(m), true);
    }
    due("mode 7 holds", x.format(15, 1), INEXACT);
    int[] wrongModes = {-1, 8, Integer.MIN_VALUE, Integer.MAX_VALUE};
    for (int m : wrongModes) {
      due("mode " + m, x.mode(m), false);
      due("mode 7 still holds", x.format(15, 1), INEXACT);
    }
    due("mode 0", x.mode(0), true);
    due("mode 0 holds", formatted(x, 11, 1), "2");
    retype(x, "0.0");
    due("apply", x.apply(), NONE);
    due("mode stays with another pattern", formatted(x, 111, 2), "1.2");
  }

  private static void setting() {
    settings("#", 0, 0, 0, 0, 0, 1, 0);
    settings("0", 1, 0, 0, 0, 0, 1, 0);
    settings("##00.", 2, 0, 0, 0, 0, 1, 0);
    settings("#,##0.00##", 1, 2, 4, 3, 0, 1, 0);
    settings("#,#,00.#", 2, 0, 1, 2, 0, 1, 0);
    settings("0,00000000000", 12, 0, 0, 11, 0, 1, 0);
    settings("#,#", 0, 0, 0, 1, 0, 1, 0);
    settings("000.0#E00", 3, 1, 2, 0, 2, 1, 0);
    settings("0E000", 1, 0, 0, 0, 3, 1, 0);
    settings("%#.000000000", 0, 9, 9, 0, 0, 100, 0);
    settings("#%%;0", 0, 0, 0, 0, 0, 100, 1);
    settings("'%'0'%'", 1, 0, 0, 0, 0, 1, 0);
    settings("0;%0%", 1, 0, 0, 0, 0, 1, 1);
    settings("#.#;#,000.00", 0, 0, 1, 0, 0, 1, 1);
    settings("0;0E000", 1, 0, 0, 0, 0, 1, 1);
  }

  private static void formatAnswers() {
    PatternedDecimals x = with("0.0");
    long most = 999999999999999L;
    due("most", formatted(x, most, 0), "999999999999999.0");
    due("least", formatted(x, -most, 0), "-999999999999999.0");
    due("over the most", x.format(most + 1, 0), BAD);
    due("under the least", x.format(-most - 1, 0), BAD);
    due("least long", x.format(Long.MIN_VALUE, 0), BAD);
    due("most long", x.format(Long.MAX_VALUE, 0), BAD);
    due("scale -1", x.format(1, -1), BAD);
    due("scale 10", x.format(1, 10), BAD);
    due("least scale", x.format(1, Integer.MIN_VALUE), BAD);
    due("most scale", x.format(1, Integer.MAX_VALUE), BAD);
    due("OUT stays after BAD", outOf(x), "-999999999999999.0");
    due("fields stay after BAD", x.field(0, false), 1);
    due("scale 9", formatted(x, 1500000000, 9), "1.5");
    due("mode 7", x.mode(7), true);
    due("bad goes before inexact", x.format(15, 10), BAD);
    due("inexact", x.format(155, 2), INEXACT);
    due("OUT stays after INEXACT", outOf(x), "1.5");
    due("fields stay after INEXACT", x.field(1, true), 3);
    due("exact in mode 7", formatted(x, 1550, 2), "15.5");
    due("exact with more places in mode 7", formatted(x, 100, 2), "1.0");
    due("shorter OUT in place of a longer one", formatted(x, 0, 9), "0.0");
    retype(x, "0E0");
    due("apply", x.apply(), NONE);
    due("inexact with exponent", x.format(12, 0), INEXACT);
    due("exact with exponent", formatted(x, 100, 0), "1E2");
    due("0 is exact with exponent", formatted(x, 0, 0), "0E0");
  }

  private static void formatRounds() {
    int[] us = {25, -25, 35, -35, 21, -21, 29, -29, 20, -20, 1, -1, 5, -5};
    String[][] want = {
      {"3", "-3", "4", "-4", "3", "-3", "3", "-3", "2", "-2", "1", "-1", "1", "-1"},
      {"2", "-2", "3", "-3", "2", "-2", "2", "-2", "2", "-2", "0", "0", "0", "0"},
      {"3", "-2", "4", "-3", "3", "-2", "3", "-2", "2", "-2", "1", "0", "1", "0"},
      {"2", "-3", "3", "-4", "2", "-3", "2", "-3", "2", "-2", "0", "-1", "0", "-1"},
      {"3", "-3", "4", "-4", "2", "-2", "3", "-3", "2", "-2", "0", "0", "1", "-1"},
      {"2", "-2", "3", "-3", "2", "-2", "3", "-3", "2", "-2", "0", "0", "0", "0"},
      {"2", "-2", "4", "-4", "2", "-2", "3", "-3", "2", "-2", "0", "0", "0", "0"}
    };
    for (int m = 0; m < want.length; m++) {
      for (int k = 0; k < us.length; k++) {
        formats("0", m, us[k], 1, want[m][k]);
      }
    }
    formats("0.0", 4, 149, 3, "0.1");
    formats("0.0", 5, 150001, 6, "0.2");
    formats("0.0", 6, 250000001, 9, "0.3");
    formats("0.0", 6, 250000000, 9, "0.2");
    formats("0", 0, 999999999999999L, 1, "100000000000000");
  }

  private static void formatDigits() {
    formats("#", 0, 0, "0");
    formats("#.#", 0, 3, "0");
    formats("#.0", 0, 0, ".0");
    formats("#.##", 5, 1, ".5");
    formats("#.##", 15, 1, "1.5");
    formats("#.##", 100, 2, "1");
    formats("0.0##", 12, 1, "1.2");
    formats("0.0##", 1, 0, "1.0");
    formats("0.000##", 12345678, 7, "1.23457");
    formats("0000", 12, 0, "0012");
    formats("0000", 123456, 0, "123456");
    formats("000000000000.000000000", 1, 9, "000000000000.000000001");
    formats("#.", 7, 0, "7");
    formats("0.#########", 1, 9, "0.000000001");
    formats("0.##", 105, 1, "10.5");
    formats("0.##", 1005, 2, "10.05");
  }

  private static void formatGroups() {
    formats("#,##0", 123, 0, "123");
    formats("#,##0", 1234, 0, "1,234");
    formats("#,##0", -123456, 0, "-123,456");
    formats("#,##0", 999999999999999L, 0, "999,999,999,999,999");
    formats("#,##0%", 999999999999999L, 0, "99,999,999,999,999,900%");
    formats("#,#", 12345, 0, "1,2,3,4,5");
    formats("0,0", 0, 0, "0,0");
    formats("#,##,00", 1234567, 0, "1,23,45,67");
    formats("00000,000", 1, 0, "00,000,001");
    formats("#,###.##", 5, 1, ".5");
    formats("#,###.####", 12345678, 4, "1,234.5678");
    formats("#,000", 1, 0, "001");
  }

  private static void formatAffixes() {
    formats("a0b", 1, 0, "a1b");
    formats("a0b", -1, 0, "-a1b");
    formats("a0b;c0d", -1, 0, "c1d");
    formats("a0b;c0d", 1, 0, "a1b");
    formats("a0b;c0d", 0, 0, "a0b");
    formats("a0b;c0d", -4, 1, "a0b");
    formats("0;000.000", -1, 0, "1");
    formats("''0''", 1, 0, "'1'");
    formats("'a''b#,.0;E%'0", 1, 0, "a'b#,.0;E%1");
    formats("'''a'0", 1, 0, "'a1");
    formats("''''0", 1, 0, "''1");
    formats("0%", 5, 2, "5%");
    formats("%0", 125, 3, "%12");
    formats("0.0%", -12345, 4, "-123.4%");
    formats("0;%0", -5, 0, "%5");
    formats("0%;0", -5, 0, "500");
    formats("0'%'", 5, 0, "5%");
    formats("0%%", 1, 0, "100%%");
    formats("0 e", 1, 0, "1 e");
  }

  private static void formatExponents() {
    formats("0E0", 0, 5, "0E0");
    formats("000.00E00", 0, 0, "000.00E00");
    formats("0E0", 1, 0, "1E0");
    formats("0E0", 1, 9, "1E-9");
    formats("0E00", 1, 9, "1E-09");
    formats("0E000", 10, 0, "1E001");
    formats("0.##E0", 12345, 0, "1.23E4");
    formats("0.##E0", 12355, 0, "1.24E4");
    formats("0.##E0", -9999, 0, "-1E4");
    formats("0.00E0", 9995, 0, "1.00E4");
    formats("0.00E0", 99949, 1, "9.99E3");
    formats("000.#E0", 12345, 0, "123.4E2");
    formats("000.#E0", 1, 0, "100E-2");
    formats("000E0", 9996, 1, "100E1");
    formats("000000000000E0", 1, 9, "100000000000E-20");
    formats("000000000000.000000000E0", 999999999999999L, 0, "999999999999.999000000E3");
    formats("0.#########E0%", 999999999999999L, 0, "1E17%");
    formats("0.#########E0", 1, 123456789012345L, 0, "1.23456789E14");
    formats("0E0", 3, -11, 0, "-2E1");
    formats("0E0", 2, -19, 0, "-1E1");
    formats("0E0", 0, 91, 0, "1E2");
    formats("a0E0b;c0E0d", -1, 0, "c1E0d");
    formats("0E0%", 1, 0, "1E2%");
  }

  private static void print() {
    prints("0", "0");
    prints("####", "#");
    prints("####0", "0");
    prints("#.", "#");
    prints("0.0##", "0.0##");
    prints("#.00", "#.00");
    prints("#,##0", "#,##0");
    prints("###,##0", "#,##0");
    prints("#,#,#,000", "#,000");
    prints("#####,00", "#,00");
    prints("0,0,00", "00,00");
    prints("#,#", "#,#");
    prints("0000,0", "0000,0");
    prints("#,000.0#", "#,000.0#");
    prints("00.0#E00", "00.0#E00");
    prints("0.E0", "0E0");
    prints("'a'0", "a0");
    prints("'a#b'0", "a'#b'0");
    prints("'#'0'.'", "'#'0'.'");
    prints("'#'a';'0", "'#a;'0");
    prints("'#''a'0", "'#''a'0");
    prints("'a''#'0", "a'''#'0");
    prints("'#'%'%'0", "'#'%'%'0");
    prints("'%'0%", "'%'0%");
    prints("'#'''0", "'#'''0");
    prints("0'E'e", "0'Ee'");
    prints("''0''", "''0''");
    prints("0;-0", "0");
    prints("0;'-'0.00", "0");
    prints("a0b;-a000b", "a0b");
    prints("a0b;-a0", "a0b;-a#");
    prints("abc0;-abc0", "abc0");
    prints("abc0;-acc0", "abc0;-acc#");
    prints("abc0;-ab0", "abc0;-ab#");
    prints("0abc;-0abc", "0abc");
    prints("0abc;-0acc", "0abc;-#acc");
    prints("0abc;-0abcd", "0abc;-#abcd");
    prints("a0b;a0b", "a0b;a#b");
    prints("a0;--a0", "a0;--a#");
    prints("a0;-0", "a0;-#");
    prints("0;(#,##0.0)", "0;(#)");
    prints("%0;-%0", "%0");
    prints("%0;-'%'0", "%0;-'%'#");
    prints("0%;-0'%'", "0%;-#'%'");
    prints("0';';';'0';'", "0';';';'#';'");
    PatternedDecimals x = with("0;-0");
    x.print();
    due("setting 6 after print", x.setting(6), 1);
  }

  private static void out() {
    PatternedDecimals x = with("0.0");
    due("out before format", x.out(0), NONE);
    due("format", x.format(12, 1), 3);
    due("out 0", x.out(0), (int) '1');
    due("out 1", x.out(1), (int) '.');
    due("out 2", x.out(2), (int) '2');
    due("out 3", x.out(3), NONE);
    due("out -1", x.out(-1), NONE);
    due("out least", x.out(Integer.MIN_VALUE), NONE);
    due("out most", x.out(Integer.MAX_VALUE), NONE);
    due("longer format", x.format(1234, 1), 5);
    due("shorter format", x.format(12, 1), 3);
    due("out 3 after a longer one", x.out(3), NONE);
  }

  private static void field() {
    fields("0", 12, 0, 0, 2, 2, 2, 2, 2);
    fields("ab0.0cd", -15, 1, 3, 4, 5, 6, 6, 6);
    fields("a#.#", 5, 1, 1, 1, 2, 3, 3, 3);
    fields("$#,##0.00", 123456789, 2, 1, 10, 11, 13, 13, 13);
    fields("x0E00y", 1, 3, 1, 2, 2, 2, 3, 6);
    fields("x00.0E0y", 12345, 0, 1, 3, 4, 5, 6, 7);
    PatternedDecimals x = with("a0.0");
    due("field before format", x.field(0, false), NONE);
    due("format", x.format(15, 1), 4);
    due("field", x.field(0, false), 1);
    x.copy();
    due("parse", x.parse(), true);
    due("field after copy and parse", x.field(0, false), 1);
    retype(x, "0");
    due("apply", x.apply(), NONE);
    due("field after another apply", x.field(1, true), 4);
    due("print", x.print(), 1);
    due("field after print", x.field(0, false), NONE);
    due("bad format", x.format(1, -1), BAD);
    due("field after print and a bad format", x.field(0, false), NONE);
    due("format again", x.format(1, 0), 1);
    due("field after format again", x.field(0, true), 1);
  }

  private static void copy() {
    PatternedDecimals x = new PatternedDecimals();
    retype(x, "abc");
    x.copy();
    due("copy of an empty OUT", x.length(), 0);
    retype(x, "x0y");
    due("apply", x.apply(), NONE);
    due("format", formatted(x, 77, 0), "x77y");
    x.copy();
    due("length after copy", x.length(), 4);
    due("OUT after copy", outOf(x), "x77y");
    due("parse of the copy", x.parse(), true);
    due("value of the copy", x.value(), 77L);
    due("type behind the copy", x.type('!'), true);
    due("OUT is apart from TEXT", outOf(x), "x77y");
    due("length behind the copy", x.length(), 5);
    due("print", x.print(), 3);
    x.copy();
    due("apply of a copied print", x.apply(), NONE);
    due("print again", x.print(), 3);
    due("OUT after print again", outOf(x), "x0y");
    for (int k = 0; k < 117; k++) {
      due("type up to the end", x.type('z'), true);
    }
    due("type beyond the end", x.type('z'), false);
  }

  private static void parseBodies() {
    reads("0.0", "12.50", 125, 1);
    reads("0.0", "0", 0, 0);
    reads("0.0", "-0.00", 0, 0);
    reads("0.0", "1200", 12, -2);
    reads("0.0", "5.", 5, 0);
    reads("0.0", ".5", 5, 1);
    reads("0.0", "000.0050", 5, 3);
    reads("0", "1.25", 125, 2);
    reads("0.0", "10.01", 1001, 2);
    refuses("0.0", "");
    refuses("0.0", ".");
    refuses("0.0", "-");
    refuses("0.0", "-.");
    refuses("0.0", "1.2.3");
    refuses("0.0", "1 ");
    refuses("0.0", "+1");
    refuses("0.0", "1e5");
    refuses("0.0", "1E5");
    refuses("0.0", "1,000");
    refuses("0.0", "--1");
    refuses("0.0", "1-");
    reads("#,##0.0", "1,234.5", 12345, 1);
    reads("#,##0.0", "1,2,3", 123, 0);
    reads("#,##0.0", "1234", 1234, 0);
    refuses("#,##0.0", ",1");
    refuses("#,##0.0", "1,");
    refuses("#,##0.0", "1,,2");
    refuses("#,##0.0", "1,.5");
    refuses("#,##0.0", "1.2,3");
    refuses("#,##0.0", "1.,3");
    refuses("#,##0.0", ",");
    refuses("5#,##0", "5,1");
    refuses("#,##05", "1,5");
    reads("5#,##05", "51,25", 12, 0);
  }

  private static void parseSigns() {
    reads("a0b", "a7b", 7, 0);
    reads("a0b", "-a7b", -7, 0);
    refuses("a0b", "a-7b");
    refuses("a0b", "a7");
    refuses("a0b", "7b");
    refuses("a0b", "ab");
    refuses("a0b", "xa7b");
    refuses("a0b", "a7bx");
    reads("a0b;c0d", "c7d", -7, 0);
    refuses("a0b;c0d", "-a7b");
    refuses("a0b;c0d", "a7d");
    refuses("a0b;c0d", "c7b");
    reads("0;0", "7", 7, 0);
    reads("0;10", "17", 17, 0);
    reads("x0;0", "7", -7, 0);
    reads("0;0000.0", "7", 7, 0);
    reads("0;#,##0x", "7x", -7, 0);
    refuses("0;#,##0x", "1,007x");
    reads("#,##0;0x", "1,007x", -1007, 0);
    reads("-0;0", "-7", 7, 0);
    refuses("aa0aa", "aaa");
    refuses("aba0aba", "ababa");
    reads("0%", "50%", 5, 1);
    reads("0%", "-100%", -1, 0);
    reads("0%", "1.5%", 15, 3);
    reads("0%", "0%", 0, 0);
    refuses("0%", "50");
    reads("0'%'", "50%", 5, -1);
    reads("0;%0", "%5", -5, 0);
    reads("'#'0''", "#5'", 5, 0);
  }

  private static void parseExponents() {
    reads("0E0", "1E0", 1, 0);
    reads("0E0", "12.5E3", 125, -2);
    reads("0E0", "-12.5E-3", -125, 4);
    reads("0E0", "1E999", 1, -999);
    reads("0E0", "1E-999", 1, 999);
    reads("0E0", "1E007", 1, -7);
    reads("0E0", "1E-0", 1, 0);
    reads("0E0", "0E5", 0, 0);
    reads("0E0", ".0E0", 0, 0);
    reads("0E0", "5.E1", 5, -1);
    reads("0E0%", "5E1%", 5, 1);
    refuses("0E0", "1");
    refuses("0E0", "1E");
    refuses("0E0", "1E-");
    refuses("0E0", "1E1000");
    refuses("0E0", "1E--1");
    refuses("0E0", "1E+1");
    refuses("0E0", "1E1.0");
    refuses("0E0", "E1");
    refuses("0E0", ".E1");
    refuses("0E0", "1e1");
    refuses("0E0", "1,0E1");
    refuses("0E0", "1E1E1");
    reads("0E05", "1E15", 1, -1);
  }

  private static void parseLimits() {
    reads("0", "99999999999999999", 99999999999999999L, 0);
    reads("0", "-99999999999999999", -99999999999999999L, 0);
    reads("0", "100000000000000000", 1, -17);
    reads("0", "1" + many('0', 119), 1, -119);
    reads("0", many('0', 119) + "1", 1, 0);
    reads("0", "." + many('0', 118) + "1", 1, 119);
    reads("0", "12345678901234567" + many('0', 50), 12345678901234567L, -50);
    reads("0", "1234567890.1234567" + many('0', 50), 12345678901234567L, 7);
    reads("0", "10000000000000001", 10000000000000001L, 0);
    refuses("0", "100000000000000001");
    refuses("0", "123456789012345678");
    refuses("0", "-123456789012345678");
    refuses("0", "1.00000000000000001");
    refuses("0", "1" + many('0', 118) + "1");
    refuses("0", many('9', 120));
    refuses("0;0", "123456789012345678");
    refuses("0;10", "10000000000000000000000002");
    refuses("0;12345678#", "123456789012345678");
    refuses("0E0", "123456789012345678E1");
  }

  private static void valueAndScale() {
    PatternedDecimals x = with("0.0");
    due("value before parse", x.value(), 0L);
    due("scale before parse", x.scale(), 0);
    retype(x, "x");
    due("refused parse", x.parse(), false);
    due("value after a refused parse", x.value(), 0L);
    retype(x, "-1.25");
    due("parse", x.parse(), true);
    x.wipe();
    due("value", x.value(), -125L);
    due("scale", x.scale(), 2);
    due("value twice", x.value(), -125L);
    due("refused parse of an empty text", x.parse(), false);
    due("format", formatted(x, 99, 1), "9.9");
    due("value after format", x.value(), -125L);
    due("scale after format", x.scale(), 2);
    retype(x, "3000");
    due("later parse", x.parse(), true);
    due("later value", x.value(), 3L);
    due("later scale", x.scale(), -3);
    retype(x, "0.000");
    due("parse of 0", x.parse(), true);
    due("value of 0", x.value(), 0L);
    due("scale of 0", x.scale(), 0);
  }
}
