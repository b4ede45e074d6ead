/** The boundary cases of promises 1 to 15: one method for each sentence that names one. */
public final class CallBoundariesTest extends Checks {
  private static final long MOST = 999999999999999L;
  private static final int[] FAR = {Integer.MIN_VALUE, Integer.MIN_VALUE + 1, Integer.MIN_VALUE / 2,
    Integer.MAX_VALUE / 2, Integer.MAX_VALUE / 2 + 1, Integer.MAX_VALUE - 1, Integer.MAX_VALUE};

  public static void main(String[] args) {
    usedFor512Calls();
    newObject();
    objectsAreApart();
    typeOfOtherCharacters();
    typeIntoAFullText();
    typeChangesNothingElse();
    wipe();
    length();
    applyReplaces();
    applyLeavesNothingBehind();
    applyOfNoPattern();
    applyOfALongFault();
    applyOfALongPattern();
    patternStays();
    stillNoPattern();
    textAndOutStay();
    modeOutOfRange();
    settingWithoutPattern();
    settingOutOfRange();
    formatInPlace();
    formatWithoutPattern();
    formatOfBadNumber();
    formatOfBadScale();
    formatInexact();
    orderOfRefusals();
    printInPlace();
    printWithoutPattern();
    printWithoutSecondPart();
    printOfTheUsualSecondPart();
    printOfAnotherSecondPart();
    printOfAGroup();
    printWithoutGroup();
    printWithoutFraction();
    printOfAnExponent();
    printOfQuoteLetters();
    printOfQuotedLetters();
    printClosesQuotes();
    outOutOfRange();
    fieldOfIntegerDigits();
    fieldWithoutFraction();
    fieldWithoutExponent();
    fieldOutOfRange();
    fieldNotOfFormat();
    copy();
    copyOfTheLongest();
    parseWithoutPattern();
    parseOfAnUnreadText();
    nothingRead();
    latestRead();
    finish();
  }

  private static void nothing(PatternedDecimals x) {
  }

  /** A pattern, a mode, an OUT with fields and a number that was read; TEXT is a number. */
  private static void inUse(PatternedDecimals x) {
    retype(x, "a0.0#;b0");
    x.apply();
    x.mode(3);
    retype(x, "b1.25");
    x.parse();
    x.format(-375, 2);
    retype(x, "a7.5");
  }

  private static void inUseAndPrinted(PatternedDecimals x) {
    inUse(x);
    x.print();
  }

  private static void noPatternButText(PatternedDecimals x) {
    retype(x, "0.5");
    x.mode(2);
  }

  private static void everywhereChangesNothing(String what, Calls calls) {
    changesNothing(what + " on a new object", CallBoundariesTest::nothing, calls);
    changesNothing(what + " without a pattern", CallBoundariesTest::noPatternButText, calls);
    changesNothing(what + " in use", CallBoundariesTest::inUse, calls);
    changesNothing(what + " after print", CallBoundariesTest::inUseAndPrinted, calls);
  }

  private static void usedFor512Calls() {
    sentence("An object is used for at most 512 calls after it has been made");
    PatternedDecimals x = new PatternedDecimals();
    due("call 1", x.type('0'), true);
    due("call 2", x.apply(), NONE);
    for (int call = 3; call <= 507; call += 3) {
      due("call " + call, x.format(call, 0), ("" + call).length());
      x.copy();
      due("call " + (call + 2), x.parse(), true);
    }
    due("call 510", x.format(7001, 0), 4);
    due("call 511", x.print(), 1);
    due("call 512", x.value(), 507L);
  }

  private static void newObject() {
    sentence("Promise 1: TEXT and OUT empty, no pattern, mode 6, nothing read");
    newObjectIsNew();
  }

  private static void newObjectIsNew() {
    PatternedDecimals x = new PatternedDecimals();
    due("length", x.length(), 0);
    due("out", x.out(0), NONE);
    due("value", x.value(), 0L);
    due("scale", x.scale(), 0);
    due("setting", x.setting(0), NONE);
    due("field", x.field(0, false), NONE);
    x.copy();
    due("length after copy", x.length(), 0);
    changesNothing("mode 6 of a new object", CallBoundariesTest::nothing, y -> y.mode(6));
  }

  private static void objectsAreApart() {
    sentence("Promise 1: a new object, whatever others have done");
    PatternedDecimals other = new PatternedDecimals();
    inUse(other);
    newObjectIsNew();
    due("length of the other", other.length(), 4);
    due("OUT of the other", outOf(other), "b3.75");
    due("value of the other", other.value(), -125L);
  }

  private static void typeOfOtherCharacters() {
    sentence("Promise 2: false, changing nothing, if it is not 32 .. 126");
    PatternedDecimals edges = new PatternedDecimals();
    due("type of 31", edges.type((char) 31), false);
    due("length", edges.length(), 0);
    due("type of 32", edges.type((char) 32), true);
    due("type of 126", edges.type((char) 126), true);
    due("type of 127", edges.type((char) 127), false);
    due("length", edges.length(), 2);
    char[] others = {0, 1, 9, 10, 13, 31, 127, 128, 160, 255, 256, 256 + '0', 512 + '0', 0x660, 32767, 32768,
      32768 + '0', 65280 + '0', 65535};
    for (char c : others) {
      everywhereChangesNothing("type of " + (int) c, x -> due("type of " + (int) c, x.type(c), false));
    }
  }

  private static void fillText(PatternedDecimals x) {
    x.wipe();
    for (int k = 0; k < 119; k++) {
      x.type('0');
    }
    due("type of character 120", x.type('7'), true);
  }

  private static void typeIntoAFullText() {
    sentence("Promise 2: false, changing nothing, if TEXT has 120");
    PatternedDecimals x = with("0");
    fillText(x);
    due("length", x.length(), 120);
    for (char c : "0a %'".toCharArray()) {
      due("type of character 121", x.type(c), false);
      due("length", x.length(), 120);
    }
    due("parse", x.parse(), true);
    due("value", x.value(), 7L);
    x.wipe();
    due("type after wipe", x.type('8'), true);
    due("length after wipe", x.length(), 1);
    changesNothing("type into a full text", CallBoundariesTest::fillText, y -> y.type('0'));
  }

  private static void typeChangesNothingElse() {
    sentence("Promise 2: Appends a character to TEXT");
    PatternedDecimals x = new PatternedDecimals();
    inUse(x);
    due("type", x.type('1'), true);
    due("length", x.length(), 5);
    due("OUT", outOf(x), "b3.75");
    due("field", x.field(1, true), 5);
    due("parse", x.parse(), true);
    due("value", x.value(), 751L);
    due("scale", x.scale(), 2);
  }

  private static void wipe() {
    sentence("Promise 3: TEXT becomes empty");
    changesNothing("wipe of an empty text", CallBoundariesTest::nothing, PatternedDecimals::wipe);
    PatternedDecimals x = new PatternedDecimals();
    fillText(x);
    x.wipe();
    due("length after wipe of a full text", x.length(), 0);
    due("apply of an empty text", x.apply(), 0);
    x.wipe();
    due("length after a second wipe", x.length(), 0);
    PatternedDecimals y = new PatternedDecimals();
    inUse(y);
    y.wipe();
    due("parse of an empty text", y.parse(), false);
    due("OUT", outOf(y), "b3.75");
    due("field", y.field(0, false), 1);
    due("value", y.value(), -125L);
    due("setting", y.setting(2), 2);
    due("mode", formatted(y, -3751, 3), "b3.76");
  }

  private static void length() {
    sentence("Promise 4: The number of characters of TEXT");
    PatternedDecimals x = new PatternedDecimals();
    for (int k = 0; k < 120; k++) {
      due("length", x.length(), k);
      x.type((char) (32 + k % 95));
    }
    due("length of a full text", x.length(), 120);
    x.type('a');
    due("length after a refused type", x.length(), 120);
    x.copy();
    due("length of a copied empty OUT", x.length(), 0);
  }

  private static void applyReplaces() {
    sentence("Promise 5: The pattern becomes TEXT: NONE");
    PatternedDecimals x = with("%#,00.0#%;(%0)");
    retype(x, "#");
    due("apply", x.apply(), NONE);
    for (int k = 0; k <= 6; k++) {
      due("setting " + k, x.setting(k), k == 5 ? 1 : 0);
    }
    due("negative", formatted(x, -12345, 1), "-1234");
    due("print", x.print(), 1);
    due("the same again", x.apply(), NONE);
  }

  private static void applyLeavesNothingBehind() {
    sentence("Promise 5: The pattern becomes TEXT, whatever patterns and refused texts there were before it");
    String[] before = {"%#,00.0#%;(%0)", "00.0#E00", "'a%", "#,#,0;0,", "x0.00E0;y0.00E0z", "##,##0.0#;%b0c%#"};
    String[] patterns = {"#", "0", "a0b", "0.0", "0E0", "#,#"};
    String[] negative = {"-12", "-12", "-a12b", "-12.0", "-1E1", "-1,2"};
    for (int k = 0; k < patterns.length; k++) {
      PatternedDecimals x = new PatternedDecimals();
      for (String text : before) {
        retype(x, text);
        x.apply();
      }
      retype(x, patterns[k]);
      due("apply of " + patterns[k], x.apply(), NONE);
      due("setting 5 of " + patterns[k], x.setting(5), 1);
      due("setting 6 of " + patterns[k], x.setting(6), 0);
      due("negative of " + patterns[k], formatted(x, -12, 0), negative[k]);
      x.print();
      due("print of " + patterns[k], outOf(x), patterns[k]);
    }
  }

  private static void applyOfNoPattern() {
    sentence("Promise 5: If TEXT is no pattern, its fault");
    fault("", 0);
    fault(",", 0);
    fault("0#", 1);
    fault("abc", 3);
    fault("0;0;0", 3);
  }

  private static void applyOfALongFault() {
    sentence("Promise 5: its fault (however long it is)");
    fault(many('a', 40), 40);
    fault(many('a', 41), 41);
    fault(many('a', 120), 120);
    fault(many('a', 60) + ",", 60);
    fault("0," + many('a', 118), 2);
    fault(many('a', 39) + "0;" + many('a', 79), 120);
    fault(many('a', 50) + "0" + many('a', 30) + "0", 81);
  }

  private static void applyOfALongPattern() {
    sentence("Promise 5: if it is one with more than 40 characters, 40");
    fault(many('a', 38) + "0", NONE);
    fault(many('a', 39) + "0", NONE);
    fault(many('a', 40) + "0", 40);
    fault("0" + many('a', 39), NONE);
    fault("0" + many('a', 40), 40);
    fault("0" + many('a', 119), 40);
    fault(many('a', 119) + "0", 40);
    fault("0;" + many('a', 37) + "0", NONE);
    fault("0;" + many('a', 38) + "0", 40);
    fault("0'" + many('#', 37) + "'", NONE);
    fault("0'" + many('#', 38) + "'", 40);
    fault("''".repeat(19) + "00", NONE);
    fault("''".repeat(20) + "0", 40);
  }

  private static void patternStays() {
    sentence("Promise 5: the pattern stays as it was then");
    String[] texts = {"", "%", "%#,", "x%0,", "x%0,0.0#;y%0%;", "#;%a", "0E", many('a', 40) + "0", "0%" + many('a', 39),
      "#,0;" + many('a', 40) + "0"};
    for (String text : texts) {
      PatternedDecimals x = with("a0.0#;b0c");
      retype(x, text);
      due("apply of " + text, x.apply() != NONE, true);
      int[] want = {1, 1, 2, 0, 0, 1, 1};
      for (int k = 0; k <= 6; k++) {
        due("setting " + k + " after apply of " + text, x.setting(k), want[k]);
      }
      due("positive after apply of " + text, formatted(x, 15, 1), "a1.5");
      due("negative after apply of " + text, formatted(x, -15, 1), "b1.5c");
      due("print after apply of " + text, x.print(), 9);
      due("printed after apply of " + text, outOf(x), "a0.0#;b#c");
    }
  }

  private static void stillNoPattern() {
    sentence("Promise 5: or there is still none");
    for (String text : new String[] {"", "0,", "a", "0;", many('a', 40) + "0", many('a', 120)}) {
      PatternedDecimals x = new PatternedDecimals();
      retype(x, text);
      due("apply of " + text, x.apply() != NONE, true);
      due("setting", x.setting(0), NONE);
      due("format", x.format(1, 0), NONE);
      due("print", x.print(), NONE);
      due("parse", x.parse(), false);
    }
  }

  private static void textAndOutStay() {
    sentence("Promise 5: (TEXT and OUT stay in any case.)");
    for (String text : new String[] {"0", "0.", "0,", "", "7", many('a', 40) + "0"}) {
      PatternedDecimals x = new PatternedDecimals();
      inUse(x);
      retype(x, text);
      x.apply();
      due("length after apply of " + text, x.length(), text.length());
      due("OUT after apply of " + text, outOf(x), "b3.75");
      due("field after apply of " + text, x.field(1, false), 3);
      due("value after apply of " + text, x.value(), -125L);
      due("scale after apply of " + text, x.scale(), 2);
    }
    changesNothing("a refused apply", CallBoundariesTest::inUse, x -> due("apply", x.apply(), 2));
    changesNothing("a refused apply after print", CallBoundariesTest::inUseAndPrinted, PatternedDecimals::apply);
    changesNothing("a second apply", x -> {
      retype(x, "0;a0");
      x.apply();
      x.format(-7, 0);
    }, x -> due("apply", x.apply(), NONE));
  }

  private static void modeOutOfRange() {
    sentence("Promise 6: false, changing nothing, if m is not 0 .. 7");
    due("mode 0", new PatternedDecimals().mode(0), true);
    due("mode 7", new PatternedDecimals().mode(7), true);
    for (int m : new int[] {-1, 8, -8, 16, 256, 65536}) {
      everywhereChangesNothing("mode " + m, x -> due("mode " + m, x.mode(m), false));
    }
    for (int m : FAR) {
      everywhereChangesNothing("mode " + m, x -> due("mode " + m, x.mode(m), false));
    }
    PatternedDecimals x = new PatternedDecimals();
    due("mode 7 before there is a pattern", x.mode(7), true);
    retype(x, "0");
    due("apply", x.apply(), NONE);
    due("mode 7 holds", x.format(1, 1), INEXACT);
  }

  private static void settingWithoutPattern() {
    sentence("Promise 7: NONE if there is no pattern");
    PatternedDecimals x = new PatternedDecimals();
    retype(x, "0");
    for (int k = -1; k <= 7; k++) {
      due("setting " + k, x.setting(k), NONE);
    }
  }

  private static void settingOutOfRange() {
    sentence("Promise 7: NONE if k is not 0 .. 6");
    PatternedDecimals x = with("00,000.00#%;0");
    due("setting -1", x.setting(-1), NONE);
    due("setting 0", x.setting(0), 5);
    due("setting 6", x.setting(6), 1);
    due("setting 7", x.setting(7), NONE);
    for (int k : FAR) {
      due("setting " + k, x.setting(k), NONE);
      everywhereChangesNothing("setting " + k, y -> y.setting(k));
    }
  }

  private static void formatInPlace() {
    sentence("Promise 8: Writes u / 10^s into OUT (in place of what was there); answers its length");
    PatternedDecimals x = with("a0.0b;c0");
    due("first", formatted(x, 12345, 1), "a1234.5b");
    due("shorter", formatted(x, -1, 1), "c0.1");
    due("longer", formatted(x, MOST, 1), "a99999999999999.9b");
    due("print", x.print(), 8);
    due("after print", formatted(x, 0, 0), "a0.0b");
    due("TEXT stays", x.length(), 8);
  }

  private static void formatWithoutPattern() {
    sentence("Promise 8: NONE if there is no pattern");
    changesNothing("format of a new object", CallBoundariesTest::nothing, x -> due("format", x.format(1, 0), NONE));
    changesNothing("format without a pattern", CallBoundariesTest::noPatternButText,
        x -> due("format", x.format(1, 0), NONE));
  }

  private static void bad(long u, int s) {
    changesNothing("format of " + u + ", " + s, CallBoundariesTest::inUse, x -> due("format", x.format(u, s), BAD));
    changesNothing("format of " + u + ", " + s + " after print", CallBoundariesTest::inUseAndPrinted,
        x -> due("format", x.format(u, s), BAD));
  }

  private static void formatOfBadNumber() {
    sentence("Promise 8: BAD if u is not -999999999999999 .. 999999999999999: OUT stays as it was then");
    formats("0", MOST, 0, "999999999999999");
    formats("0", -MOST, 0, "-999999999999999");
    for (long u : new long[] {MOST + 1, MOST + 2, Long.MAX_VALUE, Long.MAX_VALUE / 100 + 1, 1L << 32 << 20}) {
      bad(u, 0);
      bad(u, 9);
      bad(-u, 0);
    }
    bad(Long.MIN_VALUE, 0);
    bad(Long.MIN_VALUE + 1, 9);
  }

  private static void formatOfBadScale() {
    sentence("Promise 8: BAD if s is not 0 .. 9: OUT stays as it was then");
    formats("0.#########", 7, 0, "7");
    formats("0.#########", 7, 9, "0.000000007");
    for (int s : new int[] {-1, 10, -9, 18, 19, 256}) {
      bad(0, s);
      bad(7, s);
    }
    for (int s : FAR) {
      bad(7, s);
    }
  }

  private static void inUseMode7(PatternedDecimals x) {
    inUse(x);
    x.mode(7);
  }

  private static void formatInexact() {
    sentence("Promise 8: INEXACT if the rounding says so: OUT stays as it was then");
    for (long u : new long[] {1, -1, 3751, -3755, MOST}) {
      changesNothing("inexact format of " + u, CallBoundariesTest::inUseMode7,
          x -> due("format", x.format(u, 3), INEXACT));
    }
    changesNothing("inexact format after print", x -> {
      inUseMode7(x);
      x.print();
    }, x -> due("format", x.format(1, 9), INEXACT));
    changesNothing("inexact format with exponent", x -> {
      retype(x, "0.0E0");
      x.apply();
      x.mode(7);
      x.format(-25, 0);
    }, x -> due("format", x.format(999, 0), INEXACT));
  }

  private static void orderOfRefusals() {
    sentence("Promise 8: NONE if there is no pattern; else BAD; else INEXACT");
    PatternedDecimals x = new PatternedDecimals();
    due("mode", x.mode(7), true);
    due("NONE before BAD", x.format(Long.MAX_VALUE, 10), NONE);
    due("NONE before INEXACT", x.format(1, 1), NONE);
    retype(x, "0");
    due("apply", x.apply(), NONE);
    due("BAD of u before INEXACT", x.format(MOST + 2, 1), BAD);
    due("BAD of s before INEXACT", x.format(1, 10), BAD);
    due("INEXACT", x.format(1, 1), INEXACT);
    due("OUT", outOf(x), "");
    due("field", x.field(0, false), NONE);
  }

  private static void printInPlace() {
    sentence("Promise 9: Writes the pattern into OUT (in place of what was there) in its shortest form; answers its length");
    PatternedDecimals x = with("a0");
    due("format", formatted(x, MOST, 0), "a999999999999999");
    due("print", x.print(), 2);
    due("OUT", outOf(x), "a0");
    due("print again", x.print(), 2);
    due("OUT again", outOf(x), "a0");
    prints(many('a', 39) + "0", many('a', 39) + "0");
    prints("'" + many('a', 37) + "'0", many('a', 37) + "0");
    prints("''".repeat(19) + "00", "''".repeat(19) + "00");
    prints("'" + many('#', 37) + "'0", "'" + many('#', 37) + "'0");
  }

  private static void printWithoutPattern() {
    sentence("Promise 9: NONE, changing nothing, if there is no pattern");
    changesNothing("print of a new object", CallBoundariesTest::nothing, x -> due("print", x.print(), NONE));
    changesNothing("print without a pattern", CallBoundariesTest::noPatternButText,
        x -> due("print", x.print(), NONE));
  }

  private static void printWithoutSecondPart() {
    sentence("Promise 9: the first part; then, if there is a second part");
    prints("0", "0");
    prints("a0b", "a0b");
    prints("a0b;c0d", "a0b;c#d");
    prints("0;0", "0;#");
    prints("0;00,000.00##", "0;#");
    prints("0;a0E000b", "0;a#b");
    prints("a0;0", "a0;#");
  }

  private static void printOfTheUsualSecondPart() {
    sentence("Promise 9: unless the elements of its prefix are the letter - and those of the first part's prefix, and the elements of its suffix are those of the first part's suffix");
    prints("0;-0", "0");
    prints("a0b;-a0b", "a0b");
    prints("abc0abc;-abc0abc", "abc0abc");
    prints("a0b;'-a'#.#'b'", "a0b");
    prints("%0%;-%0%", "%0%");
    prints("'%'0;-'%'0", "'%'0");
    prints("-0;--0", "-0");
    prints("'#'0'';'-#'0''", "'#'0''");
  }

  private static void printOfAnotherSecondPart() {
    sentence("Promise 9: the character ; , the prefix of the second part, the character # and its suffix");
    prints("0;+0", "0;+#");
    prints("0;--0", "0;--#");
    prints("0;-0a", "0;-#a");
    prints("0a;-0", "0a;-#");
    prints("a0;-0", "a0;-#");
    prints("a0;-b0", "a0;-b#");
    prints("ab0;-a0", "ab0;-a#");
    prints("a0;-ab0", "a0;-ab#");
    prints("a0;a-0", "a0;a-#");
    prints("0ab;-0ac", "0ab;-#ac");
    prints("0ab;-0bb", "0ab;-#bb");
    prints("%0;-'%'0", "%0;-'%'#");
    prints("'%'0;-%0", "'%'0;-%#");
    prints("0%;-0'%'", "0%;-#'%'");
    prints("0'%';-0%", "0'%';-#%");
    prints("0;';'0'#'", "0;';'#'#'");
  }

  private static void printOfAGroup() {
    sentence("Promise 9: with a group g, so many # that with the least integer digits they are g + 1 (none if these are more), the zeros, and the character , before the last g of all these");
    prints("#,###", "#,###");
    prints("#,##0", "#,##0");
    prints("#,#00", "#,#00");
    prints("#,000", "#,000");
    prints("0,000", "0,000");
    prints("00,000", "00,000");
    prints("#0,000", "0,000");
    prints("###,###", "#,###");
    prints("#,###,000", "#,000");
    prints("#,#", "#,#");
    prints("#,0", "#,0");
    prints("0,0", "0,0");
    prints("0,0,0", "00,0");
    prints("00000000000,0", "00000000000,0");
    prints("#,###########", "#,###########");
    prints("#,00000000000", "#,00000000000");
    prints("0,00000000000", "0,00000000000");
  }

  private static void printWithoutGroup() {
    sentence("Promise 9: without a group the zeros, or one # if there are none");
    prints("#", "#");
    prints("############", "#");
    prints("#0", "0");
    prints("###000", "000");
    prints("000000000000", "000000000000");
    prints("#.0", "#.0");
  }

  private static void printWithoutFraction() {
    sentence("Promise 9: if the most fraction digits are not 0, the character . , the zeros and as many # as are wanted");
    prints("0.", "0");
    prints("#.", "#");
    prints("0.E0", "0E0");
    prints("0.0", "0.0");
    prints("0.#", "0.#");
    prints("0.0#", "0.0#");
    prints("0.000000000", "0.000000000");
    prints("0.#########", "0.#########");
    prints("0.0000#####", "0.0000#####");
  }

  private static void printOfAnExponent() {
    sentence("Promise 9: if setting 4 is not 0, E and the zeros");
    prints("0", "0");
    prints("0E0", "0E0");
    prints("0E00", "0E00");
    prints("0E000", "0E000");
    prints("000000000000.000000000E000", "000000000000.000000000E000");
  }

  private static void printOfQuoteLetters() {
    sentence("Promise 9: a letter ' is two characters '");
    prints("''0", "''0");
    prints("0''", "0''");
    prints("'a'''0", "a''0");
    prints("'''a'0", "''a0");
    prints("'#'''0", "'#'''0");
    prints("'''#'0", "'''#'0");
    prints("''''''0", "''''''0");
    prints("'#''#'0", "'#''#'0");
  }

  private static void printOfQuotedLetters() {
    sentence("Promise 9: a special letter or the letter % stands inside quotes, a PERCENT outside, as %; any other letter as it is");
    for (char c : "#0,.;E%".toCharArray()) {
      prints("'" + c + "'0'" + c + "'", "'" + c + "'0'" + c + "'");
    }
    for (char c = 32; c <= 126; c++) {
      if ("#0,.;E%'".indexOf(c) < 0) {
        prints("'" + c + "'0'" + c + "'", c + "0" + c);
        prints("'#'" + c + "';'0", "'#" + c + ";'0");
      }
    }
    prints("%0", "%0");
    prints("'#'%0", "'#'%0");
    prints("'%'%'%'0", "'%'%'%'0");
    prints("%'#'%0", "%'#'%0");
    prints("'#'a%0", "'#a'%0");
    prints("%a'#'0", "%a'#'0");
  }

  private static void printClosesQuotes() {
    sentence("Promise 9: and closes them at the end of the affix");
    prints("'#'0", "'#'0");
    prints("'#'a0", "'#a'0");
    prints("0'#'", "0'#'");
    prints("0'#'a;'.'a0','a", "0'#a';'.a'#',a'");
    prints("'#'''0''';'", "'#'''0''';'");
  }

  private static void outOutOfRange() {
    sentence("Promise 10: Character k of OUT; NONE if there is none");
    due("out of an empty OUT", new PatternedDecimals().out(0), NONE);
    PatternedDecimals x = with("a0");
    due("out before OUT is written", x.out(0), NONE);
    due("format", x.format(12, 0), 3);
    due("out -1", x.out(-1), NONE);
    due("out 0", x.out(0), (int) 'a');
    due("out 2", x.out(2), (int) '2');
    due("out 3", x.out(3), NONE);
    due("shorter format", x.format(7, 0), 2);
    due("out 2 after it", x.out(2), NONE);
    for (int k : new int[] {119, 120, 121, 65536, 256}) {
      due("out " + k, x.out(k), NONE);
    }
    for (int k : FAR) {
      due("out " + k, x.out(k), NONE);
      everywhereChangesNothing("out " + k, y -> y.out(k));
    }
  }

  private static void fieldOfIntegerDigits() {
    sentence("Promise 11: f = 0 the integer digits with their characters ,");
    fields("0", 7, 0, 0, 1, 1, 1, 1, 1);
    fields("ab#,##0", 1234567, 0, 2, 11, 11, 11, 11, 11);
    fields("a#.0", 5, 1, 1, 1, 2, 3, 3, 3);
    fields("507", 7, 0, 1, 2, 2, 2, 2, 2);
    fields("a0;bcd0", -7, 0, 3, 4, 4, 4, 4, 4);
    fields("0,0", -7, 0, 1, 4, 4, 4, 4, 4);
  }

  private static void fieldWithoutFraction() {
    sentence("Promise 11: f = 1 the fraction digits (without the . ; if there are none, both are the end of field 0)");
    fields("a0.#b", 7, 0, 1, 2, 2, 2, 2, 2);
    fields("a0.0b", 7, 0, 1, 2, 3, 4, 4, 4);
    fields("a0.#########b", 7, 9, 1, 2, 3, 12, 12, 12);
    fields("a0.#E0b", 7, 0, 1, 2, 2, 2, 3, 4);
  }

  private static void fieldWithoutExponent() {
    sentence("Promise 11: f = 2 the exponent digits with their - (without the E; if there is none, both are the end of field 1)");
    fields("a0.0'E0'", 7, 0, 1, 2, 3, 4, 4, 4);
    fields("a0'E0'", 7, 0, 1, 2, 2, 2, 2, 2);
    fields("a0E0b", 7, 0, 1, 2, 2, 2, 3, 4);
    fields("a0E000b", 7, 9, 1, 2, 2, 2, 3, 7);
    fields("a0.0E0b", 7, 1, 1, 2, 3, 4, 5, 7);
  }

  private static void fieldOutOfRange() {
    sentence("Promise 11: NONE if f is not 0 .. 2");
    PatternedDecimals x = with("0.0E0");
    due("format", x.format(7, 0), 5);
    for (boolean end : new boolean[] {false, true}) {
      due("field -1", x.field(-1, end), NONE);
      due("field 0", x.field(0, end), end ? 1 : 0);
      due("field 2", x.field(2, end), end ? 5 : 4);
      due("field 3", x.field(3, end), NONE);
      for (int f : FAR) {
        due("field " + f, x.field(f, end), NONE);
        everywhereChangesNothing("field " + f, y -> y.field(f, end));
      }
    }
  }

  private static void noField(String when, PatternedDecimals x) {
    for (int f = 0; f <= 2; f++) {
      due("begin of field " + f + " " + when, x.field(f, false), NONE);
      due("end of field " + f + " " + when, x.field(f, true), NONE);
    }
  }

  private static void fieldNotOfFormat() {
    sentence("Promise 11: NONE if OUT as it is now was not written by format");
    PatternedDecimals x = new PatternedDecimals();
    noField("of a new object", x);
    x.format(1, 0);
    noField("after a format without a pattern", x);
    retype(x, "0");
    x.apply();
    noField("before the first format", x);
    x.format(1, 10);
    noField("after a bad format", x);
    due("format", x.format(1, 0), 1);
    due("field after format", x.field(0, true), 1);
    x.print();
    noField("after print", x);
    x.mode(7);
    x.format(1, 1);
    noField("after print and an inexact format", x);
    x.copy();
    noField("after print and copy", x);
    due("format again", x.format(12, 0), 2);
    due("field after format again", x.field(0, true), 2);
    x.copy();
    x.wipe();
    x.format(1, 1);
    x.format(1, 10);
    due("field after refused formats", x.field(0, true), 2);
  }

  private static void copy() {
    sentence("Promise 12: TEXT becomes what OUT is");
    PatternedDecimals x = new PatternedDecimals();
    fillText(x);
    x.copy();
    due("length after copy of an empty OUT", x.length(), 0);
    due("apply after it", x.apply(), 0);
    PatternedDecimals y = new PatternedDecimals();
    inUse(y);
    y.copy();
    due("length of the copy", y.length(), 5);
    due("OUT after copy", outOf(y), "b3.75");
    due("field after copy", y.field(0, true), 2);
    due("value after copy", y.value(), -125L);
    due("parse of the copy", y.parse(), true);
    due("value of the copy", y.value(), -375L);
    fillText(y);
    y.copy();
    due("length of the copy in place of a full TEXT", y.length(), 5);
    y.format(7, 0);
    due("TEXT is apart from OUT", y.length(), 5);
    due("TEXT is still the copy", y.parse(), true);
    due("value of the copy", y.value(), -375L);
    changesNothing("a second copy", z -> {
      inUse(z);
      z.copy();
    }, PatternedDecimals::copy);
  }

  private static void copyOfTheLongest() {
    sentence("Promise 12: OUT never has more than 120 characters");
    PatternedDecimals x = with("#,#.000000000%" + many('a', 26));
    String due = "-9" + ",9".repeat(14) + ",0,0.000000000%" + many('a', 26);
    due("the longest", formatted(x, -MOST, 0), due);
    x.copy();
    due("length of its copy", x.length(), due.length());
    due("parse of its copy", x.parse(), true);
    due("value", x.value(), -MOST);
    due("scale", x.scale(), 0);
    for (int k = due.length(); k < 120; k++) {
      due("type behind the copy", x.type('a'), true);
    }
    due("type behind a full TEXT", x.type('a'), false);
  }

  private static void parseWithoutPattern() {
    sentence("Promise 13: false, changing nothing, if there is no pattern");
    changesNothing("parse of a new object", CallBoundariesTest::nothing, x -> due("parse", x.parse(), false));
    changesNothing("parse without a pattern", CallBoundariesTest::noPatternButText,
        x -> due("parse", x.parse(), false));
    changesNothing("parse after a refused apply", x -> {
      retype(x, "-5");
      x.apply();
    }, x -> due("parse", x.parse(), false));
  }

  private static void parseOfAnUnreadText() {
    sentence("Promise 13: false, changing nothing, if TEXT is not read");
    for (String text : new String[] {"", "a", "b", "a.", "7.5", "a7.5 ", "-a7", "a1,000", "b1E5", "a" + many('9', 18)}) {
      changesNothing("parse of " + text, x -> {
        inUse(x);
        retype(x, text);
      }, x -> due("parse of " + text, x.parse(), false));
    }
  }

  private static void nothingRead() {
    sentence("Promises 14 and 15: 0 if there was none");
    PatternedDecimals x = with("0.0");
    due("value", x.value(), 0L);
    due("scale", x.scale(), 0);
    retype(x, "1.2x");
    due("parse", x.parse(), false);
    due("value after a refused parse", x.value(), 0L);
    due("scale after a refused parse", x.scale(), 0);
    retype(x, "-1.00000000000000001");
    due("parse of too great a number", x.parse(), false);
    due("value after it", x.value(), 0L);
    due("scale after it", x.scale(), 0);
  }

  private static void latestRead() {
    sentence("Promises 14 and 15: read by the latest parse that answered true");
    PatternedDecimals x = with("0.0");
    retype(x, "-1.25");
    due("parse", x.parse(), true);
    retype(x, "77.x");
    due("refused parse", x.parse(), false);
    due("value", x.value(), -125L);
    due("scale", x.scale(), 2);
    retype(x, "99999999999999999");
    due("later parse", x.parse(), true);
    due("later value", x.value(), 99999999999999999L);
    due("later scale", x.scale(), 0);
    retype(x, "99999999999999999.9");
    due("parse of too great a number", x.parse(), false);
    due("value stays", x.value(), 99999999999999999L);
    due("scale stays", x.scale(), 0);
    retype(x, "0.00");
    due("parse of 0", x.parse(), true);
    due("value of 0", x.value(), 0L);
    due("scale of 0", x.scale(), 0);
    retype(x, "100");
    due("parse of 100", x.parse(), true);
    retype(x, "a0");
    due("apply", x.apply(), NONE);
    x.print();
    due("value with another pattern", x.value(), 1L);
    due("scale with another pattern", x.scale(), -2);
  }
}
