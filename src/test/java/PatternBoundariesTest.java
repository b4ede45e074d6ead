/** The boundary cases of 'Terms' up to the settings: one method for each sentence that names one. */
public final class PatternBoundariesTest extends Checks {
  private static final String SPECIAL = "#0,.;E";

  public static void main(String[] args) {
    onePartOrTwo();
    affixOfNoElements();
    twoQuotesOutside();
    percentOutside();
    specialOutside();
    otherLetterOutside();
    twoQuotesInside();
    anyLetterInside();
    quotesAreClosed();
    quotesInOrder();
    hashesThenZeros();
    integerAtLeastOne();
    integerAtMostTwelve();
    commaBetweenTwo();
    oneCommaAtOnce();
    fractionOfNone();
    fractionAtMostNine();
    fractionZerosThenHashes();
    exponentOneToThree();
    exponentWithoutHashOrComma();
    faultIsTheLeastPlace();
    faultLooksAtLongPatterns();
    faultIsTheLength();
    settingsOfTheFirstPart();
    leastInteger();
    fractionSettingsWithoutPoint();
    groupFromTheLastComma();
    groupWithoutComma();
    exponentSettingWithoutE();
    factorIsOne();
    secondPartSetting();
    finish();
  }

  private static void onePartOrTwo() {
    sentence("A PATTERN is a PART, or two parts with the character ; between them");
    isPattern("0", "0;0", "a#b;c#d");
    fault("", 0);
    fault(";", 0);
    fault(";0", 0);
    fault("0;", 2);
    fault("0;;0", 2);
    fault("0;0;", 3);
    fault("0;0;0", 3);
    fault("a0b;c0d;", 7);
  }

  private static void affixOfNoElements() {
    sentence("An affix is a row of ELEMENTS, perhaps of none");
    formats("0", 5, 0, "5");
    formats("0;0", -5, 0, "5");
    formats("a0;0", -5, 0, "5");
    formats("0a;0", -5, 0, "5");
    formats("0;a0", 5, 0, "5");
    reads("a0;0", "5", -5, 0);
  }

  private static void twoQuotesOutside() {
    sentence("Outside quotes: two characters ' at once are the element '");
    formats("''0", 5, 0, "'5");
    formats("0''", 5, 0, "5'");
    formats("''''0''''''", 5, 0, "''5'''");
    formats("0;''0''", -5, 0, "'5'");
    fault("''", 2);
    fault("'',", 2);
  }

  private static void percentOutside() {
    sentence("% is the element PERCENT");
    formats("%0", 5, 0, "%500");
    formats("0%", 5, 0, "500%");
    formats("%%0%", 5, 0, "%%500%");
    formats("'a'%0", 5, 0, "a%500");
  }

  private static void specialOutside() {
    sentence("a special character can't stand there");
    for (char c : ",.;E".toCharArray()) {
      fault("" + c, 0);
      fault("a" + c + "0", 1);
      fault("'a'" + c + "0", 3);
      fault("''" + c + "0", 2);
      fault("0;" + c + "0", 2);
      fault("0;a" + c + "0", 3);
    }
    for (char c : "#0,.E".toCharArray()) {
      fault("0a" + c, 2);
      fault("0'a'" + c, 4);
      fault("0''" + c, 3);
      fault("0%" + c, 2);
    }
    for (char c : SPECIAL.toCharArray()) {
      fault("0;0a" + c, 4);
      fault("0;0''" + c, 5);
    }
  }

  private static void otherLetterOutside() {
    sentence("any other character is that letter");
    for (char c = 32; c <= 126; c++) {
      if (SPECIAL.indexOf(c) < 0 && c != '%' && c != '\'') {
        formats(c + "0" + c, 5, 0, c + "5" + c);
        formats("0;" + c + "0" + c, -5, 0, c + "5" + c);
        setting(c + "0" + c, 5, 1);
      }
    }
  }

  private static void twoQuotesInside() {
    sentence("Inside quotes: two characters ' at once are the letter '");
    formats("'a'''0", 5, 0, "a'5");
    formats("'a''b'0", 5, 0, "a'b5");
    formats("'a'''''0", 5, 0, "a''5");
    formats("0'#''0'", 5, 0, "5#'0");
    fault("'a''0", 5);
  }

  private static void anyLetterInside() {
    sentence("any other character is that letter, also a special one or %");
    for (char c = 32; c <= 126; c++) {
      if (c != '\'') {
        formats("'" + c + "'0'" + c + "'", 5, 0, c + "5" + c);
        formats("0;'" + c + "'0'" + c + "'", -5, 0, c + "5" + c);
      }
    }
    setting("'%'0'%'", 5, 1);
    setting("'a%b'0", 5, 1);
    setting("'%'%0", 5, 100);
  }

  private static void quotesAreClosed() {
    sentence("All quotes that are opened are closed, before the number or the end of the affix");
    fault("'0", 2);
    fault("'", 1);
    fault("a'b0", 4);
    fault("'a'b'0", 6);
    fault("0'", 2);
    fault("0'a", 3);
    fault("0'a;0", 5);
    fault("0'a'b'", 6);
    fault("0;'0", 4);
    fault("0;0'", 4);
    fault("0;0'a", 5);
    isPattern("'a'0", "0'a'", "0'a';0", "0;'a'0", "0;0'a'");
  }

  private static void quotesInOrder() {
    sentence("Characters ' are taken in order, two at once where the next one is ' as well");
    formats("'''a'0", 5, 0, "'a5");
    formats("''a''0", 5, 0, "'a'5");
    formats("''''0", 5, 0, "''5");
    formats("'''''#'0", 5, 0, "''#5");
    fault("'''", 3);
    fault("'''0", 4);
    fault("0'''", 4);
    fault("0'''''", 6);
    fault("''#''#", 5);
  }

  private static void hashesThenZeros() {
    sentence("A number is a row of # and then of 0");
    isPattern("#", "0", "#0", "##00", "###########0", "#00000000000");
    fault("0#", 1);
    fault("#0#", 2);
    fault("00#0", 2);
    fault("0,#", 2);
    fault("#,0,#", 4);
    fault("0;0#", 3);
  }

  private static void integerAtLeastOne() {
    sentence("at least one character");
    isPattern("#", "0");
    fault(".", 0);
    fault(".0", 0);
    fault("E0", 0);
    fault("a", 1);
    fault("a.0", 1);
    fault("0;.0", 2);
    fault("0;a", 3);
  }

  private static void integerAtMostTwelve() {
    sentence("and at most 12");
    isPattern(many('#', 12), many('0', 12), "######000000", many('0', 12) + ".0", many('0', 12) + "E0",
        "#" + ",#".repeat(11), "0;" + many('#', 12));
    settings(many('0', 12), 12, 0, 0, 0, 0, 1, 0);
    fault(many('#', 13), 12);
    fault(many('0', 13), 12);
    fault("######0000000", 12);
    fault("#" + ",#".repeat(12), 23);
    fault("0;" + many('#', 13), 14);
    fault("abc" + many('0', 13), 15);
    fault(many('0', 120), 12);
  }

  private static void commaBetweenTwo() {
    sentence("between any two of these (not before the first, not after the last one) there may be one character ,");
    isPattern("#,#", "#,0", "0,0", "#,#,0,0", "0,00000000000", "00000000000,0");
    fault(",0", 0);
    fault("a,0", 1);
    fault("0,", 2);
    fault("0,.0", 2);
    fault("0,a", 2);
    fault("0,;0", 2);
    fault("0,E0", 2);
    fault("0,'a'", 2);
    fault("0,%", 2);
    fault(many('0', 12) + ",", 12);
    fault(many('0', 12) + ",0", 12);
    fault("0.0,0", 3);
    fault("0.,0", 2);
    fault("0;,0", 2);
    fault("0;0,", 4);
  }

  private static void oneCommaAtOnce() {
    sentence("there may be ONE character ,");
    fault("0,,0", 2);
    fault("#,,", 2);
    fault("0,0,,0", 4);
  }

  private static void fractionOfNone() {
    sentence("the character . and behind it a row of 0 and then of #, perhaps of none");
    isPattern("0.", "#.", "0.a", "0.;0", "0.E0", "0.%", "0;0.");
    formats("0.", 15, 1, "2");
    formats("#.", 0, 0, "0");
    fault("0..", 2);
  }

  private static void fractionAtMostNine() {
    sentence("at most 9 characters");
    isPattern("0." + many('0', 9), "0." + many('#', 9), "0.0000#####", "0." + many('0', 9) + "E0", "0;0." + many('#', 9));
    fault("0." + many('0', 10), 11);
    fault("0." + many('#', 10), 11);
    fault("0.00000#####", 11);
    fault("0;0." + many('#', 10), 13);
    fault(many('0', 12) + "." + many('0', 10), 22);
  }

  private static void fractionZerosThenHashes() {
    sentence("behind it a row of 0 and then of #");
    isPattern("0.0#", "0.00##");
    fault("0.#0", 3);
    fault("0.0#0", 4);
    fault("0.########0", 10);
  }

  private static void exponentOneToThree() {
    sentence("the character E and behind it a row of one to three 0");
    isPattern("0E0", "0E00", "0E000", "0E0a", "0E000a", "0E0;0E0");
    fault("0E", 2);
    fault("0Ea", 2);
    fault("0E'", 2);
    fault("0E#", 2);
    fault("0E;0", 2);
    fault("0E0000", 5);
    fault("0E000#", 5);
    fault("0E0#", 3);
    fault("0E0.", 3);
    fault("0E0,", 3);
    fault("0E0E0", 3);
    fault("0;0E", 4);
    fault("0;0E0000", 7);
  }

  private static void exponentWithoutHashOrComma() {
    sentence("With E there is no # and no , before the E but # behind the . may be");
    isPattern("0.#E0", "0.0#E0", "0." + many('#', 9) + "E0", many('0', 12) + "E000", "#,0;0E0", "0E0;#,0");
    fault("#E0", 1);
    fault("#0E0", 2);
    fault("0,0E0", 3);
    fault("#.0E0", 3);
    fault("#0.E0", 3);
    fault("0,0.#E0", 5);
    fault("0;#0E0", 4);
    fault("0E0;0,0E0", 7);
  }

  private static void faultIsTheLeastPlace() {
    sentence("The FAULT is the least place p (from 0) such that no pattern begins with its characters 0 .. p");
    fault(",,,", 0);
    fault("0#,,", 1);
    fault("0,,#", 2);
    fault("a0b0c0", 3);
    fault("'a'.0#0", 3);
    fault("0;a.;", 3);
    fault("0'';''.", 6);
  }

  private static void faultLooksAtLongPatterns() {
    sentence("no pattern (however long) begins with");
    fault(many('a', 41), 41);
    fault(many('a', 120), 120);
    fault(many('a', 40) + ".", 40);
    fault(many('a', 41) + ".", 41);
    fault(many('a', 119) + ",", 119);
    fault("'" + many('#', 119), 120);
    fault("0;" + many('a', 118), 120);
  }

  private static void faultIsTheLength() {
    sentence("if there is no such place, its length");
    fault("", 0);
    fault(" ", 1);
    fault("abc", 3);
    fault("%", 1);
    fault("'0'", 3);
    fault("0,", 2);
    fault("0E", 2);
    fault("0;", 2);
    fault("0;a", 3);
  }

  private static void settingsOfTheFirstPart() {
    sentence("SETTINGS, all taken from its first part");
    settings("#;00,000.00#%", 0, 0, 0, 0, 0, 1, 1);
    settings("00,000.00#%;#", 5, 2, 3, 3, 0, 100, 1);
    settings("00.0#E00;#", 2, 1, 2, 0, 2, 1, 1);
    settings("#;00.0#E00", 0, 0, 0, 0, 0, 1, 1);
  }

  private static void leastInteger() {
    sentence("0 the LEAST INTEGER digits: the number of 0 before the . (or E, or the end of the number)");
    setting("#", 0, 0);
    setting("#.000", 0, 0);
    setting("0.000", 0, 1);
    setting("00E000", 0, 2);
    setting("000'000'", 0, 3);
    setting(many('0', 12) + ".000", 0, 12);
  }

  private static void fractionSettingsWithoutPoint() {
    sentence("1 the LEAST and 2 the MOST FRACTION digits: 0 without it");
    settings("000", 3, 0, 0, 0, 0, 1, 0);
    settings("000.", 3, 0, 0, 0, 0, 1, 0);
    settings("000E00", 3, 0, 0, 0, 2, 1, 0);
    settings("#.#", 0, 0, 1, 0, 0, 1, 0);
    settings("#.0", 0, 1, 1, 0, 0, 1, 0);
    settings("#.00#######", 0, 2, 9, 0, 0, 1, 0);
    settings("#." + many('0', 9), 0, 9, 9, 0, 0, 1, 0);
  }

  private static void groupFromTheLastComma() {
    sentence("3 the GROUP: the number of # and 0 from the last , to the . or end of the number");
    setting("#,#", 3, 1);
    setting("#,####,00", 3, 2);
    setting("#,##0.000", 3, 3);
    setting("#,##0'000'", 3, 3);
    setting("0,00000000000", 3, 11);
    setting("#,###########", 3, 11);
    setting("#,#;#,000", 3, 1);
  }

  private static void groupWithoutComma() {
    sentence("3 the GROUP: 0 without ,");
    setting("0000", 3, 0);
    setting("####", 3, 0);
    setting("','0','", 3, 0);
    setting("0;0,0", 3, 0);
  }

  private static void exponentSettingWithoutE() {
    sentence("4 the number of 0 behind the E; 0 without it");
    setting("0", 4, 0);
    setting("0.000", 4, 0);
    setting("0'E'", 4, 0);
    setting("0;0E0", 4, 0);
    setting("0E0", 4, 1);
    setting("0E00", 4, 2);
    setting("0E000", 4, 3);
    setting("0.0E000'0'", 4, 3);
  }

  private static void factorIsOne() {
    sentence("5 the FACTOR: 100 if one of its affixes has a PERCENT, otherwise 1");
    setting("0", 5, 1);
    setting("'%'0", 5, 1);
    setting("0'%'", 5, 1);
    setting("0;%0", 5, 1);
    setting("0;0%", 5, 1);
    setting("%0", 5, 100);
    setting("0%", 5, 100);
    setting("%0%", 5, 100);
    setting("abc%0", 5, 100);
    setting("0abc%", 5, 100);
    setting("0%abc", 5, 100);
    setting("0%;0", 5, 100);
  }

  private static void secondPartSetting() {
    sentence("And 6: 1 if it has a second part, otherwise 0");
    setting("0", 6, 0);
    setting("0';'", 6, 0);
    setting("0;0", 6, 1);
    setting("0;-0", 6, 1);
  }
}
