/** The boundary cases of 'Terms' about reading: one method for each sentence that names one. */
public final class ReadingBoundariesTest extends Checks {
  private static final long MOST = 99999999999999999L;

  public static void main(String[] args) {
    wholeOfText();
    prefixBodySuffix();
    affixesDontShareCharacters();
    positiveFirst();
    elseNegative();
    elseNot();
    digitsPerhapsNone();
    commaOnlyWithGroup();
    commaBetweenTwoDigits();
    pointOrNot();
    fractionPerhapsNone();
    atLeastOneDigit();
    exponentFollows();
    noExponentWithoutSetting();
    exponentWithoutComma();
    exponentPerhapsNegative();
    exponentOneToThreeDigits();
    exponentIsAFactor();
    dividedByTheFactor();
    notAMultipleOfTen();
    zero();
    scaleBelowZero();
    tooGreat();
    zerosDontMakeItTooGreat();
    tooGreatIsNotReadAsNegative();
    longestTexts();
    readAfterAnother();
    finish();
  }

  private static void wholeOfText() {
    sentence("READING the whole of TEXT");
    reads("0", "7", 7, 0);
    refuses("0", "7 ");
    refuses("0", " 7");
    refuses("0", "7a");
    refuses("0", "7-");
    refuses("a0b", "a7bb");
    refuses("a0b", "aa7b");
    refuses("0E0", "7E0 ");
  }

  private static void prefixBodySuffix() {
    sentence("a text is of a sign if it is the shown prefix of this sign, a BODY and the shown suffix of this sign");
    reads("a0b", "a7b", 7, 0);
    reads("ab0cd", "ab7cd", 7, 0);
    refuses("ab0cd", "ab7c");
    refuses("ab0cd", "a7cd");
    refuses("ab0cd", "ac7cd");
    refuses("ab0cd", "bb7cd");
    refuses("ab0cd", "ab7ce");
    refuses("ab0cd", "ab7dd");
    refuses("a0b", "a7");
    refuses("a0b", "7b");
    refuses("a0b", "A7B");
    refuses("a0b;c0d", "a7d");
    refuses("a0b;c0d", "c7b");
    reads("'#'0'%'", "#7%", 7, 0);
    refuses("'#'0'%'", "'#'7%");
    reads("''0", "'7", 7, 0);
    refuses("''0", "''7");
  }

  private static void affixesDontShareCharacters() {
    sentence("the shown prefix, a BODY and the shown suffix: no character is of two of them");
    refuses("aa0aa", "aaa");
    refuses("aa0aa", "aaaa");
    refuses("a0a", "a");
    refuses("70", "7");
    refuses("07", "7");
    refuses("707", "77");
    refuses("707", "7");
    reads("707", "757", 5, 0);
    refuses("5#,##0", "5,1");
    refuses("#,##05", "1,5");
    reads("5#,##05", "51,25", 12, 0);
  }

  private static void positiveFirst() {
    sentence("It is read as positive if it is of the positive sign");
    reads("0", "7", 7, 0);
    reads("0;0", "7", 7, 0);
    reads("-0;0", "-7", 7, 0);
    reads("0;10", "17", 17, 0);
    reads("0;01", "71", 71, 0);
    reads("a0;'a1'0", "a17", 17, 0);
  }

  private static void elseNegative() {
    sentence("else as negative if it is of the negative sign");
    reads("0", "-7", -7, 0);
    reads("a0b", "-a7b", -7, 0);
    reads("a0b;0", "7", -7, 0);
    reads("0;0b", "7b", -7, 0);
    reads("10;0", "7", -7, 0);
    reads("10;0", "17", 7, 0);
    reads("10;0", "1", -1, 0);
    reads("a0b;c0d", "c7d", -7, 0);
    reads("0%;0", "7", -7, 2);
  }

  private static void elseNot() {
    sentence("else not");
    refuses("0", "--7");
    refuses("0;a0", "-7");
    refuses("a0b", "a-7b");
    refuses("a0b", "b7a");
    refuses("0", "+7");
    refuses("0", "");
    refuses("a0", "");
    refuses("0;0", "-7");
  }

  private static void digitsPerhapsNone() {
    sentence("digits 0 .. 9, perhaps none");
    reads("0", ".5", 5, 1);
    reads("000", ".5", 5, 1);
    reads("0", "-.5", -5, 1);
    for (char c = '0'; c <= '9'; c++) {
      reads("0", "1" + c + "1", 101 + 10 * (c - '0'), 0);
      reads("0", "0." + c + "1", 1 + 10 * (c - '0'), 2);
    }
    refuses("0", "1/1");
    refuses("0", "1:1");
    refuses("0", "1.1/");
    refuses("0", "1.1:");
    refuses("0", "/");
    refuses("0", ":");
  }

  private static void commaOnlyWithGroup() {
    sentence("if the group is not 0, there may be characters ,");
    reads("#,##0", "1,234", 1234, 0);
    reads("#,##0", "1234", 1234, 0);
    reads("#,##0", "1,2,3,4", 1234, 0);
    reads("#,#", "12,34", 1234, 0);
    reads("#,##0", "-1,234.5", -12345, 1);
    refuses("0", "1,234");
    refuses("0;#,##0", "1,234");
    refuses("0;a#,##0", "a1,234");
    reads("#,##0;a0", "a1,234", -1234, 0);
  }

  private static void commaBetweenTwoDigits() {
    sentence("each directly between two digits");
    refuses("#,##0", ",1");
    refuses("#,##0", "1,");
    refuses("#,##0", "1,,2");
    refuses("#,##0", "1,.5");
    refuses("#,##0", ",.5");
    refuses("#,##0", ",");
    refuses("#,##0", "-,1");
    refuses("#,##0", "1,-1");
    refuses("#,##0", "1.2,3");
    refuses("#,##0", "1.,2");
    refuses("#,##0", "1.2,");
    refuses("#,##0", "1,a2");
    refuses("#,##0a", "1,a");
  }

  private static void pointOrNot() {
    sentence("then, or not, .");
    reads("0.0", "7", 7, 0);
    reads("0", "7.5", 75, 1);
    reads("#", "7.5", 75, 1);
    refuses("0.0", "7..5");
    refuses("0.0", "7.5.5");
    refuses("0.0", "7.5.");
  }

  private static void fractionPerhapsNone() {
    sentence("and digits, perhaps none");
    reads("0.0", "7.", 7, 0);
    reads("0.0a", "7.a", 7, 0);
    reads("#,#", "1,7.", 17, 0);
    reads("0", "7.1234567890", 7123456789L, 9);
  }

  private static void atLeastOneDigit() {
    sentence("at least one digit in all");
    refuses("0.0", "");
    refuses("0.0", ".");
    refuses("0.0", "-");
    refuses("0.0", "-.");
    refuses("a0b", "ab");
    refuses("a0b", "a.b");
    refuses("0E0", "E0");
    refuses("0E0", ".E0");
    refuses("0E0", "-E0");
    reads("0.0", "0.", 0, 0);
    reads("0.0", ".0", 0, 0);
  }

  private static void exponentFollows() {
    sentence("With exponent then follow E, and digits");
    reads("0E0", "7E1", 7, -1);
    reads("0E0", "7.E1", 7, -1);
    reads("0E0", ".7E1", 7, 0);
    refuses("0E0", "7");
    refuses("0E0", "7.5");
    refuses("0E0", "7e1");
    refuses("0E0", "71");
    refuses("0E0", "7EE1");
    refuses("0E0", "7E1E1");
    refuses("0E0", "7E1.5");
    refuses("0E0", "7E1.");
    reads("0E0'E1'", "7E2E1", 7, -2);
    refuses("0E0'E1'", "7E1");
  }

  private static void noExponentWithoutSetting() {
    sentence("A body without exponent (setting 4)");
    refuses("0", "7E1");
    refuses("0", "7E");
    refuses("0;0E0", "7E1");
    refuses("0;a0E0", "a7E1");
    reads("0E0;a0", "a7E1", -7, -1);
  }

  private static void exponentWithoutComma() {
    sentence("With exponent there is no ,");
    refuses("0000E0", "1,234E1");
    refuses("0E0", "1E1,0");
    refuses("0E0;#,##0", "1,234E1");
  }

  private static void exponentPerhapsNegative() {
    sentence("perhaps -");
    reads("0E0", "7E-1", 7, 1);
    reads("0E0", "7E-0", 7, 0);
    reads("0E0", "-7E-1", -7, 1);
    refuses("0E0", "7E--1");
    refuses("0E0", "7E+1");
    refuses("0E0", "7E1-");
    refuses("0E0", "7-E1");
  }

  private static void exponentOneToThreeDigits() {
    sentence("and one to three digits");
    refuses("0E0", "7E");
    refuses("0E0", "7E-");
    reads("0E0", "7E1", 7, -1);
    reads("0E0", "7E10", 7, -10);
    reads("0E0", "7E100", 7, -100);
    reads("0E0", "7E001", 7, -1);
    reads("0E000", "7E1", 7, -1);
    reads("0E0", "7E999", 7, -999);
    reads("0E0", "7E-999", 7, 999);
    refuses("0E0", "7E1000");
    refuses("0E0", "7E0001");
    refuses("0E000", "7E-0001");
    refuses("0E01", "7E1");
    reads("0E01", "7E11", 7, -1);
    reads("0E01", "7E1231", 7, -123);
    refuses("0E01", "7E12341");
    refuses("0E0", "7Ea");
    refuses("0E0", "7E1/");
    refuses("0E0", "7E1:");
  }

  private static void exponentIsAFactor() {
    sentence("10 to the power of the exponent being a factor");
    reads("0E0", "12.5E3", 125, -2);
    reads("0E0", "12.5E1", 125, 0);
    reads("0E0", "12.5E0", 125, 1);
    reads("0E0", "12.5E-3", 125, 4);
    reads("0E0", "1200E2", 12, -4);
    reads("0E0", "1200E-2", 12, 0);
  }

  private static void dividedByTheFactor() {
    sentence("divided by the factor of the pattern");
    reads("0%", "7%", 7, 2);
    reads("0%", "100%", 1, 0);
    reads("0%", "1000%", 1, -1);
    reads("0%", "-7.5%", -75, 3);
    reads("%0E0", "%7E2", 7, 0);
    reads("0'%'", "7%", 7, 0);
    reads("0;%0", "%7", -7, 0);
  }

  private static void notAMultipleOfTen() {
    sentence("w / 10^q with w not a multiple of 10");
    reads("0", "70", 7, -1);
    reads("0", "7.0", 7, 0);
    reads("0", "7.50", 75, 1);
    reads("0", "70.0", 7, -1);
    reads("0", "0.70", 7, 1);
    reads("0", "707", 707, 0);
    reads("0", "7.07", 707, 2);
    reads("0", "0070.0700", 7007, 2);
    reads("0", "-700", -7, -2);
  }

  private static void zero() {
    sentence("or w = q = 0");
    reads("0", "0", 0, 0);
    reads("0", "-0", 0, 0);
    reads("0", "0.000", 0, 0);
    reads("0", "000", 0, 0);
    reads("0%", "0%", 0, 0);
    reads("0%", "-0.00%", 0, 0);
    reads("0E0", "0E999", 0, 0);
    reads("0E0", "0.0E-999", 0, 0);
    reads("0", many('0', 120), 0, 0);
    reads("0;a0", "a0", 0, 0);
  }

  private static void scaleBelowZero() {
    sentence("q may be less than 0");
    reads("0", "10", 1, -1);
    reads("0", "1" + many('0', 119), 1, -119);
    reads("0E0", "1E1", 1, -1);
    reads("0%", "1000%", 1, -1);
  }

  private static void tooGreat() {
    sentence("If |w| is 10^17 or more, the text is not read");
    reads("0", "" + MOST, MOST, 0);
    reads("0", "-" + MOST, -MOST, 0);
    reads("0", "." + MOST, MOST, 17);
    reads("0", "9." + many('9', 16), MOST, 16);
    reads("0%", MOST + "%", MOST, 2);
    reads("0E0", MOST + "E999", MOST, -999);
    refuses("0", "100000000000000001");
    refuses("0", "-100000000000000001");
    refuses("0", "1.00000000000000001");
    refuses("0", many('9', 18));
    refuses("0", "-" + many('9', 18));
    refuses("0", many('9', 120));
    refuses("0%", "1" + many('0', 17) + "1%");
    refuses("0E0", many('9', 18) + "E0");
    refuses("0E0", "1.00000000000000001E-999");
    refuses("0", "9223372036854775807");
    refuses("0", "9223372036854775809");
    refuses("0", "18446744073709551617");
    refuses("#,##0", "100,000,000,000,000,001");
    refuses("0", "1" + many('0', 118) + "1");
  }

  private static void zerosDontMakeItTooGreat() {
    sentence("w not a multiple of 10: 10^17 itself is 1 / 10^-17");
    reads("0", "100000000000000000", 1, -17);
    reads("0", "-100000000000000000", -1, -17);
    reads("0", MOST + many('0', 50), MOST, -50);
    reads("0", MOST + "." + many('0', 50), MOST, 0);
    reads("0", many('0', 50) + MOST, MOST, 0);
    reads("0", "." + many('0', 50) + MOST, MOST, 67);
    reads("0", "10000000000000001", 10000000000000001L, 0);
  }

  private static void tooGreatIsNotReadAsNegative() {
    sentence("also not as negative then, if it was of the positive sign");
    refuses("0;10", "1" + many('0', 17) + "2");
    reads("0;10", "1" + many('0', 17), 1, -17);
    refuses("0;02", "5" + many('0', 17) + "2");
    refuses("0;0", many('9', 18));
    reads("0;10", "1" + many('0', 15) + "2", 10000000000000002L, 0);
    reads("a0;'a1'0", "a" + MOST, MOST, 0);
    refuses("a0;'a1'0", "a1" + many('0', 20) + "7");
    reads("0;0b", MOST + "b", -MOST, 0);
    reads("0;0b", MOST + "00b", -MOST, -2);
    reads("0;10b", "100" + MOST + "b", -MOST, 0);
  }

  private static void longestTexts() {
    sentence("READING the whole of TEXT: all its 120 characters");
    reads("0", many('0', 119) + "7", 7, 0);
    reads("0", "." + many('0', 118) + "7", 7, 119);
    reads("0", "7" + many('0', 119), 7, -119);
    reads("0E0%", "." + many('0', 112) + "7E-999%", 7, 1114);
    reads("0E0", "7" + many('0', 115) + "E999", 7, -1114);
    reads("#,#", "7" + ",0".repeat(59) + ".", 7, -59);
    refuses("0", many('0', 119) + "a");
    refuses("0a", many('0', 120));
    reads("0a", many('0', 118) + "7a", 7, 0);
  }

  private static void readAfterAnother() {
    sentence("Its number: of this text, whatever was read or refused before");
    PatternedDecimals x = with("0E0%");
    retype(x, "-1200.500E-99%");
    due("parse", x.parse(), true);
    due("value", x.value(), -12005L);
    due("scale", x.scale(), 102);
    retype(x, "0;a0");
    due("apply", x.apply(), NONE);
    String[] texts = {"100", "5", "a700", "" + MOST, "0", "3.50", "a0.020", "9"};
    long[] values = {1, 5, -7, MOST, 0, 35, -2, 9};
    int[] scales = {-2, 0, -2, 0, 0, 1, 2, 0};
    for (int k = 0; k < texts.length; k++) {
      retype(x, "-1.500E7");
      due("refused parse before " + texts[k], x.parse(), false);
      retype(x, texts[k]);
      due("parse of " + texts[k], x.parse(), true);
      due("value of " + texts[k], x.value(), values[k]);
      due("scale of " + texts[k], x.scale(), scales[k]);
    }
  }
}
