/** The boundary cases of 'Terms' from the shown form to rounding: one method for each sentence. */
public final class WritingBoundariesTest extends Checks {
  private static final long MOST = 999999999999999L;

  public static void main(String[] args) {
    percentIsShown();
    negativeAffixesOfTheSecondPart();
    negativeAffixesWithoutSecondPart();
    numberOfTheSecondPart();
    timesTheFactor();
    absoluteValue();
    integerDigitsPerhapsNone();
    leastIntegerDigits();
    fractionWithoutZerosAtTheEnd();
    leastFractionDigits();
    noDigitAtAll();
    groups();
    groupNotBeforeTheFirst();
    noPointWithoutFraction();
    exponentOfZero();
    exponentAtPowersOfTen();
    exponentBelowPowersOfTen();
    exponentCarries();
    exponentWithoutGroup();
    exponentSign();
    exponentZerosInFront();
    negativeAfterRounding();
    roundingOfAMultiple();
    up();
    down();
    ceiling();
    floor();
    halfUp();
    halfDown();
    halfEven();
    unnecessary();
    roundingCarries();
    roundingOfTheGreatest();
    finish();
  }

  private static void percentIsShown() {
    sentence("PERCENT being shown as %");
    formats("%0%", 0, 0, "%0%");
    formats("%'%'0", 1, 0, "%%100");
    formats("0;%0%", -1, 0, "%1%");
  }

  private static void negativeAffixesOfTheSecondPart() {
    sentence("POSITIVE numbers have the shown affixes of the first part, NEGATIVE ones those of the second part");
    formats("a0b;c0d", 1, 0, "a1b");
    formats("a0b;c0d", 0, 0, "a0b");
    formats("a0b;c0d", -1, 0, "c1d");
    formats("a0b;0", -1, 0, "1");
    formats("0;a0b", -1, 0, "a1b");
    formats("a0b;a0b", -1, 0, "a1b");
  }

  private static void negativeAffixesWithoutSecondPart() {
    sentence("without a second part the negative prefix is - and then the positive prefix, the negative suffix the positive one");
    formats("0", -1, 0, "-1");
    formats("a0b", -1, 0, "-a1b");
    formats("-0-", -1, 0, "--1-");
    formats("0%", -1, 0, "-100%");
    formats(many('a', 39) + "0", -1, 0, "-" + many('a', 39) + "1");
  }

  private static void numberOfTheSecondPart() {
    sentence("The number of the second part does not matter");
    formats("0;a0000.000", -1, 0, "a1");
    formats("0;a0E000", -1, 0, "a1");
    formats("0;a#,#", -1234, 0, "a1234");
    formats("0.0E0;a#", -1, 0, "a1.0E0");
    formats("#,#;a0", -12, 0, "a1,2");
  }

  private static void timesTheFactor() {
    sentence("V is that number times the factor");
    formats("0%", 1, 0, "100%");
    formats("0.#########%", 1, 9, "0.0000001%");
    formats("0%", MOST, 0, "99999999999999900%");
    formats("0%", -MOST, 0, "-99999999999999900%");
    formats("0.#%", 5, 3, "0.5%");
    formats("0%", 4, 5, "0%");
  }

  private static void absoluteValue() {
    sentence("what is written are the digits of its absolute value");
    formats("0;a0", -12, 1, "a1");
    formats("0.#;a0", -12, 1, "a1.2");
    formats("0;a0", -MOST, 0, "a" + MOST);
  }

  private static void integerDigitsPerhapsNone() {
    sentence("The INTEGER digits are those before the point, without zeros in front (perhaps none)");
    formats("#.#", 5, 1, ".5");
    formats("#.0", 0, 0, ".0");
    formats("#.000", 999, 3, ".999");
    formats("#.#", 10, 1, "1");
    formats("#.#", -5, 1, "-.5");
    formats("####.#", 11, 1, "1.1");
    formats("#." + many('#', 9), 1, 9, ".000000001");
  }

  private static void leastIntegerDigits() {
    sentence("with as many zeros in front as are needed to make them the least integer digits");
    formats("000", 0, 0, "000");
    formats("000", 9, 0, "009");
    formats("000", 99, 0, "099");
    formats("000", 100, 0, "100");
    formats("000", 999, 0, "999");
    formats("000", 1000, 0, "1000");
    formats(many('0', 12), 0, 0, many('0', 12));
    formats(many('0', 12), MOST, 0, "" + MOST);
    formats("0.#", 5, 1, "0.5");
  }

  private static void fractionWithoutZerosAtTheEnd() {
    sentence("the FRACTION digits are those behind the point without zeros at the end");
    formats("0.##", 120, 2, "1.2");
    formats("0.##", 100, 2, "1");
    formats("0.##", 102, 2, "1.02");
    formats("0.###", 1000001, 6, "1");
    formats("0." + many('#', 9), 1000000001, 9, "1.000000001");
    formats("0." + many('#', 9), 1000000010, 9, "1.00000001");
  }

  private static void leastFractionDigits() {
    sentence("with as many zeros at the end as are needed to make them the least fraction digits");
    formats("0.00##", 1, 0, "1.00");
    formats("0.00##", 11, 1, "1.10");
    formats("0.00##", 111, 2, "1.11");
    formats("0.00##", 1111, 3, "1.111");
    formats("0.00##", 11111, 4, "1.1111");
    formats("0.00##", 111111, 5, "1.1111");
    formats("0." + many('0', 9), 1, 0, "1.000000000");
    formats("0." + many('0', 9), 123456789, 9, "0.123456789");
  }

  private static void noDigitAtAll() {
    sentence("If there is no digit at all, the integer digits are one 0");
    formats("#", 0, 0, "0");
    formats("#.", 0, 9, "0");
    formats("#.##", 0, 0, "0");
    formats("#.##", 1, 3, "0");
    formats("#.##", -1, 3, "0");
    formats("#,###", 0, 0, "0");
    formats("a#b", 4, 1, "a0b");
    formats("#.0", 0, 0, ".0");
  }

  private static void groups() {
    sentence("the character , stands before every integer digit from which on there are g, 2 * g, .. integer digits");
    formats("#,##0", 1234, 0, "1,234");
    formats("#,##0", 1234567, 0, "1,234,567");
    formats("#,##0", MOST, 0, "999,999,999,999,999");
    formats("#,#", 12, 0, "1,2");
    formats("#,#%", 123456789012345L, 0, "1,2,3,4,5,6,7,8,9,0,1,2,3,4,5,0,0%");
    formats("#,##", 12345, 0, "1,23,45");
    formats("0,00000000000", 1, 0, "0,00000000001");
    formats("0,00000000000", MOST, 0, "9999,99999999999");
    formats("0000,00", 1, 0, "00,00,01");
    formats("#,##0.000000", 1234123456, 6, "1,234.123456");
  }

  private static void groupNotBeforeTheFirst() {
    sentence("before every integer digit but the first");
    formats("#,##0", 12, 0, "12");
    formats("#,##0", 123, 0, "123");
    formats("#,##0", -123, 0, "-123");
    formats("#,##0", 123456, 0, "123,456");
    formats("#,#", 1, 0, "1");
    formats("#,#", 0, 0, "0");
    formats("#,#.#", 5, 1, ".5");
    formats("a#,##0", 123, 0, "a123");
    formats("#,000", 1, 0, "001");
    formats("000,000", 1, 0, "000,001");
  }

  private static void noPointWithoutFraction() {
    sentence("If there are fraction digits, . and these follow");
    formats("0.#", 1, 0, "1");
    formats("0.", 1, 0, "1");
    formats("0.#", 1, 1, "0.1");
    formats("0.0", 1, 0, "1.0");
    formats("0.#E0", 1, 0, "1E0");
    formats("0.#E0", 11, 0, "1.1E1");
  }

  private static void exponentOfZero() {
    sentence("If V is 0, M is 0 and e is 0 (i zeros if M is 0)");
    for (int i = 1; i <= 12; i++) {
      formats(many('0', i) + "E0", 0, 0, many('0', i) + "E0");
      formats(many('0', i) + ".0#E000", 0, 9, many('0', i) + ".0E000");
    }
    for (int m = 0; m <= 7; m++) {
      formats("a0.#E00%;b0", m, 0, 5, "a0E00%");
    }
    PatternedDecimals x = with("0E0");
    due("another number before", formatted(x, -1, 9), "-1E-9");
    due("0 behind it", formatted(x, 0, 9), "0E0");
  }

  private static void exponentAtPowersOfTen() {
    sentence("e is the number with 10^(i-1) <= |V| / 10^e");
    for (int i = 1; i <= 12; i++) {
      String due = "1" + many('0', i - 1) + "E";
      long u = 1;
      for (int k = 0; k <= 14; k++) {
        formats(many('0', i) + "E0", 7, u, 0, due + (k - i + 1));
        formats(many('0', i) + "E0", 7, -u, 9, "-" + due + (k - 9 - i + 1));
        formats(many('0', i) + "E0%", 7, u, 0, due + (k + 2 - i + 1) + "%");
        u = u * 10;
      }
    }
  }

  private static void exponentBelowPowersOfTen() {
    sentence("|V| / 10^e < 10^i");
    for (int i = 1; i <= 12; i++) {
      long u = 9;
      for (int n = 1; n <= 15; n++) {
        String due = many('9', Math.min(n, i)) + many('0', Math.max(0, i - n)) + "E";
        formats(many('0', i) + "E0", 1, u, 0, due + (n - i));
        formats(many('0', i) + "E0", 1, -u, 9, "-" + due + (n - 9 - i));
        u = u * 10 + 9;
      }
    }
  }

  private static void exponentCarries() {
    sentence("if |M| is 10^i then, e is one greater, and M is divided by 10");
    for (int i = 1; i <= 12; i++) {
      long u = 9;
      for (int n = 1; n <= 15; n++) {
        if (n > i) {
          formats(many('0', i) + "E0", u, 0, "1" + many('0', i - 1) + "E" + (n - i + 1));
          formats(many('0', i) + "E0", 0, -u, 9, "-1" + many('0', i - 1) + "E" + (n - 9 - i + 1));
        }
        u = u * 10 + 9;
      }
    }
    formats("0.00E0", 4, 9995, 3, "1.00E1");
    formats("0.00E0", 4, 99949999, 7, "9.99E0");
    formats("0.00E0", 5, 9995, 3, "9.99E0");
    formats("0.##E0", 4, 9995, 4, "1E0");
    formats("0." + many('0', 9) + "E0", 99999999995L, 9, "1.000000000E2");
    formats("0." + many('#', 9) + "E0", MOST, 0, "1E15");
    formats("0E0%", MOST, 0, "1E17%");
  }

  private static void exponentWithoutGroup() {
    sentence("The digits of |M| are written as above (they are i integer digits), without group");
    formats("0000E0", 1234567, 0, "1235E3");
    formats("0000E0", 1, 0, "1000E-3");
    formats(many('0', 12) + "E0", MOST, 0, "100000000000E4");
    formats(many('0', 12) + ".###E0", MOST, 0, "999999999999.999E3");
    formats(many('0', 12) + ".000#E0", MOST, 0, "999999999999.999E3");
    formats(many('0', 12) + ".0000E0", MOST, 0, "999999999999.9990E3");
  }

  private static void exponentSign() {
    sentence("then E, - if e is less than 0");
    formats("0E0", 1, 1, "1E-1");
    formats("0E0", 1, 0, "1E0");
    formats("0E0", 10, 0, "1E1");
    formats("0E0", -1, 1, "-1E-1");
    formats("0E0", 99, 2, "1E0");
    formats("0E0", 1, 99, 2, "9E-1");
  }

  private static void exponentZerosInFront() {
    sentence("|e| with zeros in front that make it at least as many digits as setting 4 says");
    formats("0E0", 1, 9, "1E-9");
    formats("0E00", 1, 9, "1E-09");
    formats("0E000", 1, 9, "1E-009");
    formats("0E0", 10000000000L, 0, "1E10");
    formats("0E00", 10000000000L, 0, "1E10");
    formats("0E000", 10000000000L, 0, "1E010");
    formats("0E00", 1, 0, "1E00");
    formats("0E000", 1, 0, "1E000");
    formats("0E0%", 0, MOST, 0, "1E17%");
    formats(many('0', 12) + "E0", 1, 9, "100000000000E-20");
    formats(many('0', 12) + "E000", 1, 9, "100000000000E-020");
  }

  private static void negativeAfterRounding() {
    sentence("with the negative affixes if what was rounded (V or M) is less than 0 after rounding, else with the positive ones");
    formats("a0;b0", -4, 1, "a0");
    formats("a0;b0", -5, 1, "a0");
    formats("a0;b0", -6, 1, "b1");
    formats("a0;b0", 0, -1, 9, "b1");
    formats("a0;b0", 1, -999999999, 9, "a0");
    formats("a0;b0", 2, -999999999, 9, "a0");
    formats("a0;b0", 3, -1, 9, "b1");
    formats("a0.00;b0", 4, -49, 4, "a0.00");
    formats("a0.00;b0", 4, -50, 4, "b0.01");
    formats("a0%;b0", 4, -4, 3, "a0%");
    formats("a0%;b0", 4, -5, 3, "b1");
    formats("a0E0;b0", 1, -1, 9, "b1E-9");
    formats("0", -4, 1, "0");
  }

  private static void roundingOfAMultiple() {
    sentence("ROUNDING to d digits: the number itself, if it is a multiple of 10^-d");
    for (int m = 0; m <= 7; m++) {
      formats("0", m, 0, 9, "0");
      formats("0", m, 2000, 3, "2");
      formats("0", m, -2000, 3, "-2");
      formats("0", m, MOST, 0, "" + MOST);
      formats("0.00", m, 5, 1, "0.50");
      formats("0.00", m, -125, 2, "-1.25");
      formats("0." + many('#', 9), m, MOST, 9, "999999.999999999");
      formats("0.#%", m, 1255, 3, "125.5%");
      formats("0.0#E0", m, 12500, 1, "1.25E3");
    }
  }

  /** Two fraction digits of numbers about a middle; then those of -u, written without their -. */
  private static void rounds(int mode, String want, String wantOfNegative) {
    long[] us = {1230000000, 1230000001, 1234999999, 1235000000, 1235000001, 1239999999, 1245000000};
    String[] due = want.split(" ");
    String[] dueOfNegative = wantOfNegative.split(" ");
    for (int k = 0; k < us.length; k++) {
      formats("0.00", mode, us[k], 9, due[k]);
      formats("0.00", mode, -us[k], 9, "-" + dueOfNegative[k]);
      formats("0.00E0", mode, us[k], 5, due[k] + "E4");
      formats("0.00E0", mode, -us[k], 5, "-" + dueOfNegative[k] + "E4");
    }
  }

  private static final String FARTHER = "1.23 1.24 1.24 1.24 1.24 1.24 1.25";
  private static final String NEARER = "1.23 1.23 1.23 1.23 1.23 1.23 1.24";

  private static void up() {
    sentence("mode 0 UP the one farther from 0");
    rounds(0, FARTHER, FARTHER);
    formats("0", 0, 1, 9, "1");
    formats("0", 0, -1, 9, "-1");
  }

  private static void down() {
    sentence("1 DOWN the one nearer to 0");
    rounds(1, NEARER, NEARER);
    formats("0", 1, 999999999, 9, "0");
    formats("0", 1, -1999999999, 9, "-1");
  }

  private static void ceiling() {
    sentence("2 CEILING the greater");
    rounds(2, FARTHER, NEARER);
    formats("0", 2, 1, 9, "1");
    formats("0", 2, -1999999999, 9, "-1");
  }

  private static void floor() {
    sentence("3 FLOOR the less");
    rounds(3, NEARER, FARTHER);
    formats("0", 3, 999999999, 9, "0");
    formats("0", 3, -1, 9, "-1");
  }

  private static void halfUp() {
    sentence("4 HALF UP: the one that is nearer to it, and in the middle the one farther from 0");
    String due = "1.23 1.23 1.23 1.24 1.24 1.24 1.25";
    rounds(4, due, due);
    formats("0", 4, 5, 1, "1");
    formats("0", 4, -5, 1, "-1");
    formats("0", 4, 499999999, 9, "0");
  }

  private static void halfDown() {
    sentence("5 HALF DOWN: the one that is nearer to it, and in the middle the one nearer to 0");
    String due = "1.23 1.23 1.23 1.23 1.24 1.24 1.24";
    rounds(5, due, due);
    formats("0", 5, 5, 1, "0");
    formats("0", 5, -15, 1, "-1");
    formats("0", 5, 500000001, 9, "1");
  }

  private static void halfEven() {
    sentence("6 HALF EVEN: the one that is nearer to it, and in the middle the even multiple");
    String due = "1.23 1.23 1.23 1.24 1.24 1.24 1.24";
    rounds(6, due, due);
    formats("0", 6, 5, 1, "0");
    formats("0", 6, 15, 1, "2");
    formats("0", 6, 25, 1, "2");
    formats("0", 6, -15, 1, "-2");
    formats("0", 6, -25, 1, "-2");
    formats("0", 6, 95, 1, "10");
    formats("0", 6, 500000001, 9, "1");
    formats("0", 6, 2499999999L, 9, "2");
  }

  private static void unnecessary() {
    sentence("7 UNNECESSARY: INEXACT");
    inexact("0.00", 1230000001, 9);
    inexact("0.00", 1235000000, 9);
    inexact("0.00", -1239999999, 9);
    inexact("0", 1, 9);
    inexact("0", -1, 9);
    inexact("0", MOST, 1);
    inexact("#.########", 1, 9);
    inexact("0%", 1, 3);
    inexact("0E0", 11, 0);
    inexact("0.0E0", -101, 0);
    inexact(many('0', 12) + ".##E0", MOST, 0);
    formats("0.0E0", 7, -11, 0, "-1.1E1");
  }

  private static void inexact(String pattern, long u, int s) {
    PatternedDecimals x = with(pattern);
    due("mode 7", x.mode(7), true);
    due(pattern + " of " + u + " / 10^" + s, x.format(u, s), INEXACT);
    due("OUT after it", outOf(x), "");
  }

  private static void roundingCarries() {
    sentence("one of the two multiples next to it: also one with a digit more");
    formats("#", 0, 9, 1, "1");
    formats("0", 4, 95, 1, "10");
    formats("0.0", 4, 9995, 2, "100.0");
    formats("0.00", 4, 9999, 4, "1.00");
    formats("#,##0", 4, 9999995, 1, "1,000,000");
    formats("#,##0", 4, 9995, 1, "1,000");
    formats("0.#", 4, 995, 2, "10");
  }

  private static void roundingOfTheGreatest() {
    sentence("Writes u / 10^s: rounding of the greatest and the least u at every s");
    for (int s = 1; s <= 9; s++) {
      formats("0", 0, MOST, s, "1" + many('0', 15 - s));
      formats("0", 0, -MOST, s, "-1" + many('0', 15 - s));
      formats("0", 1, MOST, s, many('9', 15 - s));
    }
    formats("0.#%", MOST, 1, MOST + "0%");
    formats("0.#%", MOST, 2, MOST + "%");
    formats("0.#%", MOST, 3, "99999999999999.9%");
    formats("0.#%", MOST, 4, "10000000000000%");
    formats("0.#%", -MOST, 9, "-100000000%");
  }
}
