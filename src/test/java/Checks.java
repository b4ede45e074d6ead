/** What the tests of the promises share. No object here is used for more than 512 calls. */
abstract class Checks {
  static final int NONE = PatternedDecimals.NONE;
  static final int BAD = PatternedDecimals.BAD;
  static final int INEXACT = PatternedDecimals.INEXACT;

  private static String sentence = "";
  private static int sentences = 0;
  private static int checks = 0;
  private static int wrong = 0;

  /** Some calls on an object. */
  interface Calls {
    void on(PatternedDecimals x);
  }

  /** The words of the document that the next checks are for: a wrong answer is told with them. */
  static void sentence(String words) {
    sentence = "[" + words + "] ";
    sentences++;
  }

  static void due(String what, Object got, Object want) {
    checks++;
    if (!want.equals(got)) {
      wrong++;
      System.out.println(sentence + what + " answered " + got + ", due is " + want);
    }
  }

  static void finish() {
    String of = sentences > 0 ? sentences + " sentences, " : "";
    System.out.println(of + checks + " checks, " + wrong + " wrong");
    if (wrong != 0) {
      System.exit(1);
    }
  }

  static String many(char c, int times) {
    return String.valueOf(c).repeat(times);
  }

  static void retype(PatternedDecimals x, String s) {
    x.wipe();
    for (int k = 0; k < s.length(); k++) {
      due("type of " + s + " at " + k, x.type(s.charAt(k)), true);
    }
  }

  static PatternedDecimals with(String pattern) {
    PatternedDecimals x = new PatternedDecimals();
    retype(x, pattern);
    due("apply of " + pattern, x.apply(), NONE);
    return x;
  }

  static String outOf(PatternedDecimals x) {
    StringBuilder b = new StringBuilder();
    int c = x.out(0);
    while (c != NONE && b.length() < 200) {
      b.append((char) c);
      c = x.out(b.length());
    }
    return b.toString();
  }

  static String formatted(PatternedDecimals x, long u, int s) {
    int answer = x.format(u, s);
    String got = outOf(x);
    due("format(" + u + ", " + s + ") to " + got, answer, got.length());
    return got;
  }

  static void formats(String pattern, int mode, long u, int s, String want) {
    PatternedDecimals x = with(pattern);
    due("mode " + mode, x.mode(mode), true);
    due(pattern + " mode " + mode + " of " + u + " / 10^" + s, formatted(x, u, s), want);
  }

  static void formats(String pattern, long u, int s, String want) {
    formats(pattern, 6, u, s, want);
  }

  static void fault(String text, int want) {
    PatternedDecimals x = new PatternedDecimals();
    retype(x, text);
    due("apply of <" + text + ">", x.apply(), want);
    due("setting after apply of <" + text + ">", x.setting(0) == NONE, want != NONE);
  }

  static void isPattern(String... texts) {
    for (String text : texts) {
      fault(text, NONE);
    }
  }

  static void settings(String pattern, int... want) {
    PatternedDecimals x = with(pattern);
    for (int k = 0; k <= 6; k++) {
      due("setting " + k + " of " + pattern, x.setting(k), want[k]);
    }
    due("setting -1", x.setting(-1), NONE);
    due("setting 7", x.setting(7), NONE);
    due("setting least", x.setting(Integer.MIN_VALUE), NONE);
    due("setting most", x.setting(Integer.MAX_VALUE), NONE);
  }

  static void setting(String pattern, int k, int want) {
    due("setting " + k + " of " + pattern, with(pattern).setting(k), want);
  }

  static void prints(String pattern, String want) {
    PatternedDecimals x = with(pattern);
    int answer = x.print();
    due("print of " + pattern, outOf(x), want);
    due("print length of " + pattern, answer, want.length());
    due("print leaves TEXT", x.length(), pattern.length());
    due("no field after print", x.field(0, false), NONE);
    x.copy();
    due("apply of what was printed, " + want, x.apply(), NONE);
    x.print();
    due("print of what was printed", outOf(x), want);
  }

  static void fields(String pattern, long u, int s, int... want) {
    PatternedDecimals x = with(pattern);
    String got = formatted(x, u, s);
    for (int k = 0; k < 6; k++) {
      due("field " + k / 2 + " of " + got, x.field(k / 2, k % 2 == 1), want[k]);
    }
    due("field -1", x.field(-1, true), NONE);
    due("field 3", x.field(3, false), NONE);
    due("field least", x.field(Integer.MIN_VALUE, true), NONE);
    due("field most", x.field(Integer.MAX_VALUE, true), NONE);
  }

  static void reads(String pattern, String text, long value, int scale) {
    PatternedDecimals x = with(pattern);
    retype(x, text);
    due("parse of " + text + " by " + pattern, x.parse(), true);
    due("value of " + text + " by " + pattern, x.value(), value);
    due("scale of " + text + " by " + pattern, x.scale(), scale);
    due("parse leaves TEXT", x.length(), text.length());
  }

  static void refuses(String pattern, String text) {
    PatternedDecimals x = with(pattern);
    due("format", x.format(-7, 1) > 0, true);
    x.copy();
    boolean first = x.parse();
    long value = x.value();
    int scale = x.scale();
    retype(x, text);
    due("parse of " + text + " by " + pattern + " after " + first, x.parse(), false);
    due("value after refusing " + text, x.value(), value);
    due("scale after refusing " + text, x.scale(), scale);
    due("length after refusing " + text, x.length(), text.length());
  }

  /** After the setup the calls leave all as it was: a twin that did not get them is no other. */
  static void changesNothing(String what, Calls setup, Calls calls) {
    PatternedDecimals touched = new PatternedDecimals();
    PatternedDecimals twin = new PatternedDecimals();
    setup.on(touched);
    setup.on(twin);
    calls.on(touched);
    due("all that can be asked after " + what, allOf(touched), allOf(twin));
  }

  /** Asks for what can be seen, then makes calls that show the TEXT, the pattern and the mode. */
  private static String allOf(PatternedDecimals x) {
    StringBuilder b = new StringBuilder();
    b.append("length ").append(x.length());
    tellOutAndRead(x, b);
    tellSettings(x, b);
    b.append("; parse ").append(x.parse()).append(x.value()).append(' ').append(x.scale());
    for (long u : new long[] {-15, 15}) {
      b.append("; format ").append(x.format(u, 1)).append(outOf(x));
    }
    b.append("; print ").append(x.print()).append(outOf(x));
    b.append("; apply ").append(x.apply());
    tellSettings(x, b);
    b.append("; print ").append(x.print()).append(outOf(x));
    retype(x, "0");
    x.apply();
    for (long u : new long[] {25, -25, 35, 21, 29}) {
      b.append("; round ").append(x.format(u, 1)).append(outOf(x));
    }
    return b.toString();
  }

  private static void tellOutAndRead(PatternedDecimals x, StringBuilder b) {
    b.append("; OUT ").append(outOf(x)).append("; fields");
    for (int f = 0; f <= 2; f++) {
      b.append(' ').append(x.field(f, false)).append(' ').append(x.field(f, true));
    }
    b.append("; read ").append(x.value()).append(' ').append(x.scale());
  }

  private static void tellSettings(PatternedDecimals x, StringBuilder b) {
    b.append("; settings");
    for (int k = 0; k <= 6; k++) {
      b.append(' ').append(x.setting(k));
    }
  }
}
