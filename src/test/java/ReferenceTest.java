import java.math.BigDecimal;
import java.math.BigInteger;
import java.math.RoundingMode;
import java.util.ArrayList;
import java.util.List;
import java.util.regex.Matcher;

/**
 * Runs of calls from a fixed seed, on the class and on a second reading of the document that is
 * built from regular expressions and BigDecimal instead; after each call all that can be asked
 * for must be the same.
 */
public final class ReferenceTest {
  private static final int RUNS = 40000;
  /** An object answers as promised for 512 calls; no step makes more than 300. */
  private static final int MOST_CALLS = 512;
  private static final int MOST_CALLS_OF_A_STEP = 300;
  private static final int MOST_FAULTS_TOLD = 20;

  private static long seed = 20261115L;
  private static int wrong = 0;
  private static int applied = 0;
  private static int formatted = 0;
  private static int parsed = 0;

  public static void main(String[] args) {
    for (int run = 0; run < RUNS && wrong < MOST_FAULTS_TOLD; run++) {
      new Run().go();
    }
    System.out.println(applied + " patterns applied, " + formatted + " numbers written, "
        + parsed + " read, " + wrong + " runs wrong");
    if (wrong != 0 || applied < RUNS / 2 || formatted < RUNS || parsed < RUNS / 2) {
      System.exit(1);
    }
  }

  private static int below(int n) {
    seed = seed * 6364136223846793005L + 1442695040888963407L;
    return (int) ((seed >>> 33) % n);
  }

  private static boolean chance(int percent) {
    return below(100) < percent;
  }

  /** The document's words a second time. */
  private static final class Model {
    static final String LETTER = "[^'#0,.;E]";
    static final String AFFIX = "(?:''|'[^'](?:[^']|'')*+'|" + LETTER + ")*+";
    static final String FRACTION = "(?:\\.(?=[0#]{0,9}(?![0#]))0*#*)?";
    static final String PLAIN = "(?=(?:,?[#0]){1,12}(?![#0,]))(?![,])(?:#,?)*(?<!,)(?:,?0)*" + FRACTION;
    static final String POWER = "0{1,12}" + FRACTION + "E0{1,3}";
    static final String NUMBER = "(?:" + POWER + "|" + PLAIN + ")";
    static final java.util.regex.Pattern PATTERN = java.util.regex.Pattern.compile(
        "(" + AFFIX + ")(" + NUMBER + ")(" + AFFIX + ")(?:(;)(" + AFFIX + ")" + NUMBER + "(" + AFFIX + "))?");
    /** If a text goes on to a pattern at all, it does so with one of these. */
    static final String[] ENDS = {"", "0", "'", "'0", "x'", "x'0"};

    String text = "";
    String out = "";
    int mode = 6;
    Matcher pattern = null;
    long value = 0;
    int scale = 0;
    int[] fields = null;

    List<String> prefix;
    List<String> suffix;
    List<String> secondPrefix;
    List<String> secondSuffix;
    int leastInteger;
    int leastFraction;
    int mostFraction;
    int group;
    int zeros;
    int factor;

    static boolean isPattern(String s) {
      return PATTERN.matcher(s).matches();
    }

    static boolean goesOn(String s) {
      for (String end : ENDS) {
        if (isPattern(s + end)) {
          return true;
        }
      }
      return false;
    }

    int apply() {
      Matcher m = PATTERN.matcher(text);
      if (!m.matches()) {
        for (int p = 0; p < text.length(); p++) {
          if (!goesOn(text.substring(0, p + 1))) {
            return p;
          }
        }
        return text.length();
      }
      if (text.length() > 40) {
        return 40;
      }
      pattern = m;
      prefix = elements(m.group(1));
      suffix = elements(m.group(3));
      secondPrefix = elements(m.group(4) == null ? "" : m.group(5));
      secondSuffix = elements(m.group(4) == null ? "" : m.group(6));
      number(m.group(2));
      factor = prefix.contains("PERCENT") || suffix.contains("PERCENT") ? 100 : 1;
      return -1;
    }

    static List<String> elements(String affix) {
      List<String> all = new ArrayList<>();
      boolean quoted = false;
      for (int k = 0; k < affix.length(); k++) {
        String c = affix.substring(k, k + 1);
        if (affix.startsWith("''", k)) {
          all.add(c);
          k++;
        } else if (c.equals("'")) {
          quoted = !quoted;
        } else {
          all.add(c.equals("%") && !quoted ? "PERCENT" : c);
        }
      }
      return all;
    }

    static int count(String s, String c) {
      return s.length() - s.replace(c, "").length();
    }

    void number(String n) {
      String mantissa = n.contains("E") ? n.substring(0, n.indexOf('E')) : n;
      zeros = n.contains("E") ? n.length() - 1 - n.indexOf('E') : 0;
      String integer = mantissa.contains(".") ? mantissa.substring(0, mantissa.indexOf('.')) : mantissa;
      String fraction = mantissa.contains(".") ? mantissa.substring(mantissa.indexOf('.') + 1) : "";
      leastInteger = count(integer, "0");
      leastFraction = count(fraction, "0");
      mostFraction = fraction.length();
      group = integer.contains(",") ? integer.length() - 1 - integer.lastIndexOf(',') : 0;
    }

    boolean hasSecond() {
      return pattern.group(4) != null;
    }

    int setting(int k) {
      if (pattern == null || k < 0 || k > 6) {
        return -1;
      }
      return new int[] {leastInteger, leastFraction, mostFraction, group, zeros, factor, hasSecond() ? 1 : 0}[k];
    }

    static String shown(List<String> elements) {
      return String.join("", elements).replace("PERCENT", "%");
    }

    String shownPrefix(boolean negative) {
      if (!negative) {
        return shown(prefix);
      }
      return hasSecond() ? shown(secondPrefix) : "-" + shown(prefix);
    }

    String shownSuffix(boolean negative) {
      return negative && hasSecond() ? shown(secondSuffix) : shown(suffix);
    }

    int format(long u, int s) {
      if (pattern == null) {
        return -1;
      }
      if (u <= -1000000000000000L || u >= 1000000000000000L || s < 0 || s > 9) {
        return -2;
      }
      BigDecimal v = BigDecimal.valueOf(u, s).multiply(BigDecimal.valueOf(factor));
      int e = 0;
      BigDecimal m = v;
      try {
        if (zeros > 0 && v.signum() != 0) {
          e = v.precision() - v.scale() - leastInteger;
          m = v.scaleByPowerOfTen(-e);
        }
        m = m.setScale(mostFraction, RoundingMode.values()[mode]);
      } catch (ArithmeticException inexact) {
        return -3;
      }
      if (zeros > 0 && m.abs().compareTo(BigDecimal.TEN.pow(leastInteger)) == 0) {
        e++;
        m = m.movePointLeft(1);
      }
      write(m, e);
      return out.length();
    }

    void write(BigDecimal m, int e) {
      String plain = m.abs().setScale(Math.max(m.scale(), 1)).toPlainString();
      String integer = plain.substring(0, plain.indexOf('.')).replaceAll("^0+", "");
      String fraction = plain.substring(plain.indexOf('.') + 1).replaceAll("0+$", "");
      integer = "0".repeat(Math.max(0, leastInteger - integer.length())) + integer;
      fraction = fraction + "0".repeat(Math.max(0, leastFraction - fraction.length()));
      if (integer.isEmpty() && fraction.isEmpty()) {
        integer = "0";
      }
      if (group > 0) {
        integer = integer.replaceAll("(?<=.)(?=(.{" + group + "})+$)", ",");
      }
      boolean negative = m.signum() < 0;
      String head = shownPrefix(negative);
      int[] f = new int[6];
      f[0] = head.length();
      f[1] = f[0] + integer.length();
      String body = integer;
      f[2] = f[1];
      f[3] = f[1];
      if (!fraction.isEmpty()) {
        body = body + "." + fraction;
        f[2] = f[1] + 1;
        f[3] = f[2] + fraction.length();
      }
      f[4] = f[3];
      f[5] = f[3];
      if (zeros > 0) {
        String power = String.format("%0" + zeros + "d", Math.abs(e));
        power = e < 0 ? "-" + power : power;
        body = body + "E" + power;
        f[4] = f[3] + 1;
        f[5] = f[4] + power.length();
      }
      out = head + body + shownSuffix(negative);
      fields = f;
    }

    static String quoted(List<String> elements) {
      StringBuilder b = new StringBuilder();
      boolean inside = false;
      for (String e : elements) {
        boolean mustIn = e.length() == 1 && "#0,.;E%".contains(e);
        boolean mustOut = e.equals("PERCENT");
        if (mustIn && !inside || mustOut && inside) {
          b.append("'");
          inside = !inside;
        }
        b.append(mustOut ? "%" : e.equals("'") ? "''" : e);
      }
      return b.append(inside ? "'" : "").toString();
    }

    int print() {
      if (pattern == null) {
        return -1;
      }
      String integer = "0".repeat(leastInteger);
      if (group > 0) {
        integer = "#".repeat(Math.max(0, group + 1 - leastInteger)) + integer;
        int cut = integer.length() - group;
        integer = integer.substring(0, cut) + "," + integer.substring(cut);
      } else if (leastInteger == 0) {
        integer = "#";
      }
      String number = integer;
      if (mostFraction > 0) {
        number += "." + "0".repeat(leastFraction) + "#".repeat(mostFraction - leastFraction);
      }
      if (zeros > 0) {
        number += "E" + "0".repeat(zeros);
      }
      out = quoted(prefix) + number + quoted(suffix);
      List<String> usual = new ArrayList<>(prefix);
      usual.add(0, "-");
      if (hasSecond() && !(secondPrefix.equals(usual) && secondSuffix.equals(suffix))) {
        out += ";" + quoted(secondPrefix) + "#" + quoted(secondSuffix);
      }
      fields = null;
      return out.length();
    }

    int field(int f, boolean end) {
      return fields == null || f < 0 || f > 2 ? -1 : fields[2 * f + (end ? 1 : 0)];
    }

    String body(boolean negative) {
      String head = shownPrefix(negative);
      String tail = shownSuffix(negative);
      if (text.length() < head.length() + tail.length() || !text.startsWith(head) || !text.endsWith(tail)) {
        return null;
      }
      String body = text.substring(head.length(), text.length() - tail.length());
      String integer = group > 0 ? "(?:[0-9]+(?:,[0-9]+)*)?" : "[0-9]*";
      String power = zeros > 0 ? "E-?[0-9]{1,3}" : "";
      return body.matches("(?=\\.?[0-9])" + integer + "(?:\\.[0-9]*)?" + power) ? body : null;
    }

    boolean parse() {
      if (pattern == null) {
        return false;
      }
      boolean negative = false;
      String body = body(false);
      if (body == null) {
        negative = true;
        body = body(true);
      }
      if (body == null) {
        return false;
      }
      BigDecimal n = new BigDecimal(body.replace(",", "")).divide(BigDecimal.valueOf(factor));
      n = (negative ? n.negate() : n).stripTrailingZeros();
      if (n.unscaledValue().abs().compareTo(BigInteger.TEN.pow(17)) >= 0) {
        return false;
      }
      value = n.unscaledValue().longValueExact();
      scale = n.signum() == 0 ? 0 : n.scale();
      return true;
    }
  }

  /** One object and one model that get the same calls. */
  private static final class Run {
    final PatternedDecimals x = new PatternedDecimals();
    final Model model = new Model();
    final StringBuilder told = new StringBuilder();
    int calls = 0;
    boolean right = true;

    void go() {
      for (int step = 0; step < 20 && right && calls <= MOST_CALLS - MOST_CALLS_OF_A_STEP; step++) {
        int before = calls;
        step();
        if (calls - before > MOST_CALLS_OF_A_STEP) {
          wrong++;
          System.out.println("a step of the test made too many calls: " + (calls - before));
        }
      }
    }

    void same(String call, Object got, Object want) {
      calls++;
      told.append(call).append(" = ").append(got).append("; ");
      if (right && !want.equals(got)) {
        right = false;
        wrong++;
        System.out.println(told + " due is " + want);
      }
    }

    void step() {
      int kind = below(10);
      if (model.pattern == null || kind == 0) {
        applyText(somePattern());
      } else if (kind < 5) {
        formatSome();
      } else if (kind < 6) {
        printSome();
      } else if (kind < 9) {
        parseSome();
      } else {
        int m = below(12) - 2;
        boolean allowed = m >= 0 && m <= 7;
        same("mode " + m, x.mode(m), allowed);
        model.mode = allowed ? m : model.mode;
      }
    }

    void retype(String s) {
      x.wipe();
      calls++;
      told.append("TEXT <").append(s).append(">; ");
      for (int k = 0; k < s.length(); k++) {
        calls++;
        x.type(s.charAt(k));
      }
      model.text = s;
      same("length", x.length(), s.length());
    }

    void applyText(String s) {
      retype(s);
      applyNow();
    }

    void applyNow() {
      int want = model.apply();
      applied += want == -1 ? 1 : 0;
      same("apply", x.apply(), want);
      for (int k = -1; k <= 7; k++) {
        same("setting " + k, x.setting(k), model.setting(k));
      }
    }

    void outSame() {
      StringBuilder b = new StringBuilder();
      int k = 0;
      for (; k < 130 && x.out(k) >= 0; k++) {
        b.append((char) x.out(k));
      }
      calls += 2 * k + 1;
      same("OUT", b.toString(), model.out);
      for (int f = -1; f <= 3; f++) {
        same("begin of field " + f, x.field(f, false), model.field(f, false));
        same("end of field " + f, x.field(f, true), model.field(f, true));
      }
    }

    void formatSome() {
      long u = someNumber();
      int s = chance(97) ? below(10) : below(2) * 11 - 1;
      int want = model.format(u, s);
      formatted += want > 0 ? 1 : 0;
      same("format " + u + " " + s, x.format(u, s), want);
      outSame();
    }

    void printSome() {
      same("print", x.print(), model.print());
      outSame();
      if (chance(50)) {
        copyNow();
        applyNow();
      }
    }

    void copyNow() {
      x.copy();
      calls++;
      model.text = model.out;
      same("length of copy", x.length(), model.text.length());
    }

    void parseSome() {
      int kind = below(4);
      if (kind == 0) {
        copyNow();
      } else if (kind == 1) {
        retype(changed(model.out));
      } else {
        boolean negative = chance(40);
        retype(changed(model.shownPrefix(negative) + someBody(model.zeros > 0) + model.shownSuffix(negative)));
      }
      boolean want = model.parse();
      parsed += want ? 1 : 0;
      same("parse", x.parse(), want);
      same("value", x.value(), model.value);
      same("scale", x.scale(), model.scale);
    }
  }

  private static String many(String of, int least, int most) {
    StringBuilder b = new StringBuilder();
    int count = least + below(most - least + 1);
    for (int k = 0; k < count; k++) {
      b.append(of.charAt(below(of.length())));
    }
    return b.toString();
  }

  private static String cut(String s) {
    return s.length() <= 120 ? s : s.substring(0, 120);
  }

  /** Perhaps with one character less, more or exchanged. */
  private static String changed(String s) {
    if (chance(70)) {
      return cut(s);
    }
    int at = below(s.length() + 1);
    String rest = s.substring(chance(60) && at < s.length() ? at + 1 : at);
    return cut(s.substring(0, at) + many("#0,.;E'%-19a", 0, 1) + rest);
  }

  private static String someAffix() {
    StringBuilder b = new StringBuilder();
    int pieces = below(4);
    for (int k = 0; k < pieces; k++) {
      switch (below(6)) {
        case 0:
          b.append("''");
          break;
        case 1:
          b.append("%");
          break;
        case 2:
          b.append("'").append(many("#0,.;E%ax-5", 0, 3)).append("'");
          break;
        case 3:
          b.append("-");
          break;
        default:
          b.append(many("ab -(15)$", 1, 3));
      }
    }
    return b.toString();
  }

  private static String someNumberPattern() {
    StringBuilder b = new StringBuilder();
    boolean power = chance(30);
    int most = chance(10) ? 13 : 5;
    String digits = (power ? "" : many("#", 0, most / 2)) + many("0", 0, most - most / 2);
    digits = digits.isEmpty() ? "0" : digits;
    int commas = power ? 0 : below(3);
    for (int k = 0; k < digits.length(); k++) {
      if (k > 0 && commas > 0 && chance(40)) {
        b.append(",");
      }
      b.append(digits.charAt(k));
    }
    if (chance(60)) {
      b.append(".").append(many("0", 0, chance(10) ? 9 : 2)).append(many("#", 0, 3));
    }
    if (power) {
      b.append("E").append(many("0", 1, 3));
    }
    return b.toString();
  }

  private static String somePattern() {
    if (chance(5)) {
      return many("#0,.;E'%a", 0, 14);
    }
    String prefix = someAffix();
    String suffix = someAffix();
    String s = prefix + someNumberPattern() + suffix;
    if (chance(35)) {
      s = chance(40) ? s + ";-" + prefix + "0" + suffix : s + ";" + someAffix() + someNumberPattern() + someAffix();
    }
    if (chance(3)) {
      s = many("ab'%", 20, 60) + s;
    }
    return changed(s);
  }

  private static long someNumber() {
    int digits = chance(98) ? below(15) + 1 : 16;
    long n = 0;
    int kind = below(4);
    for (int k = 0; k < digits; k++) {
      int d = kind == 0 ? 9 : kind == 1 ? (k == digits / 2 ? 5 : 0) : kind == 2 ? below(3) * 5 % 11 : below(10);
      n = n * 10 + (d > 9 ? 9 : d);
    }
    n = chance(5) ? 0 : n;
    return chance(50) ? -n : n;
  }

  private static String someBody(boolean power) {
    int most = chance(80) ? 8 : 30;
    String s = many(chance(70) ? "0123456789" : "00001", 0, most);
    if (chance(30)) {
      s = s.replaceAll("(?<=.)(?=(...)+$)", ",");
    }
    if (chance(50)) {
      s = s + "." + many("0001234567", 0, most);
    }
    if (chance(95) ? power : !power) {
      s = s + "E" + many("-", 0, 1) + many("0123456789", 1, 3);
    }
    return s;
  }
}
