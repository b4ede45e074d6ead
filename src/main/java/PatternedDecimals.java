/**
 * Writes decimal numbers as a pattern says and reads what it wrote.
 * Nothing is made after the constructor: every call works in the rows made there.
 */
public final class PatternedDecimals {
  public static final int NONE = -1;
  public static final int BAD = -2;
  public static final int INEXACT = -3;

  private static final int ROW_MOST = 120;
  private static final int PATTERN_MOST = 40;
  private static final int INTEGER_MOST = 12;
  private static final int FRACTION_MOST = 9;
  private static final int EXPONENT_MOST = 3;
  private static final long U_MOST = 999999999999999L;
  private static final int S_MOST = 9;
  private static final int READ_DIGITS_MOST = 17;

  private static final int UP = 0;
  private static final int DOWN = 1;
  private static final int CEILING = 2;
  private static final int FLOOR = 3;
  private static final int HALF_UP = 4;
  private static final int HALF_DOWN = 5;
  private static final int HALF_EVEN = 6;
  private static final int UNNECESSARY = 7;

  /** The one element of an affix that is no letter. */
  private static final int PERCENT = 256;
  private static final int PERCENT_FACTOR = 100;
  private static final int PERCENT_PLACES = 2;

  private static final long[] POWERS = {
    1L,
    10L,
    100L,
    1000L,
    10000L,
    100000L,
    1000000L,
    10000000L,
    100000000L,
    1000000000L,
    10000000000L,
    100000000000L,
    1000000000000L,
    10000000000000L,
    100000000000000L,
    1000000000000000L,
    10000000000000000L,
    100000000000000000L,
    1000000000000000000L
  };

  private final Row typed;
  private final Row written;
  private final PatternReader patternReader;
  private final PatternWriter patternWriter;
  private final NumberWriter numberWriter;
  private final NumberReader numberReader;
  private Pattern pattern;
  /** Read into by apply, so that a text that is refused leaves the pattern alone. */
  private Pattern spare;
  private boolean hasPattern;
  private int roundingMode;
  private long readValue;
  private int readScale;

  public PatternedDecimals() {
    typed = new Row();
    written = new Row();
    patternReader = new PatternReader();
    patternWriter = new PatternWriter();
    numberWriter = new NumberWriter();
    numberReader = new NumberReader();
    pattern = new Pattern();
    spare = new Pattern();
    hasPattern = false;
    roundingMode = HALF_EVEN;
    readValue = 0L;
    readScale = 0;
  }

  public boolean type(char c) {
    if (c < 32 || c > 126) {
      return false;
    }
    return typed.add(c);
  }

  public void wipe() {
    typed.clear();
  }

  public int length() {
    return typed.size();
  }

  public int apply() {
    int fault = patternReader.read(typed, spare);
    if (fault != NONE) {
      return fault;
    }
    if (typed.size() > PATTERN_MOST) {
      return PATTERN_MOST;
    }
    spare.complete();
    Pattern old = pattern;
    pattern = spare;
    spare = old;
    hasPattern = true;
    return NONE;
  }

  public boolean mode(int m) {
    if (m < UP || m > UNNECESSARY) {
      return false;
    }
    roundingMode = m;
    return true;
  }

  public int setting(int k) {
    if (!hasPattern) {
      return NONE;
    }
    Shape shape = pattern.first.shape;
    switch (k) {
      case 0:
        return shape.leastInteger;
      case 1:
        return shape.leastFraction;
      case 2:
        return shape.mostFraction;
      case 3:
        return shape.group;
      case 4:
        return shape.exponentZeros;
      case 5:
        return pattern.hasPercent ? PERCENT_FACTOR : 1;
      case 6:
        return pattern.hasSecond ? 1 : 0;
      default:
        return NONE;
    }
  }

  public int format(long u, int s) {
    if (!hasPattern) {
      return NONE;
    }
    if (u < -U_MOST || u > U_MOST || s < 0 || s > S_MOST) {
      return BAD;
    }
    long scaled = pattern.hasPercent ? u * PERCENT_FACTOR : u;
    if (!numberWriter.prepare(pattern.first.shape, scaled, s, roundingMode)) {
      return INEXACT;
    }
    numberWriter.write(pattern, written);
    return written.size();
  }

  public int print() {
    if (!hasPattern) {
      return NONE;
    }
    patternWriter.write(pattern, written);
    numberWriter.forgetFields();
    return written.size();
  }

  public int out(int k) {
    return written.at(k);
  }

  public int field(int f, boolean end) {
    return numberWriter.fieldEdge(f, end);
  }

  public void copy() {
    typed.become(written);
  }

  public boolean parse() {
    if (!hasPattern || !numberReader.read(typed, pattern)) {
      return false;
    }
    readValue = numberReader.signedDigits();
    readScale = numberReader.places();
    return true;
  }

  public long value() {
    return readValue;
  }

  public int scale() {
    return readScale;
  }

  /** 10^k; k is 0 .. 18 wherever this is called, and the bounds only keep the index safe. */
  private static long tenTo(int k) {
    return POWERS[Math.max(0, Math.min(k, POWERS.length - 1))];
  }

  /** The number of digits of n without zeros in front: none if n is 0. */
  private static int digitCount(long n) {
    int count = 0;
    while (count < POWERS.length && n >= POWERS[count]) {
      count++;
    }
    return count;
  }

  private static boolean isDigit(int c) {
    return c >= '0' && c <= '9';
  }

  private static boolean isSpecial(int c) {
    return c == '#' || c == '0' || c == ',' || c == '.' || c == ';' || c == 'E';
  }

  /** A text of at most 120 characters. */
  private static final class Row {
    private final char[] chars;
    private int count;

    private Row() {
      chars = new char[ROW_MOST];
      count = 0;
    }

    private int size() {
      return count;
    }

    private int at(int k) {
      return k >= 0 && k < count ? chars[k] : NONE;
    }

    private boolean add(char c) {
      if (count >= chars.length) {
        return false;
      }
      chars[count] = c;
      count++;
      return true;
    }

    private void clear() {
      count = 0;
    }

    private void become(Row other) {
      System.arraycopy(other.chars, 0, chars, 0, other.count);
      count = other.count;
    }
  }

  /** The elements of an affix: letters, and PERCENT. */
  private static final class Affix {
    private final int[] elements;
    private int count;

    private Affix() {
      elements = new int[ROW_MOST];
      count = 0;
    }

    private int size() {
      return count;
    }

    private int at(int k) {
      return k >= 0 && k < count ? elements[k] : NONE;
    }

    private void clear() {
      count = 0;
    }

    private void add(int element) {
      if (count < elements.length) {
        elements[count] = element;
        count++;
      }
    }

    private void addAll(Affix other) {
      for (int k = 0; k < other.count; k++) {
        add(other.at(k));
      }
    }

    private boolean hasPercent() {
      for (int k = 0; k < count; k++) {
        if (elements[k] == PERCENT) {
          return true;
        }
      }
      return false;
    }

    /** Whether the elements from the given one on are those of the other affix. */
    private boolean endsAs(Affix other, int from) {
      if (count - from != other.count) {
        return false;
      }
      for (int k = 0; k < other.count; k++) {
        if (at(from + k) != other.at(k)) {
          return false;
        }
      }
      return true;
    }

    private int shownAt(int k) {
      int element = at(k);
      return element == PERCENT ? '%' : element;
    }

    private void show(Row into) {
      for (int k = 0; k < count; k++) {
        into.add((char) shownAt(k));
      }
    }

    private boolean standsIn(Row row, int from) {
      for (int k = 0; k < count; k++) {
        if (row.at(from + k) != shownAt(k)) {
          return false;
        }
      }
      return true;
    }
  }

  /** What the number of a part says. */
  private static final class Shape {
    private int hashes;
    private int leastInteger;
    private int leastFraction;
    private int mostFraction;
    private boolean grouped;
    private int group;
    private int exponentZeros;

    private Shape() {
      clear();
    }

    private void clear() {
      hashes = 0;
      leastInteger = 0;
      leastFraction = 0;
      mostFraction = 0;
      grouped = false;
      group = 0;
      exponentZeros = 0;
    }

    private void startGroup() {
      grouped = true;
      group = 0;
    }

    /** False, changing nothing, if the character can't come next before the point. */
    private boolean takeInteger(int c) {
      if (c == '#' && leastInteger == 0) {
        hashes++;
      } else if (c == '0') {
        leastInteger++;
      } else {
        return false;
      }
      if (grouped) {
        group++;
      }
      return true;
    }

    /** False, changing nothing, if the character can't come next behind the point. */
    private boolean takeFraction(int c) {
      if (c == '0' && mostFraction == leastFraction) {
        leastFraction++;
      } else if (c != '#') {
        return false;
      }
      mostFraction++;
      return true;
    }

    private boolean allowsExponent() {
      return hashes == 0 && !grouped;
    }
  }

  private static final class Part {
    private final Affix prefix;
    private final Shape shape;
    private final Affix suffix;

    private Part() {
      prefix = new Affix();
      shape = new Shape();
      suffix = new Affix();
    }
  }

  private static final class Pattern {
    private final Part first;
    /** Once complete, this holds the negative affixes even if no second part was given. */
    private final Part second;
    private boolean hasSecond;
    private boolean hasPercent;

    private Pattern() {
      first = new Part();
      second = new Part();
      hasSecond = false;
      hasPercent = false;
    }

    private void complete() {
      hasPercent = first.prefix.hasPercent() || first.suffix.hasPercent();
      if (!hasSecond) {
        second.prefix.clear();
        second.prefix.add('-');
        second.prefix.addAll(first.prefix);
        second.suffix.clear();
        second.suffix.addAll(first.suffix);
      }
    }

    /** Whether the second part says no more than would hold without it. */
    private boolean secondIsUsual() {
      return second.prefix.at(0) == '-'
          && second.prefix.endsAs(first.prefix, 1)
          && second.suffix.endsAs(first.suffix, 0);
    }
  }

  /**
   * Reads a text as a pattern. Whatever is wrong is found at the place where reading stops,
   * because all that was read before it can go on to a pattern: that place is the fault.
   */
  private static final class PatternReader {
    private int place;

    private PatternReader() {
      place = 0;
    }

    /** NONE, or the fault of the text. */
    private int read(Row source, Pattern into) {
      place = 0;
      into.hasSecond = false;
      if (!readPart(source, into.first)) {
        return place;
      }
      if (source.at(place) == ';') {
        place++;
        into.hasSecond = true;
        if (!readPart(source, into.second)) {
          return place;
        }
      }
      return place < source.size() ? place : NONE;
    }

    private boolean readPart(Row source, Part part) {
      return readAffix(source, part.prefix)
          && readNumber(source, part.shape)
          && readAffix(source, part.suffix);
    }

    /** Stops before a special character; false if the text ends within quotes. */
    private boolean readAffix(Row source, Affix affix) {
      affix.clear();
      boolean quoted = false;
      int size = source.size();
      for (; place < size; place++) {
        int c = source.at(place);
        if (c == '\'') {
          if (source.at(place + 1) == '\'') {
            affix.add('\'');
            place++;
          } else {
            quoted = !quoted;
          }
        } else if (quoted) {
          affix.add(c);
        } else if (isSpecial(c)) {
          return true;
        } else {
          affix.add(c == '%' ? PERCENT : c);
        }
      }
      return !quoted;
    }

    private boolean readNumber(Row source, Shape shape) {
      shape.clear();
      if (!readInteger(source, shape)) {
        return false;
      }
      if (source.at(place) == '.') {
        place++;
        readFraction(source, shape);
      }
      if (source.at(place) == 'E' && shape.allowsExponent()) {
        place++;
        return readExponent(source, shape);
      }
      return true;
    }

    private boolean readInteger(Row source, Shape shape) {
      for (int taken = 0; taken < INTEGER_MOST; taken++) {
        boolean comma = taken > 0 && source.at(place) == ',';
        if (comma) {
          place++;
          shape.startGroup();
        }
        if (!shape.takeInteger(source.at(place))) {
          return taken > 0 && !comma;
        }
        place++;
      }
      return true;
    }

    private void readFraction(Row source, Shape shape) {
      for (int taken = 0; taken < FRACTION_MOST; taken++) {
        if (!shape.takeFraction(source.at(place))) {
          return;
        }
        place++;
      }
    }

    private boolean readExponent(Row source, Shape shape) {
      while (shape.exponentZeros < EXPONENT_MOST && source.at(place) == '0') {
        shape.exponentZeros++;
        place++;
      }
      return shape.exponentZeros > 0;
    }
  }

  /** Writes a pattern in its shortest form. */
  private static final class PatternWriter {
    private PatternWriter() {
    }

    private void write(Pattern pattern, Row into) {
      into.clear();
      writeAffix(pattern.first.prefix, into);
      writeShape(pattern.first.shape, into);
      writeAffix(pattern.first.suffix, into);
      if (pattern.hasSecond && !pattern.secondIsUsual()) {
        into.add(';');
        writeAffix(pattern.second.prefix, into);
        into.add('#');
        writeAffix(pattern.second.suffix, into);
      }
    }

    private void writeAffix(Affix affix, Row into) {
      boolean quoted = false;
      for (int k = 0; k < affix.size(); k++) {
        int element = affix.at(k);
        if (quoted ? element == PERCENT : needsQuotes(element)) {
          into.add('\'');
          quoted = !quoted;
        }
        if (element == '\'') {
          into.add('\'');
        }
        into.add((char) affix.shownAt(k));
      }
      if (quoted) {
        into.add('\'');
      }
    }

    private static boolean needsQuotes(int element) {
      return element == '%' || isSpecial(element);
    }

    private void writeShape(Shape shape, Row into) {
      writeInteger(shape, into);
      if (shape.mostFraction > 0) {
        into.add('.');
        writeMany('0', shape.leastFraction, into);
        writeMany('#', shape.mostFraction - shape.leastFraction, into);
      }
      if (shape.exponentZeros > 0) {
        into.add('E');
        writeMany('0', shape.exponentZeros, into);
      }
    }

    private void writeInteger(Shape shape, Row into) {
      int hashes = Math.max(0, shape.group + 1 - shape.leastInteger);
      int all = hashes + shape.leastInteger;
      for (int k = 0; k < all; k++) {
        if (shape.group > 0 && all - k == shape.group) {
          into.add(',');
        }
        into.add(k < hashes ? '#' : '0');
      }
    }

    private static void writeMany(char c, int times, Row into) {
      for (int k = 0; k < times; k++) {
        into.add(c);
      }
    }
  }

  /** The number digits / 10^places, less than 0 if negative; its size and its sign are apart. */
  private static final class Decimal {
    private boolean negative;
    private long digits;
    private int places;

    private Decimal() {
      set(0L, 0);
    }

    private void set(long signed, int scale) {
      negative = signed < 0;
      digits = Math.abs(signed);
      places = scale;
    }

    private boolean isBelowZero() {
      return negative && digits != 0;
    }

    private long whole() {
      return digits / tenTo(places);
    }

    /** False, changing nothing, if the mode allows no rounding and some would be needed. */
    private boolean roundTo(int most, int mode) {
      if (places <= most) {
        return true;
      }
      long unit = tenTo(places - most);
      long rest = digits % unit;
      if (rest != 0 && mode == UNNECESSARY) {
        return false;
      }
      long kept = digits / unit;
      digits = rest != 0 && goesAway(mode, kept, rest, unit) ? kept + 1 : kept;
      places = most;
      return true;
    }

    /** Whether the multiple farther from 0 is taken, where the rest is not 0. */
    private boolean goesAway(int mode, long kept, long rest, long unit) {
      int half = Long.compare(rest, unit - rest);
      switch (mode) {
        case UP:
          return true;
        case CEILING:
          return !negative;
        case FLOOR:
          return negative;
        case HALF_UP:
          return half >= 0;
        case HALF_DOWN:
          return half > 0;
        case HALF_EVEN:
          return half > 0 || (half == 0 && kept % 2 != 0);
        case DOWN:
        default:
          return false;
      }
    }

    /** How many digits stand behind the point without zeros at the end. */
    private int fractionCount() {
      int count = places;
      long rest = digits % tenTo(places);
      while (count > 0 && rest % 10 == 0) {
        rest = rest / 10;
        count--;
      }
      return count;
    }

    /** Digit k behind the point, k from 0; a 0 behind the last one. */
    private int fractionDigit(int k) {
      return k < places ? (int) (digits / tenTo(places - 1 - k) % 10) : 0;
    }
  }

  /** Writes a number in two steps: first it is rounded, which may be refused, then written. */
  private static final class NumberWriter {
    private final Decimal decimal;
    private int exponent;
    /** Where fields 0, 1 and 2 begin and end, two places for each. */
    private final int[] edges;
    private boolean hasFields;

    private NumberWriter() {
      decimal = new Decimal();
      exponent = 0;
      edges = new int[6];
      hasFields = false;
    }

    private void forgetFields() {
      hasFields = false;
    }

    private int fieldEdge(int f, boolean end) {
      if (!hasFields || f < 0 || f > 2) {
        return NONE;
      }
      return edges[end ? 2 * f + 1 : 2 * f];
    }

    private boolean prepare(Shape shape, long u, int s, int mode) {
      decimal.set(u, s);
      exponent = 0;
      if (shape.exponentZeros == 0 || u == 0) {
        return decimal.roundTo(shape.mostFraction, mode);
      }
      takeExponent(shape.leastInteger);
      if (!decimal.roundTo(shape.mostFraction, mode)) {
        return false;
      }
      carryExponent(shape.leastInteger);
      return true;
    }

    /** Moves the point, so that so many integer digits stand before it. */
    private void takeExponent(int integers) {
      int count = digitCount(decimal.digits);
      exponent = count - decimal.places - integers;
      if (count < integers) {
        decimal.digits = decimal.digits * tenTo(integers - count);
        decimal.places = 0;
      } else {
        decimal.places = count - integers;
      }
    }

    /** Rounding may have made one integer digit more, all behind the first being 0 then. */
    private void carryExponent(int integers) {
      if (decimal.whole() >= tenTo(integers)) {
        decimal.digits = tenTo(integers - 1);
        decimal.places = 0;
        exponent++;
      }
    }

    private void write(Pattern pattern, Row into) {
      Part part = decimal.isBelowZero() ? pattern.second : pattern.first;
      Shape shape = pattern.first.shape;
      into.clear();
      part.prefix.show(into);
      writeInteger(shape, into);
      writeFraction(shape, into);
      writeExponent(shape, into);
      part.suffix.show(into);
      hasFields = true;
    }

    private int shownFraction(Shape shape) {
      return Math.max(decimal.fractionCount(), shape.leastFraction);
    }

    private void writeInteger(Shape shape, Row into) {
      edges[0] = into.size();
      int count = Math.max(digitCount(decimal.whole()), shape.leastInteger);
      if (count == 0 && shownFraction(shape) == 0) {
        count = 1;
      }
      writeDigits(decimal.whole(), count, shape.group, into);
      edges[1] = into.size();
    }

    private void writeFraction(Shape shape, Row into) {
      int count = shownFraction(shape);
      if (count > 0) {
        into.add('.');
      }
      edges[2] = into.size();
      for (int k = 0; k < count; k++) {
        into.add((char) ('0' + decimal.fractionDigit(k)));
      }
      edges[3] = into.size();
    }

    private void writeExponent(Shape shape, Row into) {
      if (shape.exponentZeros > 0) {
        into.add('E');
      }
      edges[4] = into.size();
      if (shape.exponentZeros > 0) {
        if (exponent < 0) {
          into.add('-');
        }
        long size = Math.abs(exponent);
        writeDigits(size, Math.max(digitCount(size), shape.exponentZeros), 0, into);
      }
      edges[5] = into.size();
    }

    private static void writeDigits(long n, int count, int group, Row into) {
      for (int left = count; left > 0; left--) {
        if (group > 0 && left < count && left % group == 0) {
          into.add(',');
        }
        into.add((char) ('0' + (int) (n / tenTo(left - 1) % 10)));
      }
    }
  }

  /** Reads a number that stands between the affixes of one of the signs. */
  private static final class NumberReader {
    private int begin;
    private int end;
    private int place;
    private boolean negative;
    private int allDigits;
    private int fractionDigits;
    private int exponent;
    /** The digits from the first to the last that is not 0, as a number and counted. */
    private long digits;
    private int digitsCounted;
    /** Zeros behind those: they count as digits only if one that is not 0 follows. */
    private int zerosBehind;
    private int percentPlaces;

    private NumberReader() {
      begin = 0;
      end = 0;
      percentPlaces = 0;
      negative = false;
      startBody(0, 0);
    }

    private long signedDigits() {
      return negative ? -digits : digits;
    }

    private int places() {
      return digits == 0 ? 0 : fractionDigits - zerosBehind - exponent + percentPlaces;
    }

    private boolean read(Row source, Pattern pattern) {
      Shape shape = pattern.first.shape;
      percentPlaces = pattern.hasPercent ? PERCENT_PLACES : 0;
      negative = false;
      if (!startBetween(source, pattern.first) || !readBody(source, shape)) {
        negative = true;
        if (!startBetween(source, pattern.second) || !readBody(source, shape)) {
          return false;
        }
      }
      return digitsCounted <= READ_DIGITS_MOST;
    }

    /** False if the affixes of the part don't stand around the text. */
    private boolean startBetween(Row source, Part part) {
      int from = part.prefix.size();
      int to = source.size() - part.suffix.size();
      startBody(from, to);
      return from <= to && part.prefix.standsIn(source, 0) && part.suffix.standsIn(source, to);
    }

    private void startBody(int from, int to) {
      begin = from;
      end = to;
      place = from;
      allDigits = 0;
      fractionDigits = 0;
      exponent = 0;
      digits = 0L;
      digitsCounted = 0;
      zerosBehind = 0;
    }

    /** The character at a place of the body: what stands outside it is no part of the number. */
    private int bodyAt(Row source, int k) {
      return k >= begin && k < end ? source.at(k) : NONE;
    }

    private boolean readBody(Row source, Shape shape) {
      readInteger(source, shape.group > 0);
      if (bodyAt(source, place) == '.') {
        place++;
        readFraction(source);
      }
      if (allDigits == 0) {
        return false;
      }
      if (shape.exponentZeros > 0 && !readExponent(source)) {
        return false;
      }
      return place == end;
    }

    private void readInteger(Row source, boolean grouped) {
      for (; place < end; place++) {
        int c = bodyAt(source, place);
        if (isDigit(c)) {
          takeDigit(c - '0');
        } else if (!grouped || c != ',' || !isBetweenDigits(source)) {
          return;
        }
      }
    }

    private boolean isBetweenDigits(Row source) {
      return isDigit(bodyAt(source, place - 1)) && isDigit(bodyAt(source, place + 1));
    }

    private void readFraction(Row source) {
      for (; place < end && isDigit(bodyAt(source, place)); place++) {
        takeDigit(bodyAt(source, place) - '0');
        fractionDigits++;
      }
    }

    private void takeDigit(int digit) {
      allDigits++;
      if (digit == 0) {
        if (digitsCounted > 0) {
          zerosBehind++;
        }
        return;
      }
      digitsCounted = digitsCounted + zerosBehind + 1;
      if (digitsCounted <= READ_DIGITS_MOST) {
        digits = digits * tenTo(zerosBehind + 1) + digit;
      }
      zerosBehind = 0;
    }

    private boolean readExponent(Row source) {
      if (bodyAt(source, place) != 'E') {
        return false;
      }
      place++;
      boolean below = bodyAt(source, place) == '-';
      if (below) {
        place++;
      }
      int size = 0;
      int taken = 0;
      while (taken < EXPONENT_MOST && isDigit(bodyAt(source, place))) {
        size = size * 10 + bodyAt(source, place) - '0';
        taken++;
        place++;
      }
      exponent = below ? -size : size;
      return taken > 0;
    }
  }
}
