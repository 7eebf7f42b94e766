// What every test of the project shares: it says each answer that is not as due, and counts them.
abstract class Checks {
  static final int LOW = Integer.MIN_VALUE;
  static final int HIGH = Integer.MAX_VALUE;
  private static int wrong = 0;
  private static String words = "";

  /** The words of the document that the checks from here on hold the program to. */
  static void says(String document) {
    words = document;
  }

  static void due(String call, long got, long want) {
    if (got != want) {
      wrong++;
      System.out.println("\"" + words + "\": " + call + " answered " + got + ", due is " + want);
    }
  }

  static void must(boolean holds, String what) {
    if (!holds) {
      wrong++;
      System.out.println("\"" + words + "\": does not hold: " + what);
    }
  }

  /**
   * Numbers outside least .. most: the next on both ends, the least and the greatest int, and
   * such as look good once they are cut to a byte or a short or have lost their sign.
   */
  static int[] outside(int least, int most) {
    return new int[] {
      least - 1, most + 1, least - 256, most + 256, least - 65536, most + 65536,
      LOW, LOW + most, HIGH - most, HIGH
    };
  }

  static void end() {
    System.out.println(wrong == 0 ? "all is as due" : wrong + " answers are not as due");
    if (wrong != 0) System.exit(1);
  }
}
