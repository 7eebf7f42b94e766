// Circuits that several tests are made on.
final class Circuits {
  static final int AND = 0, OR = 1, XOR = 2, NAND = 3, NOR = 4, NOT = 5;

  private Circuits() {}

  /** The response of a new object, for any number of cycles: the states stay as they are. */
  static int ofNew(int pattern) {
    return (pattern >> 4) + 24 * (pattern & 1);
  }

  /** A toggle: state 0 gets its own inverse, line 7, which is output 1 too. */
  static ScanDiagnose toggle() {
    ScanDiagnose x = new ScanDiagnose();
    x.gate(NOT, 4, 0);
    x.feed(0, 7);
    x.output(1, 7);
    return x;
  }

  /** A shift register: input 0 goes to state 0, state 0 to state 1, state 1 to state 2. */
  static ScanDiagnose shifter() {
    ScanDiagnose x = new ScanDiagnose();
    x.feed(0, 0);
    x.feed(1, 4);
    x.feed(2, 5);
    return x;
  }

  /** A twisted ring: as the shift register, but state 0 gets line 7, the inverse of state 2. */
  static ScanDiagnose ring() {
    ScanDiagnose x = new ScanDiagnose();
    x.gate(NOT, 6, 0);
    x.feed(0, 7);
    x.feed(1, 4);
    x.feed(2, 5);
    return x;
  }

  /** Line 12 joins all inputs and states, and alone is seen; line 13 is read by nothing. */
  static ScanDiagnose chain(int kind) {
    ScanDiagnose x = new ScanDiagnose();
    x.gate(kind, 0, 1);
    for (int line = 2; line <= 6; line++) x.gate(kind, line, line + 5);
    x.gate(kind, 0, 0);
    showAlone(x, 12);
    return x;
  }

  /** All 21 lines on one path: six XORs join the inputs and states, eight NOTs follow. */
  static ScanDiagnose longPath() {
    ScanDiagnose x = new ScanDiagnose();
    x.gate(XOR, 0, 1);
    for (int line = 2; line <= 6; line++) x.gate(XOR, line, line + 5);
    for (int line = 12; line <= 19; line++) x.gate(NOT, line, 0);
    showAlone(x, 20);
    return x;
  }

  /**
   * All five bits of the response are 1 for this pattern, and 0 for every other: the last line
   * but one is the AND of seven lines that all have 1. The last line is read by nothing.
   */
  static ScanDiagnose detector(int pattern) {
    ScanDiagnose x = new ScanDiagnose();
    int[] one = new int[7];
    for (int line = 0; line < 7; line++) {
      one[line] = (pattern >> line & 1) == 1 ? line : x.gate(NOT, line, 0);
    }
    int all = one[0];
    for (int line = 1; line < 7; line++) all = x.gate(AND, one[line], all);
    showAlone(x, all);
    x.gate(AND, 0, 0);
    return x;
  }

  /** Every state and both outputs read this line. */
  static void showAlone(ScanDiagnose x, int line) {
    for (int k = 0; k < 3; k++) x.feed(k, line);
    for (int k = 0; k < 2; k++) x.output(k, line);
  }

  /**
   * No room for more: 14 gates, 20 observations, and a hidden fault, state 1 stuck at 1. Every
   * feed and output is another line than at first.
   */
  static ScanDiagnose full() {
    ScanDiagnose x = new ScanDiagnose();
    for (int line = 7; line <= 20; line++) x.gate(line % 6, line - 7, line - 1);
    x.feed(0, 20);
    x.feed(1, 4);
    x.feed(2, 19);
    x.output(0, 18);
    x.output(1, 5);
    x.inject(11);
    for (int i = 0; i < 20; i++) x.observe(6 * i + 3, 1 + i % 4);
    return x;
  }

  /** Room for more of all: two gates, two observations, and the last fault of all. */
  static ScanDiagnose half() {
    ScanDiagnose x = new ScanDiagnose();
    x.gate(XOR, 0, 4);
    x.gate(NAND, 7, 5);
    x.feed(1, 8);
    x.output(1, 7);
    x.inject(17);
    x.observe(0, 1);
    x.observe(127, 4);
    return x;
  }

  /** No room for observations, but for gates: the fault is found, and no next pattern is left. */
  static ScanDiagnose found() {
    ScanDiagnose x = new ScanDiagnose();
    x.gate(AND, 0, 1);
    x.feed(0, 7);
    x.output(0, 2);
    x.inject(1);
    for (int i = 0; i < 20; i++) x.observe(2 * (i % 2), 1);
    return x;
  }
}
