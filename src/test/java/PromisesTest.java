// Each promise of the document, with answers worked out by hand.
public final class PromisesTest {
  private static final int AND = 0, OR = 1, XOR = 2, NAND = 3, NOR = 4, NOT = 5;
  private static final int LOW = Integer.MIN_VALUE, HIGH = Integer.MAX_VALUE;
  private static int wrong = 0;
  private static int promise = 0;

  private static void due(String call, int got, int want) {
    if (got != want) {
      wrong++;
      System.out.println("promise " + promise + ": " + call + " answered " + got + ", due is " + want);
    }
  }

  public static void main(String[] args) {
    promise = 1; aNewObject();
    promise = 2; gateKinds(); gateRefusals(); gateDropsObservations(); gatesFull();
    promise = 3; feedAnswersAndWorks(); feedsAtOnce(); feedRefusals(); feedDropsObservations();
    promise = 4; outputAnswersAndWorks(); outputRefusals(); outputDropsObservations();
    promise = 5; lineCounts();
    promise = 6; injectAnswers(); injectDropsObservations(); faultStays();
    promise = 7; observeAnswers(); observeRefusals(); observeFull();
    promise = 8; forgetAnswers();
    promise = 9; observationCounts();
    promise = 10; responses(); responseRefusals(); responseIgnoresTheDevice();
    promise = 11; stuckInputs(); stuckStates(); stuckGates(); responseWithRefusals();
    promise = 12; candidateCounts(); noCandidates();
    promise = 13; candidateOrder();
    promise = 14; healthyAnswers();
    promise = 15; nextPatterns();
    promise = 16; detectedCounts(); detectedRefusals();
    promise = 17; hiddenCounts();
    promise = 18; leaders();
    promise = 19; groupCounts();
    promise = 20; candidateGroupCounts();
    promise = 0; questionsChangeNothing();
    System.out.println(wrong == 0 ? "all answers are as due" : wrong + " answers are not as due");
    if (wrong != 0) System.exit(1);
  }

  /** A toggle: state 0 gets its own inverse, line 7, which is output 1 too. */
  private static ScanDiagnose toggle() {
    ScanDiagnose x = new ScanDiagnose();
    x.gate(NOT, 4, 0);
    x.feed(0, 7);
    x.output(1, 7);
    return x;
  }

  /** A shift register: input 0 goes to state 0, state 0 to state 1, state 1 to state 2. */
  private static ScanDiagnose shifter() {
    ScanDiagnose x = new ScanDiagnose();
    x.feed(0, 0);
    x.feed(1, 4);
    x.feed(2, 5);
    return x;
  }

  /** Line 12 joins all inputs and states, and alone is seen; line 13 is read by nothing. */
  private static ScanDiagnose chain(int kind) {
    ScanDiagnose x = new ScanDiagnose();
    x.gate(kind, 0, 1);
    for (int line = 2; line <= 6; line++) x.gate(kind, line, line + 5);
    x.gate(kind, 0, 0);
    for (int k = 0; k < 3; k++) x.feed(k, 12);
    for (int k = 0; k < 2; k++) x.output(k, 12);
    return x;
  }

  private static void aNewObject() {
    ScanDiagnose x = new ScanDiagnose();
    due("lines", x.lines(), 7);
    due("observations", x.observations(), 0);
    due("healthy", x.healthy(), 1);
    due("candidates", x.candidates(), 14);
    for (int p = 0; p < 128; p++) {
      due("response " + p, x.response(p, 1), (p >> 4) + 24 * (p & 1));
      due("response " + p, x.response(p, 4), (p >> 4) + 24 * (p & 1));
    }
    for (int p = 0; p < 20; p++) {
      due("observe " + p, x.observe(p * 6 + 5, 1), x.response(p * 6 + 5, 1));
    }
    due("healthy", x.healthy(), 1);
    for (int k = 0; k < 3; k++) due("feed " + k, x.feed(k, 4 + k), 4 + k);
    for (int k = 0; k < 2; k++) due("output " + k, x.output(k, 0), 0);
    due("gate", x.gate(AND, 0, 0), 7);
  }

  private static void gateKinds() {
    // Bit a + 2 * b of a table is the gate's value.
    int[] table = {0b1000, 0b1110, 0b0110, 0b0111, 0b0001, 0b0101};
    for (int kind = AND; kind <= NOT; kind++) {
      ScanDiagnose x = new ScanDiagnose();
      due("gate " + kind, x.gate(kind, 0, 1), 7);
      x.output(0, 7);
      x.output(1, 1);
      x.feed(2, 7);
      for (int p = 0; p < 4; p++) {
        int value = table[kind] >> p & 1;
        due("kind " + kind + " of " + p, x.response(p, 1), value * 4 + value * 8 + (p >> 1) * 16);
      }
    }
    ScanDiagnose x = new ScanDiagnose();
    due("one line twice", x.gate(XOR, 3, 3), 7);
    due("inputs and states", x.gate(OR, 6, 3), 8);
    due("gates", x.gate(NAND, 8, 7), 9);
    x.output(0, 8);
    x.output(1, 9);
    due("response", x.response(0b0000000, 1), 16);
    due("response", x.response(0b0001000, 1), 8 + 16);
    due("response", x.response(0b1000000, 1), 4 + 8 + 16);
  }

  private static void gateRefusals() {
    ScanDiagnose x = new ScanDiagnose();
    x.observe(1, 1);
    int[] badKinds = {-1, 6, LOW, HIGH};
    for (int kind : badKinds) {
      due("gate kind " + kind, x.gate(kind, 0, 0), -1);
      due("kind before lines " + kind, x.gate(kind, 7, -1), -1);
    }
    int[] badLines = {-1, 7, 21, LOW, HIGH};
    for (int line : badLines) {
      for (int kind = AND; kind <= NOT; kind++) due("gate a " + line, x.gate(kind, line, 0), -2);
      for (int kind = AND; kind < NOT; kind++) due("gate b " + line, x.gate(kind, 0, line), -2);
    }
    due("lines", x.lines(), 7);
    due("observations", x.observations(), 1);
    due("candidates", x.candidates(), 10);
    for (int line : badLines) {
      int made = x.lines();
      due("NOT with b " + line, x.gate(NOT, 0, line), made);
      x.output(0, made);
      due("NOT of 0", x.response(0, 1), 8);
      due("NOT of 1", x.response(1, 1), 16);
    }
  }

  private static void gateDropsObservations() {
    ScanDiagnose x = new ScanDiagnose();
    x.inject(1);
    x.observe(0, 1);
    due("healthy", x.healthy(), 0);
    due("gate", x.gate(AND, 0, 0), 7);
    due("observations", x.observations(), 0);
    due("candidates", x.candidates(), 16);
    due("healthy", x.healthy(), 1);
    due("the fault stays", x.observe(0, 1), 24);
  }

  private static void gatesFull() {
    ScanDiagnose x = new ScanDiagnose();
    // A chain of inverters: line 7 + i is input 0 turned over i + 1 times.
    for (int i = 0; i < 14; i++) due("gate " + i, x.gate(NOT, i == 0 ? 0 : 6 + i, -1), 7 + i);
    x.output(0, 20);
    x.output(1, 19);
    x.observe(1, 1);
    for (int kind = AND; kind <= NOT; kind++) due("gate 15", x.gate(kind, 20, 20), -3);
    due("kind before room", x.gate(6, 0, 0), -1);
    due("a before room", x.gate(AND, 21, 0), -2);
    due("b before room", x.gate(AND, 0, 21), -2);
    due("a of NOT before room", x.gate(NOT, 21, 0), -2);
    due("lines", x.lines(), 21);
    due("observations", x.observations(), 1);
    due("response", x.response(1, 1), 8);
    due("response", x.response(0, 1), 16);
    due("last line stuck", x.responseWith(41, 0, 1), 24);
    due("no fault 42", x.responseWith(42, 0, 1), -1);
  }

  private static void feedAnswersAndWorks() {
    ScanDiagnose x = new ScanDiagnose();
    for (int k = 0; k < 3; k++) {
      due("feed", x.feed(k, 1 + k), 4 + k);
      due("feed again", x.feed(k, 3 - k), 1 + k);
    }
    due("response", x.response(0b0010, 1), 4);
    due("response", x.response(0b0100, 1), 2);
    due("response", x.response(0b1000, 1), 1);
    due("response", x.response(0b1110000, 1), 0);
    due("gate", x.gate(NOR, 0, 0), 7);
    due("feed a gate", x.feed(0, 7), 3);
    due("response", x.response(0, 1), 1);
  }

  private static void feedsAtOnce() {
    ScanDiagnose x = new ScanDiagnose();
    x.feed(0, 5);
    x.feed(1, 6);
    x.feed(2, 4);
    due("turned once", x.response(0b0010000, 1), 4);
    due("turned twice", x.response(0b0010000, 2), 2);
    due("turned thrice", x.response(0b0010000, 3), 1);
    due("turned four times", x.response(0b0010000, 4), 4);
    due("turned once", x.response(0b1010000, 1), 6);
  }

  private static void feedRefusals() {
    ScanDiagnose x = new ScanDiagnose();
    x.observe(1, 1);
    int[] badStates = {-1, 3, LOW, HIGH};
    int[] badLines = {-1, 7, LOW, HIGH};
    for (int k : badStates) {
      due("feed of state " + k, x.feed(k, 0), -1);
      due("state before line " + k, x.feed(k, 7), -1);
    }
    for (int line : badLines) {
      for (int k = 0; k < 3; k++) due("feed from line " + line, x.feed(k, line), -2);
    }
    due("observations", x.observations(), 1);
    for (int k = 0; k < 3; k++) due("feed before", x.feed(k, 0), 4 + k);
  }

  private static void feedDropsObservations() {
    ScanDiagnose x = new ScanDiagnose();
    x.inject(1);
    x.observe(0, 1);
    due("same feed", x.feed(1, 5), 5);
    due("observations", x.observations(), 0);
    due("candidates", x.candidates(), 14);
    due("healthy", x.healthy(), 1);
    due("the fault stays", x.observe(0, 1), 24);
  }

  private static void outputAnswersAndWorks() {
    ScanDiagnose x = new ScanDiagnose();
    due("output 0", x.output(0, 3), 0);
    due("output 1", x.output(1, 6), 0);
    due("response", x.response(0b0001000, 1), 8);
    due("response", x.response(0b1000000, 1), 4 + 16);
    due("output 0", x.output(0, 2), 3);
    due("output 1", x.output(1, 1), 6);
    due("response", x.response(0b0000100, 1), 8);
    due("response", x.response(0b0000010, 1), 16);
    due("gate", x.gate(NOR, 0, 0), 7);
    due("output a gate", x.output(1, 7), 1);
    due("response", x.response(0, 1), 16);
  }

  private static void outputRefusals() {
    ScanDiagnose x = new ScanDiagnose();
    x.observe(1, 1);
    int[] badOutputs = {-1, 2, LOW, HIGH};
    int[] badLines = {-1, 7, LOW, HIGH};
    for (int k : badOutputs) {
      due("output " + k, x.output(k, 1), -1);
      due("output before line " + k, x.output(k, 7), -1);
    }
    for (int line : badLines) {
      for (int k = 0; k < 2; k++) due("output from line " + line, x.output(k, line), -2);
    }
    due("observations", x.observations(), 1);
    for (int k = 0; k < 2; k++) due("output before", x.output(k, 1), 0);
  }

  private static void outputDropsObservations() {
    ScanDiagnose x = new ScanDiagnose();
    x.inject(1);
    x.observe(0, 1);
    due("same output", x.output(1, 0), 0);
    due("observations", x.observations(), 0);
    due("candidates", x.candidates(), 14);
    due("healthy", x.healthy(), 1);
    due("the fault stays", x.observe(0, 1), 24);
  }

  private static void lineCounts() {
    ScanDiagnose x = new ScanDiagnose();
    for (int i = 0; i < 14; i++) {
      due("lines", x.lines(), 7 + i);
      x.gate(AND, i, i);
    }
    due("lines", x.lines(), 21);
    x.gate(AND, 0, 0);
    due("lines", x.lines(), 21);
  }

  private static void injectAnswers() {
    ScanDiagnose x = new ScanDiagnose();
    int[] bad = {-2, 14, 42, LOW, HIGH};
    due("inject", x.inject(13), 0);
    due("observe", x.observe(0, 1), 4);
    for (int fault : bad) due("inject " + fault, x.inject(fault), -1);
    due("observations", x.observations(), 1);
    due("the fault before", x.observe(0, 1), 4);
    due("inject none", x.inject(-1), 0);
    due("observe", x.observe(0, 1), 0);
    due("inject", x.inject(0), 0);
    due("observe", x.observe(127, 1), 7);
    due("gate", x.gate(OR, 1, 2), 7);
    due("inject the new line", x.inject(15), 0);
    due("inject past the new line", x.inject(16), -1);
    x.output(0, 7);
    due("observe", x.observe(0, 1), 8);
  }

  private static void injectDropsObservations() {
    ScanDiagnose x = new ScanDiagnose();
    int[] faults = {-1, -1, 5, 5, -1};
    for (int fault : faults) {
      x.observe(0, 1);
      due("inject " + fault, x.inject(fault), 0);
      due("observations", x.observations(), 0);
      due("candidates", x.candidates(), 14);
    }
    x.inject(1);
    x.observe(0, 1);
    due("healthy", x.healthy(), 0);
    x.inject(1);
    due("healthy", x.healthy(), 1);
  }

  private static void faultStays() {
    ScanDiagnose x = new ScanDiagnose();
    x.inject(3);
    x.gate(AND, 0, 1);
    x.feed(0, 7);
    x.output(0, 7);
    due("observe", x.observe(1, 1), 1 + 8 + 16);
    x.forget();
    due("observe after forget", x.observe(1, 1), 1 + 8 + 16);
  }

  private static void observeAnswers() {
    ScanDiagnose x = toggle();
    due("observe", x.observe(0, 1), 1 + 16);
    due("observe", x.observe(0, 2), 0);
    due("observe", x.observe(17, 3), 8);
    due("observe", x.observe(127, 4), 7 + 8 + 16);
    due("observations", x.observations(), 4);
    x.inject(15);
    due("observe", x.observe(0, 1), 1 + 16);
    due("observe", x.observe(0, 2), 1 + 16);
    due("response", x.response(0, 2), 0);
  }

  private static void observeRefusals() {
    ScanDiagnose x = new ScanDiagnose();
    int[] badPatterns = {-1, 128, LOW, HIGH};
    int[] badCycles = {-1, 0, 5, LOW, HIGH};
    for (int p : badPatterns) {
      due("observe " + p, x.observe(p, 1), -1);
      due("pattern before cycles " + p, x.observe(p, 0), -1);
    }
    for (int c : badCycles) due("observe cycles " + c, x.observe(0, c), -2);
    due("observations", x.observations(), 0);
    due("candidates", x.candidates(), 14);
  }

  private static void observeFull() {
    ScanDiagnose x = new ScanDiagnose();
    for (int i = 1; i <= 20; i++) {
      due("observe " + i, x.observe(0, 1), 0);
      due("observations", x.observations(), i);
    }
    due("candidates", x.candidates(), 10);
    due("observe 21", x.observe(127, 1), -3);
    due("pattern before room", x.observe(128, 1), -1);
    due("cycles before room", x.observe(0, 5), -2);
    due("observations", x.observations(), 20);
    due("candidates", x.candidates(), 10);
    due("forget", x.forget(), 20);
    due("observe after forget", x.observe(127, 1), 31);
  }

  private static void forgetAnswers() {
    ScanDiagnose x = new ScanDiagnose();
    due("forget", x.forget(), 0);
    x.inject(1);
    x.observe(0, 1);
    x.observe(0, 1);
    due("candidates", x.candidates(), 1);
    due("healthy", x.healthy(), 0);
    due("forget", x.forget(), 2);
    due("forget again", x.forget(), 0);
    due("observations", x.observations(), 0);
    due("candidates", x.candidates(), 14);
    due("healthy", x.healthy(), 1);
  }

  private static void observationCounts() {
    ScanDiagnose x = new ScanDiagnose();
    due("observations", x.observations(), 0);
    x.observe(5, 1);
    due("observations", x.observations(), 1);
    x.observe(5, 1);
    due("the same again", x.observations(), 2);
    x.observe(5, 0);
    due("a refused one", x.observations(), 2);
    x.response(5, 1);
    due("a question", x.observations(), 2);
  }

  private static void responses() {
    ScanDiagnose x = toggle();
    due("response", x.response(0, 1), 1 + 16);
    due("response", x.response(0, 2), 0);
    due("response", x.response(0, 3), 1 + 16);
    due("response", x.response(0, 4), 0);
    due("response", x.response(127, 1), 6 + 8);
    due("response", x.response(127, 2), 7 + 8 + 16);
    ScanDiagnose y = shifter();
    for (int c = 1; c <= 4; c++) {
      due("shift in 1s", y.response(1, c), (c < 3 ? (1 << c) - 1 : 7) + 24);
      due("shift in 0s", y.response(0b1110000, c), (7 << c) & 7);
    }
  }

  private static void responseRefusals() {
    ScanDiagnose x = new ScanDiagnose();
    int[] badPatterns = {-1, 128, LOW, HIGH};
    int[] badCycles = {-1, 0, 5, LOW, HIGH};
    for (int p : badPatterns) {
      due("response " + p, x.response(p, 1), -1);
      due("pattern before cycles " + p, x.response(p, 5), -1);
    }
    for (int c : badCycles) due("response cycles " + c, x.response(0, c), -2);
  }

  private static void responseIgnoresTheDevice() {
    ScanDiagnose x = new ScanDiagnose();
    x.inject(1);
    due("response", x.response(0, 1), 0);
    due("observe", x.observe(0, 1), 24);
    due("response", x.response(0, 1), 0);
  }

  private static void stuckInputs() {
    ScanDiagnose x = shifter();
    due("input stuck at 1", x.responseWith(1, 0, 2), 3 + 24);
    due("input stuck at 0", x.responseWith(0, 127, 2), 4);
    due("input not read", x.responseWith(2, 127, 2), 7 + 24);
    x.inject(3);
    due("not the device's fault", x.responseWith(1, 0, 2), 3 + 24);
  }

  private static void stuckStates() {
    ScanDiagnose x = shifter();
    // The line of state 0 sticks, but the state itself still gets what its feed brings.
    due("state 0 stuck at 0", x.responseWith(8, 1, 1), 1 + 24);
    due("state 0 stuck at 0", x.responseWith(8, 1, 4), 1 + 24);
    due("state 0 stuck at 1", x.responseWith(9, 0, 1), 2);
    due("state 0 stuck at 1", x.responseWith(9, 0, 4), 6);
    due("state 2 stuck, not read", x.responseWith(13, 0, 4), 0);
    ScanDiagnose y = new ScanDiagnose();
    due("state 2 fed by its own line", y.responseWith(13, 0, 1), 4);
    due("state 2 fed by its own line", y.responseWith(12, 127, 4), 3 + 24);
  }

  private static void stuckGates() {
    ScanDiagnose x = toggle();
    due("gate stuck at 0", x.responseWith(14, 0, 1), 0);
    due("gate stuck at 0", x.responseWith(14, 0, 4), 0);
    due("gate stuck at 1", x.responseWith(15, 0, 2), 1 + 16);
    due("stuck state seen by the gate", x.responseWith(8, 16, 1), 1 + 16);
    due("stuck state seen by the gate", x.responseWith(9, 0, 3), 0);
    x.gate(NOT, 7, 0);
    x.output(0, 8);
    due("stuck gate seen by a gate", x.responseWith(14, 0, 1), 8);
    due("stuck gate seen by a gate", x.responseWith(15, 16, 1), 1 + 16);
  }

  private static void responseWithRefusals() {
    ScanDiagnose x = new ScanDiagnose();
    int[] badFaults = {-1, 14, LOW, HIGH};
    int[] badPatterns = {-1, 128, LOW, HIGH};
    int[] badCycles = {-1, 0, 5, LOW, HIGH};
    for (int f : badFaults) {
      due("responseWith fault " + f, x.responseWith(f, 0, 1), -1);
      due("fault before pattern " + f, x.responseWith(f, 128, 0), -1);
    }
    for (int p : badPatterns) {
      due("responseWith pattern " + p, x.responseWith(0, p, 1), -2);
      due("pattern before cycles " + p, x.responseWith(0, p, 0), -2);
    }
    for (int c : badCycles) due("responseWith cycles " + c, x.responseWith(0, 0, c), -3);
  }

  private static void candidateCounts() {
    ScanDiagnose x = new ScanDiagnose();
    due("candidates", x.candidates(), 14);
    x.observe(0, 1);
    // All but input 0 and the states stuck at 1.
    due("candidates", x.candidates(), 10);
    x.observe(127, 1);
    // Only the inputs 1 to 3, which nothing reads.
    due("candidates", x.candidates(), 6);
    x.inject(9);
    x.observe(0b0010000, 1);
    due("candidates", x.candidates(), 10);
    x.observe(0, 1);
    due("candidates", x.candidates(), 1);
    x.gate(AND, 0, 0);
    due("candidates", x.candidates(), 16);
    ScanDiagnose y = shifter();
    // A stuck state 0 is seen by the second cycle at the earliest, in state 1.
    y.inject(9);
    y.observe(0b0010000, 1);
    due("candidates", y.candidates(), 11);
    y.observe(0b0010000, 2);
    due("candidates", y.candidates(), 1);
  }

  private static void noCandidates() {
    ScanDiagnose x = new ScanDiagnose();
    // Every line is read: each state gets a XOR of lines, so no fault stays unseen.
    x.gate(XOR, 0, 1);
    x.gate(XOR, 7, 4);
    x.gate(XOR, 2, 3);
    x.gate(XOR, 9, 5);
    x.feed(0, 8);
    x.feed(1, 10);
    x.observe(0, 1);
    x.observe(127, 1);
    x.observe(1, 1);
    x.observe(2, 1);
    x.observe(4, 1);
    x.observe(8, 1);
    due("candidates", x.candidates(), 0);
    due("candidate", x.candidate(0), -1);
    due("nextPattern", x.nextPattern(), -1);
    due("candidateGroups", x.candidateGroups(), 0);
    due("healthy", x.healthy(), 1);
    due("observations", x.observations(), 6);
  }

  private static void candidateOrder() {
    ScanDiagnose x = new ScanDiagnose();
    for (int i = 0; i < 14; i++) due("candidate " + i, x.candidate(i), i);
    int[] bad = {-1, 14, 42, LOW, HIGH};
    for (int i : bad) due("candidate " + i, x.candidate(i), -1);
    x.observe(0, 1);
    int[] left = {0, 2, 3, 4, 5, 6, 7, 8, 10, 12};
    for (int i = 0; i < left.length; i++) due("candidate " + i, x.candidate(i), left[i]);
    due("candidate 10", x.candidate(10), -1);
    due("candidate -1", x.candidate(-1), -1);
    x.forget();
    x.gate(AND, 0, 0);
    due("candidate 15", x.candidate(15), 15);
    due("candidate 16", x.candidate(16), -1);
  }

  private static void healthyAnswers() {
    ScanDiagnose x = new ScanDiagnose();
    due("healthy", x.healthy(), 1);
    x.inject(1);
    due("nothing noted", x.healthy(), 1);
    x.observe(1, 1);
    due("not seen", x.healthy(), 1);
    x.observe(0, 1);
    due("seen", x.healthy(), 0);
    x.observe(1, 1);
    due("still noted", x.healthy(), 0);
    x.forget();
    due("forgotten", x.healthy(), 1);
    ScanDiagnose y = shifter();
    y.inject(9);
    y.observe(0b0010001, 1);
    due("one cycle hides it", y.healthy(), 1);
    y.observe(0b0010001, 3);
    due("three cycles of 1s hide it", y.healthy(), 1);
    y.observe(0b0010000, 2);
    due("two cycles show it", y.healthy(), 0);
  }

  private static void nextPatterns() {
    ScanDiagnose x = new ScanDiagnose();
    due("nextPattern", x.nextPattern(), 0);
    x.observe(0, 1);
    due("input 0 stuck at 0 shows at 1", x.nextPattern(), 1);
    x.observe(1, 1);
    due("state 0 stuck at 0 shows at 16", x.nextPattern(), 16);
    x.observe(16, 1);
    due("state 1 stuck at 0 shows at 32", x.nextPattern(), 32);
    x.observe(32, 1);
    due("state 2 stuck at 0 shows at 64", x.nextPattern(), 64);
    x.observe(64, 1);
    due("only unread inputs", x.nextPattern(), -1);
    due("candidates", x.candidates(), 6);
    x.inject(1);
    x.observe(0, 1);
    due("a single candidate", x.nextPattern(), -1);
    due("candidates", x.candidates(), 1);
    lastNextPattern();
    nextPatternIsOneCycle();
  }

  private static void lastNextPattern() {
    ScanDiagnose x = chain(AND);
    // A line stuck at 1 shows for a pattern with a single 0, a line stuck at 0 for 127 alone.
    for (int bit = 0; bit < 7; bit++) x.observe(127 - (1 << bit), 1);
    due("candidates", x.candidates(), 13 + 2);
    due("candidateGroups", x.candidateGroups(), 2);
    due("nextPattern", x.nextPattern(), 127);
    due("groups", x.groups(), 1 + 13 + 1);
    due("hidden", x.hidden(), 2);
    due("detected", x.detected(127, 1), 13);
    due("detected", x.detected(0, 1), 1);
    x.observe(127, 1);
    due("candidates", x.candidates(), 2);
    due("nextPattern", x.nextPattern(), -1);
  }

  private static void nextPatternIsOneCycle() {
    ScanDiagnose x = shifter();
    x.observe(0, 1);
    x.observe(1, 1);
    // State 0 stuck at 0 would show for pattern 1 in a second cycle.
    due("two cycles", x.responseWith(8, 1, 2), 1 + 24);
    due("two cycles", x.responseWith(2, 1, 2), 3 + 24);
    due("nextPattern", x.nextPattern(), 16);
  }

  private static void detectedCounts() {
    ScanDiagnose x = new ScanDiagnose();
    // Of input 0 and the three states each, the fault against its value.
    for (int p = 0; p < 128; p++) due("detected " + p, x.detected(p, 1), 4);
    x.inject(1);
    due("not against the device", x.detected(0, 1), 4);
    ScanDiagnose y = shifter();
    due("detected", y.detected(0, 1), 3);
    due("detected", y.detected(0, 4), 3);
    due("detected", y.detected(0b0010000, 1), 3);
    // Input 0 stuck at 1, state 0 at 0 and at 1, state 1 at 0.
    due("detected", y.detected(0b0010000, 2), 4);
    y.feed(2, 0);
    due("detected", y.detected(0, 1), 2);
    ScanDiagnose z = toggle();
    // Input 0, the states 1 and 2, state 0 and its inverse.
    due("detected", z.detected(0, 1), 5);
    // The inverse should end at 0: it does with state 0 stuck at 1, not with it stuck at 0.
    due("detected", z.detected(0, 2), 5);
  }

  private static void detectedRefusals() {
    ScanDiagnose x = new ScanDiagnose();
    int[] badPatterns = {-1, 128, LOW, HIGH};
    int[] badCycles = {-1, 0, 5, LOW, HIGH};
    for (int p : badPatterns) {
      due("detected " + p, x.detected(p, 1), -1);
      due("pattern before cycles " + p, x.detected(p, 0), -1);
    }
    for (int c : badCycles) due("detected cycles " + c, x.detected(0, c), -2);
  }

  private static void hiddenCounts() {
    ScanDiagnose x = new ScanDiagnose();
    due("hidden", x.hidden(), 6);
    x.inject(1);
    due("not against the device", x.hidden(), 6);
    x.observe(0, 1);
    due("not of the candidates alone", x.hidden(), 6);
    x.gate(AND, 1, 2);
    due("a gate that nothing reads", x.hidden(), 8);
    x.output(1, 7);
    due("a gate that is read", x.hidden(), 2);
    x.gate(XOR, 3, 3);
    x.output(0, 8);
    // Line 8 is always 0: stuck at 0 is hidden; so are the faults of input 3, and of input 0.
    due("a gate that is always 0", x.hidden(), 5);
    // State 2 is read by nothing within one cycle, though it is fed.
    ScanDiagnose y = shifter();
    due("hidden", y.hidden(), 8);
    // Stuck at 1, the lines of the OR show for pattern 0 alone; stuck at 0, those of the AND
    // for pattern 127 alone.
    due("shown by the first pattern", chain(OR).hidden(), 2);
    due("shown by the last pattern", chain(AND).hidden(), 2);
  }

  private static void leaders() {
    ScanDiagnose x = new ScanDiagnose();
    int[] lead = {0, 1, 2, 2, 2, 2, 2, 2, 8, 9, 10, 11, 12, 13};
    for (int f = 0; f < 14; f++) due("leader " + f, x.leader(f), lead[f]);
    int[] bad = {-1, 14, 42, LOW, HIGH};
    for (int f : bad) due("leader " + f, x.leader(f), -1);
    x.gate(NOT, 1, 0);
    x.output(1, 7);
    // Line 1 is seen through its inverse alone: stuck at 0 is alike to line 7 stuck at 1.
    int[] inverse = {0, 1, 2, 3, 4, 4, 4, 4, 8, 9, 10, 11, 12, 13, 3, 2};
    for (int f = 0; f < 16; f++) due("leader " + f, x.leader(f), inverse[f]);
    due("groups", x.groups(), 11);
    // State 0 is read by line 7 alone, which has its value.
    ScanDiagnose y = shifter();
    y.gate(OR, 4, 4);
    y.feed(1, 7);
    due("leader", y.leader(14), 8);
    due("leader", y.leader(15), 9);
    leadersOfMaskedFaults();
    leadersOfChains();
  }

  private static void leadersOfMaskedFaults() {
    ScanDiagnose x = new ScanDiagnose();
    // Line 7 is always 0 and masks state 0, which only line 8 reads.
    x.gate(XOR, 0, 0);
    x.gate(AND, 7, 4);
    x.feed(0, 8);
    due("leader", x.leader(8), 2);
    due("leader", x.leader(9), 2);
    due("leader", x.leader(14), 2);
    due("leader", x.leader(16), 2);
    due("line 7 stuck at 1 lets state 0 through", x.leader(15), 15);
    due("leader", x.leader(17), 17);
  }

  private static void leadersOfChains() {
    // What one pattern alone tells apart, the first or the last, is not alike.
    ScanDiagnose or = chain(OR);
    ScanDiagnose and = chain(AND);
    for (int line = 0; line <= 12; line++) {
      due("OR stuck at 1", or.leader(2 * line + 1), 1);
      due("AND stuck at 0", and.leader(2 * line), 0);
      due("AND stuck at 1", and.leader(2 * line + 1), 2 * line + 1);
      // OR stuck at 0 drops what comes before: line 12 stuck at 0 drops all.
      due("OR stuck at 0", or.leader(2 * line), 2 * line);
    }
    for (int fault = 26; fault < 28; fault++) {
      due("read by nothing", or.leader(fault), 26);
      due("read by nothing", and.leader(fault), 26);
    }
  }

  private static void groupCounts() {
    ScanDiagnose x = new ScanDiagnose();
    due("groups", x.groups(), 9);
    x.inject(1);
    x.observe(0, 1);
    due("not of the candidates alone", x.groups(), 9);
    x.gate(NOT, 1, 0);
    due("a gate that nothing reads", x.groups(), 9);
    x.output(1, 7);
    due("groups", x.groups(), 11);
    for (int k = 0; k < 3; k++) x.feed(k, 0);
    for (int k = 0; k < 2; k++) x.output(k, 0);
    due("all on input 0", x.groups(), 3);
    due("told apart by the first pattern", chain(OR).groups(), 13 + 1 + 1);
    due("told apart by the last pattern", chain(AND).groups(), 13 + 1 + 1);
  }

  private static void candidateGroupCounts() {
    ScanDiagnose x = new ScanDiagnose();
    due("candidateGroups", x.candidateGroups(), 9);
    x.observe(0, 1);
    due("candidateGroups", x.candidateGroups(), 5);
    x.observe(127, 1);
    due("candidateGroups", x.candidateGroups(), 1);
    x.inject(1);
    x.observe(0, 1);
    due("candidateGroups", x.candidateGroups(), 1);
    due("candidates", x.candidates(), 1);
    laterGroups();
  }

  private static void laterGroups() {
    ScanDiagnose x = new ScanDiagnose();
    // State 0 keeps its value through line 9, as line 8 is always 0.
    x.gate(XOR, 4, 4);
    x.gate(AND, 7, 1);
    x.gate(OR, 8, 4);
    x.feed(0, 9);
    x.inject(17);
    x.observe(0, 2);
    // Stuck at 1 are state 0, line 8 and line 9, all alike.
    due("candidates", x.candidates(), 3);
    due("candidate", x.candidate(0), 9);
    due("candidate", x.candidate(1), 17);
    due("candidate", x.candidate(2), 19);
    due("candidateGroups", x.candidateGroups(), 1);
    x.forget();
    x.observe(0b0010000, 1);
    // Left out are input 0 and the states 1 and 2 stuck at 1, and state 0 stuck at 0.
    due("groups", x.groups(), 10);
    due("candidateGroups", x.candidateGroups(), 10 - 4);
  }

  private static void questionsChangeNothing() {
    ScanDiagnose x = toggle();
    x.inject(14);
    x.observe(0, 2);
    x.observe(16, 1);
    int[] first = answers(x);
    int[] second = answers(x);
    for (int i = 0; i < first.length; i++) due("question " + i + " again", second[i], first[i]);
    due("observe", x.observe(0, 1), 0);
  }

  private static int[] answers(ScanDiagnose x) {
    return new int[] {
      x.lines(), x.observations(), x.response(5, 2), x.responseWith(3, 5, 2), x.candidates(),
      x.candidate(0), x.candidate(1), x.healthy(), x.nextPattern(), x.detected(9, 3), x.hidden(),
      x.leader(5), x.groups(), x.candidateGroups()
    };
  }
}
