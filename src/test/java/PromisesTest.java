// Each promise of the document on ordinary inputs, with answers worked out by hand; the edges
// have tests of their own in TermsEdgesTest and PromiseEdgesTest.
public final class PromisesTest extends Checks {
  private static final int AND = Circuits.AND, OR = Circuits.OR, XOR = Circuits.XOR;
  private static final int NAND = Circuits.NAND, NOR = Circuits.NOR, NOT = Circuits.NOT;

  public static void main(String[] args) {
    says("promise 1"); aNewObject();
    says("promise 2"); gatesOfGates();
    says("promise 3"); feedAnswersAndWorks();
    says("promise 4"); outputAnswersAndWorks();
    says("promise 5"); lineCounts();
    says("promise 6"); injectAnswers(); faultStays();
    says("promise 7"); observeAnswers();
    says("promise 8"); forgetAnswers();
    says("promise 9"); observationCounts();
    says("promise 10"); responses(); responseIgnoresTheDevice();
    says("promise 11"); stuckInputs(); stuckStates(); stuckGates();
    says("promise 12"); candidateCounts(); noCandidates();
    says("promise 13"); candidateOrder();
    says("promise 14"); healthyAnswers();
    says("promise 15"); nextPatterns();
    says("promise 16"); detectedCounts();
    says("promise 17"); hiddenCounts();
    says("promise 18"); leaders();
    says("promise 19"); groupCounts();
    says("promise 20"); candidateGroupCounts();
    end();
  }

  private static void aNewObject() {
    ScanDiagnose x = new ScanDiagnose();
    due("lines", x.lines(), 7);
    due("observations", x.observations(), 0);
    due("healthy", x.healthy(), 1);
    due("candidates", x.candidates(), 14);
    for (int p = 0; p < 128; p++) {
      due("response " + p, x.response(p, 1), Circuits.ofNew(p));
      due("response " + p, x.response(p, 4), Circuits.ofNew(p));
    }
    for (int p = 0; p < 20; p++) {
      due("observe " + p, x.observe(p * 6 + 5, 1), x.response(p * 6 + 5, 1));
    }
    due("healthy", x.healthy(), 1);
    for (int k = 0; k < 3; k++) due("feed " + k, x.feed(k, 4 + k), 4 + k);
    for (int k = 0; k < 2; k++) due("output " + k, x.output(k, 0), 0);
    due("gate", x.gate(AND, 0, 0), 7);
  }

  private static void gatesOfGates() {
    ScanDiagnose x = new ScanDiagnose();
    due("one line twice", x.gate(XOR, 3, 3), 7);
    due("inputs and states", x.gate(OR, 6, 3), 8);
    due("gates", x.gate(NAND, 8, 7), 9);
    x.output(0, 8);
    x.output(1, 9);
    due("response", x.response(0b0000000, 1), 16);
    due("response", x.response(0b0001000, 1), 8 + 16);
    due("response", x.response(0b1000000, 1), 4 + 8 + 16);
  }

  private static void feedAnswersAndWorks() {
    ScanDiagnose x = new ScanDiagnose();
    for (int k = 0; k < 3; k++) {
      due("feed", x.feed(k, 1 + k), 4 + k);
      due("feed again", x.feed(k, 3 - k), 1 + k);
    }
    due("response", x.response(0b0010, 1), 4);
    due("response", x.response(0b0100, 1), 2);
    due("response", x.response(0b1000, 1), 1);
    due("response", x.response(0b1110000, 1), 0);
    due("gate", x.gate(NOR, 0, 0), 7);
    due("feed a gate", x.feed(0, 7), 3);
    due("response", x.response(0, 1), 1);
  }

  private static void outputAnswersAndWorks() {
    ScanDiagnose x = new ScanDiagnose();
    due("output 0", x.output(0, 3), 0);
    due("output 1", x.output(1, 6), 0);
    due("response", x.response(0b0001000, 1), 8);
    due("response", x.response(0b1000000, 1), 4 + 16);
    due("output 0", x.output(0, 2), 3);
    due("output 1", x.output(1, 1), 6);
    due("response", x.response(0b0000100, 1), 8);
    due("response", x.response(0b0000010, 1), 16);
    due("gate", x.gate(NOR, 0, 0), 7);
    due("output a gate", x.output(1, 7), 1);
    due("response", x.response(0, 1), 16);
  }

  private static void lineCounts() {
    ScanDiagnose x = new ScanDiagnose();
    for (int i = 0; i < 14; i++) {
      due("lines", x.lines(), 7 + i);
      x.gate(AND, i, i);
    }
    due("lines", x.lines(), 21);
    x.gate(AND, 0, 0);
    due("lines", x.lines(), 21);
  }

  private static void injectAnswers() {
    ScanDiagnose x = new ScanDiagnose();
    int[] bad = {-2, 14, 42, LOW, HIGH};
    due("inject", x.inject(13), 0);
    due("observe", x.observe(0, 1), 4);
    for (int fault : bad) due("inject " + fault, x.inject(fault), -1);
    due("observations", x.observations(), 1);
    due("the fault before", x.observe(0, 1), 4);
    due("inject none", x.inject(-1), 0);
    due("observe", x.observe(0, 1), 0);
    due("inject", x.inject(0), 0);
    due("observe", x.observe(127, 1), 7);
    due("gate", x.gate(OR, 1, 2), 7);
    due("inject the new line", x.inject(15), 0);
    due("inject past the new line", x.inject(16), -1);
    x.output(0, 7);
    due("observe", x.observe(0, 1), 8);
  }

  private static void faultStays() {
    ScanDiagnose x = new ScanDiagnose();
    x.inject(3);
    x.gate(AND, 0, 1);
    x.feed(0, 7);
    x.output(0, 7);
    due("observe", x.observe(1, 1), 1 + 8 + 16);
    x.forget();
    due("observe after forget", x.observe(1, 1), 1 + 8 + 16);
  }

  private static void observeAnswers() {
    ScanDiagnose x = Circuits.toggle();
    due("observe", x.observe(0, 1), 1 + 16);
    due("observe", x.observe(0, 2), 0);
    due("observe", x.observe(17, 3), 8);
    due("observe", x.observe(127, 4), 7 + 8 + 16);
    due("observations", x.observations(), 4);
    x.inject(15);
    due("observe", x.observe(0, 1), 1 + 16);
    due("observe", x.observe(0, 2), 1 + 16);
    due("response", x.response(0, 2), 0);
  }

  private static void forgetAnswers() {
    ScanDiagnose x = new ScanDiagnose();
    due("forget", x.forget(), 0);
    x.inject(1);
    x.observe(0, 1);
    x.observe(0, 1);
    due("candidates", x.candidates(), 1);
    due("healthy", x.healthy(), 0);
    due("forget", x.forget(), 2);
    due("forget again", x.forget(), 0);
    due("observations", x.observations(), 0);
    due("candidates", x.candidates(), 14);
    due("healthy", x.healthy(), 1);
  }

  private static void observationCounts() {
    ScanDiagnose x = new ScanDiagnose();
    due("observations", x.observations(), 0);
    x.observe(5, 1);
    due("observations", x.observations(), 1);
    x.observe(5, 1);
    due("the same again", x.observations(), 2);
    x.observe(5, 0);
    due("a refused one", x.observations(), 2);
    x.response(5, 1);
    due("a question", x.observations(), 2);
  }

  private static void responses() {
    ScanDiagnose x = Circuits.toggle();
    due("response", x.response(0, 1), 1 + 16);
    due("response", x.response(0, 2), 0);
    due("response", x.response(0, 3), 1 + 16);
    due("response", x.response(0, 4), 0);
    due("response", x.response(127, 1), 6 + 8);
    due("response", x.response(127, 2), 7 + 8 + 16);
    ScanDiagnose y = Circuits.shifter();
    for (int c = 1; c <= 4; c++) {
      due("shift in 1s", y.response(1, c), (c < 3 ? (1 << c) - 1 : 7) + 24);
      due("shift in 0s", y.response(0b1110000, c), (7 << c) & 7);
    }
  }

  private static void responseIgnoresTheDevice() {
    ScanDiagnose x = new ScanDiagnose();
    x.inject(1);
    due("response", x.response(0, 1), 0);
    due("observe", x.observe(0, 1), 24);
    due("response", x.response(0, 1), 0);
  }

  private static void stuckInputs() {
    ScanDiagnose x = Circuits.shifter();
    due("input stuck at 1", x.responseWith(1, 0, 2), 3 + 24);
    due("input stuck at 0", x.responseWith(0, 127, 2), 4);
    due("input not read", x.responseWith(2, 127, 2), 7 + 24);
    x.inject(3);
    due("not the device's fault", x.responseWith(1, 0, 2), 3 + 24);
  }

  private static void stuckStates() {
    ScanDiagnose x = Circuits.shifter();
    // The line of state 0 sticks, but the state itself still gets what its feed brings.
    due("state 0 stuck at 0", x.responseWith(8, 1, 1), 1 + 24);
    due("state 0 stuck at 0", x.responseWith(8, 1, 4), 1 + 24);
    due("state 0 stuck at 1", x.responseWith(9, 0, 1), 2);
    due("state 0 stuck at 1", x.responseWith(9, 0, 4), 6);
    due("state 2 stuck, not read", x.responseWith(13, 0, 4), 0);
    ScanDiagnose y = new ScanDiagnose();
    due("state 2 fed by its own line", y.responseWith(13, 0, 1), 4);
    due("state 2 fed by its own line", y.responseWith(12, 127, 4), 3 + 24);
  }

  private static void stuckGates() {
    ScanDiagnose x = Circuits.toggle();
    due("gate stuck at 0", x.responseWith(14, 0, 1), 0);
    due("gate stuck at 0", x.responseWith(14, 0, 4), 0);
    due("gate stuck at 1", x.responseWith(15, 0, 2), 1 + 16);
    due("stuck state seen by the gate", x.responseWith(8, 16, 1), 1 + 16);
    due("stuck state seen by the gate", x.responseWith(9, 0, 3), 0);
    x.gate(NOT, 7, 0);
    x.output(0, 8);
    due("stuck gate seen by a gate", x.responseWith(14, 0, 1), 8);
    due("stuck gate seen by a gate", x.responseWith(15, 16, 1), 1 + 16);
  }

  private static void candidateCounts() {
    ScanDiagnose x = new ScanDiagnose();
    due("candidates", x.candidates(), 14);
    x.observe(0, 1);
    // All but input 0 and the states stuck at 1.
    due("candidates", x.candidates(), 10);
    x.observe(127, 1);
    // Only the inputs 1 to 3, which nothing reads.
    due("candidates", x.candidates(), 6);
    x.inject(9);
    x.observe(0b0010000, 1);
    due("candidates", x.candidates(), 10);
    x.observe(0, 1);
    due("candidates", x.candidates(), 1);
    x.gate(AND, 0, 0);
    due("candidates", x.candidates(), 16);
    ScanDiagnose y = Circuits.shifter();
    // A stuck state 0 is seen by the second cycle at the earliest, in state 1.
    y.inject(9);
    y.observe(0b0010000, 1);
    due("candidates", y.candidates(), 11);
    y.observe(0b0010000, 2);
    due("candidates", y.candidates(), 1);
  }

  private static void noCandidates() {
    ScanDiagnose x = new ScanDiagnose();
    // Every line is read: each state gets a XOR of lines, so no fault stays unseen.
    x.gate(XOR, 0, 1);
    x.gate(XOR, 7, 4);
    x.gate(XOR, 2, 3);
    x.gate(XOR, 9, 5);
    x.feed(0, 8);
    x.feed(1, 10);
    x.observe(0, 1);
    x.observe(127, 1);
    x.observe(1, 1);
    x.observe(2, 1);
    x.observe(4, 1);
    x.observe(8, 1);
    due("candidates", x.candidates(), 0);
    due("candidate", x.candidate(0), -1);
    due("nextPattern", x.nextPattern(), -1);
    due("candidateGroups", x.candidateGroups(), 0);
    due("healthy", x.healthy(), 1);
    due("observations", x.observations(), 6);
  }

  private static void candidateOrder() {
    ScanDiagnose x = new ScanDiagnose();
    for (int i = 0; i < 14; i++) due("candidate " + i, x.candidate(i), i);
    int[] bad = {-1, 14, 42, LOW, HIGH};
    for (int i : bad) due("candidate " + i, x.candidate(i), -1);
    x.observe(0, 1);
    int[] left = {0, 2, 3, 4, 5, 6, 7, 8, 10, 12};
    for (int i = 0; i < left.length; i++) due("candidate " + i, x.candidate(i), left[i]);
    due("candidate 10", x.candidate(10), -1);
    due("candidate -1", x.candidate(-1), -1);
    x.forget();
    x.gate(AND, 0, 0);
    due("candidate 15", x.candidate(15), 15);
    due("candidate 16", x.candidate(16), -1);
  }

  private static void healthyAnswers() {
    ScanDiagnose x = new ScanDiagnose();
    due("healthy", x.healthy(), 1);
    x.inject(1);
    due("nothing noted", x.healthy(), 1);
    x.observe(1, 1);
    due("not seen", x.healthy(), 1);
    x.observe(0, 1);
    due("seen", x.healthy(), 0);
    x.observe(1, 1);
    due("still noted", x.healthy(), 0);
    x.forget();
    due("forgotten", x.healthy(), 1);
    ScanDiagnose y = Circuits.shifter();
    y.inject(9);
    y.observe(0b0010001, 1);
    due("one cycle hides it", y.healthy(), 1);
    y.observe(0b0010001, 3);
    due("three cycles of 1s hide it", y.healthy(), 1);
    y.observe(0b0010000, 2);
    due("two cycles show it", y.healthy(), 0);
  }

  private static void nextPatterns() {
    ScanDiagnose x = new ScanDiagnose();
    due("nextPattern", x.nextPattern(), 0);
    x.observe(0, 1);
    due("input 0 stuck at 0 shows at 1", x.nextPattern(), 1);
    x.observe(1, 1);
    due("state 0 stuck at 0 shows at 16", x.nextPattern(), 16);
    x.observe(16, 1);
    due("state 1 stuck at 0 shows at 32", x.nextPattern(), 32);
    x.observe(32, 1);
    due("state 2 stuck at 0 shows at 64", x.nextPattern(), 64);
    x.observe(64, 1);
    due("only unread inputs", x.nextPattern(), -1);
    due("candidates", x.candidates(), 6);
    x.inject(1);
    x.observe(0, 1);
    due("a single candidate", x.nextPattern(), -1);
    due("candidates", x.candidates(), 1);
    lastNextPattern();
    nextPatternIsOneCycle();
  }

  private static void lastNextPattern() {
    ScanDiagnose x = Circuits.chain(AND);
    // A line stuck at 1 shows for a pattern with a single 0, a line stuck at 0 for 127 alone.
    for (int bit = 0; bit < 7; bit++) x.observe(127 - (1 << bit), 1);
    due("candidates", x.candidates(), 13 + 2);
    due("candidateGroups", x.candidateGroups(), 2);
    due("nextPattern", x.nextPattern(), 127);
    due("groups", x.groups(), 1 + 13 + 1);
    due("hidden", x.hidden(), 2);
    due("detected", x.detected(127, 1), 13);
    due("detected", x.detected(0, 1), 1);
    x.observe(127, 1);
    due("candidates", x.candidates(), 2);
    due("nextPattern", x.nextPattern(), -1);
  }

  private static void nextPatternIsOneCycle() {
    ScanDiagnose x = Circuits.shifter();
    x.observe(0, 1);
    x.observe(1, 1);
    // State 0 stuck at 0 would show for pattern 1 in a second cycle.
    due("two cycles", x.responseWith(8, 1, 2), 1 + 24);
    due("two cycles", x.responseWith(2, 1, 2), 3 + 24);
    due("nextPattern", x.nextPattern(), 16);
  }

  private static void detectedCounts() {
    ScanDiagnose x = new ScanDiagnose();
    // Of input 0 and the three states each, the fault against its value.
    for (int p = 0; p < 128; p++) due("detected " + p, x.detected(p, 1), 4);
    x.inject(1);
    due("not against the device", x.detected(0, 1), 4);
    ScanDiagnose y = Circuits.shifter();
    due("detected", y.detected(0, 1), 3);
    due("detected", y.detected(0, 4), 3);
    due("detected", y.detected(0b0010000, 1), 3);
    // Input 0 stuck at 1, state 0 at 0 and at 1, state 1 at 0.
    due("detected", y.detected(0b0010000, 2), 4);
    y.feed(2, 0);
    due("detected", y.detected(0, 1), 2);
    ScanDiagnose z = Circuits.toggle();
    // Input 0, the states 1 and 2, state 0 and its inverse.
    due("detected", z.detected(0, 1), 5);
    // The inverse should end at 0: it does with state 0 stuck at 1, not with it stuck at 0.
    due("detected", z.detected(0, 2), 5);
  }

  private static void hiddenCounts() {
    ScanDiagnose x = new ScanDiagnose();
    due("hidden", x.hidden(), 6);
    x.inject(1);
    due("not against the device", x.hidden(), 6);
    x.observe(0, 1);
    due("not of the candidates alone", x.hidden(), 6);
    x.gate(AND, 1, 2);
    due("a gate that nothing reads", x.hidden(), 8);
    x.output(1, 7);
    due("a gate that is read", x.hidden(), 2);
    x.gate(XOR, 3, 3);
    x.output(0, 8);
    // Line 8 is always 0: stuck at 0 is hidden; so are the faults of input 3, and of input 0.
    due("a gate that is always 0", x.hidden(), 5);
    // State 2 is read by nothing within one cycle, though it is fed.
    ScanDiagnose y = Circuits.shifter();
    due("hidden", y.hidden(), 8);
    // Stuck at 1, the lines of the OR show for pattern 0 alone; stuck at 0, those of the AND
    // for pattern 127 alone.
    due("shown by the first pattern", Circuits.chain(OR).hidden(), 2);
    due("shown by the last pattern", Circuits.chain(AND).hidden(), 2);
  }

  private static void leaders() {
    ScanDiagnose x = new ScanDiagnose();
    int[] lead = {0, 1, 2, 2, 2, 2, 2, 2, 8, 9, 10, 11, 12, 13};
    for (int f = 0; f < 14; f++) due("leader " + f, x.leader(f), lead[f]);
    int[] bad = {-1, 14, 42, LOW, HIGH};
    for (int f : bad) due("leader " + f, x.leader(f), -1);
    x.gate(NOT, 1, 0);
    x.output(1, 7);
    // Line 1 is seen through its inverse alone: stuck at 0 is alike to line 7 stuck at 1.
    int[] inverse = {0, 1, 2, 3, 4, 4, 4, 4, 8, 9, 10, 11, 12, 13, 3, 2};
    for (int f = 0; f < 16; f++) due("leader " + f, x.leader(f), inverse[f]);
    due("groups", x.groups(), 11);
    // State 0 is read by line 7 alone, which has its value.
    ScanDiagnose y = Circuits.shifter();
    y.gate(OR, 4, 4);
    y.feed(1, 7);
    due("leader", y.leader(14), 8);
    due("leader", y.leader(15), 9);
    leadersOfMaskedFaults();
    leadersOfChains();
  }

  private static void leadersOfMaskedFaults() {
    ScanDiagnose x = new ScanDiagnose();
    // Line 7 is always 0 and masks state 0, which only line 8 reads.
    x.gate(XOR, 0, 0);
    x.gate(AND, 7, 4);
    x.feed(0, 8);
    due("leader", x.leader(8), 2);
    due("leader", x.leader(9), 2);
    due("leader", x.leader(14), 2);
    due("leader", x.leader(16), 2);
    due("line 7 stuck at 1 lets state 0 through", x.leader(15), 15);
    due("leader", x.leader(17), 17);
  }

  private static void leadersOfChains() {
    // What one pattern alone tells apart, the first or the last, is not alike.
    ScanDiagnose or = Circuits.chain(OR);
    ScanDiagnose and = Circuits.chain(AND);
    for (int line = 0; line <= 12; line++) {
      due("OR stuck at 1", or.leader(2 * line + 1), 1);
      due("AND stuck at 0", and.leader(2 * line), 0);
      due("AND stuck at 1", and.leader(2 * line + 1), 2 * line + 1);
      // OR stuck at 0 drops what comes before: line 12 stuck at 0 drops all.
      due("OR stuck at 0", or.leader(2 * line), 2 * line);
    }
    for (int fault = 26; fault < 28; fault++) {
      due("read by nothing", or.leader(fault), 26);
      due("read by nothing", and.leader(fault), 26);
    }
  }

  private static void groupCounts() {
    ScanDiagnose x = new ScanDiagnose();
    due("groups", x.groups(), 9);
    x.inject(1);
    x.observe(0, 1);
    due("not of the candidates alone", x.groups(), 9);
    x.gate(NOT, 1, 0);
    due("a gate that nothing reads", x.groups(), 9);
    x.output(1, 7);
    due("groups", x.groups(), 11);
    for (int k = 0; k < 3; k++) x.feed(k, 0);
    for (int k = 0; k < 2; k++) x.output(k, 0);
    due("all on input 0", x.groups(), 3);
    due("told apart by the first pattern", Circuits.chain(OR).groups(), 13 + 1 + 1);
    due("told apart by the last pattern", Circuits.chain(AND).groups(), 13 + 1 + 1);
  }

  private static void candidateGroupCounts() {
    ScanDiagnose x = new ScanDiagnose();
    due("candidateGroups", x.candidateGroups(), 9);
    x.observe(0, 1);
    due("candidateGroups", x.candidateGroups(), 5);
    x.observe(127, 1);
    due("candidateGroups", x.candidateGroups(), 1);
    x.inject(1);
    x.observe(0, 1);
    due("candidateGroups", x.candidateGroups(), 1);
    due("candidates", x.candidates(), 1);
    laterGroups();
  }

  private static void laterGroups() {
    ScanDiagnose x = new ScanDiagnose();
    // State 0 keeps its value through line 9, as line 8 is always 0.
    x.gate(XOR, 4, 4);
    x.gate(AND, 7, 1);
    x.gate(OR, 8, 4);
    x.feed(0, 9);
    x.inject(17);
    x.observe(0, 2);
    // Stuck at 1 are state 0, line 8 and line 9, all alike.
    due("candidates", x.candidates(), 3);
    due("candidate", x.candidate(0), 9);
    due("candidate", x.candidate(1), 17);
    due("candidate", x.candidate(2), 19);
    due("candidateGroups", x.candidateGroups(), 1);
    x.forget();
    x.observe(0b0010000, 1);
    // Left out are input 0 and the states 1 and 2 stuck at 1, and state 0 stuck at 0.
    due("groups", x.groups(), 10);
    due("candidateGroups", x.candidateGroups(), 10 - 4);
  }

}
