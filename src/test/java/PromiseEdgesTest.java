// The boundary cases that the promises name: a test for each sentence, under the sentence's own
// words, with the number of its promise before them.
public final class PromiseEdgesTest extends Checks {
  private static final int AND = Circuits.AND, XOR = Circuits.XOR, NOT = Circuits.NOT;

  public static void main(String[] args) {
    newObject();
    gateKind(); gateLines(); gateNot(); gateRoom(); gateAnswer();
    feedState(); feedLine(); feedBefore();
    outputNumber(); outputLine(); outputBefore();
    lineCount();
    injectNone(); injectFault();
    observePattern(); observeCycles(); observeRoom(); observeAnswer();
    forgetAnswer();
    observationCount();
    responsePattern(); responseCycles(); responseSound();
    responseWithFault(); responseWithPattern(); responseWithCycles();
    candidateCount();
    candidateNumber();
    healthyAnswer();
    nextPatternNone(); nextPatternLeast();
    detectedPattern(); detectedCycles(); detectedCount();
    hiddenCount();
    leaderFault(); leaderLeast();
    groupCount();
    candidateGroupCount();
    end();
  }

  /** A new object with 14 gates, read by nothing: all but input 0 and the states are unread. */
  private static ScanDiagnose unreadGates() {
    ScanDiagnose x = new ScanDiagnose();
    for (int line = 7; line <= 20; line++) x.gate(AND, 0, line - 1);
    return x;
  }

  /** All faults but one are hidden: the only line that is seen, line 7, is always 0. */
  private static ScanDiagnose constant() {
    ScanDiagnose x = new ScanDiagnose();
    for (int line = 7; line <= 20; line++) x.gate(XOR, 0, 0);
    Circuits.showAlone(x, 7);
    return x;
  }

  private static void newObject() {
    says("1: No gates at first; the device has no fault.");
    ScanDiagnose x = new ScanDiagnose();
    due("lines", x.lines(), 7);
    due("observations", x.observations(), 0);
    due("candidates", x.candidates(), 14);
    due("healthy", x.healthy(), 1);
    due("forget", x.forget(), 0);
    int[] patterns = {0, 1, 16, 32, 64, 126, 127};
    for (int p : patterns) due("observe " + p, x.observe(p, 1), Circuits.ofNew(p));
    due("healthy", x.healthy(), 1);
    due("two objects share nothing", new ScanDiagnose().observations(), 0);
  }

  private static void gateKind() {
    says("2: -1 if kind is not in 0 .. 5");
    ScanDiagnose x = new ScanDiagnose();
    for (int kind : outside(0, 5)) due("kind " + kind, x.gate(kind, 0, 0), -1);
    due("lines", x.lines(), 7);
    due("kind 0", x.gate(0, 0, 0), 7);
    due("kind 5", x.gate(5, 0, 0), 8);
  }

  private static void gateLines() {
    says("2: -2 if a or b is not good");
    for (int kind = 0; kind < NOT; kind++) {
      ScanDiagnose x = new ScanDiagnose();
      for (int line : outside(0, 6)) {
        due("a " + line, x.gate(kind, line, 0), -2);
        due("b " + line, x.gate(kind, 0, line), -2);
        due("both " + line, x.gate(kind, line, line), -2);
      }
      due("lines", x.lines(), 7);
      due("the first and the last line", x.gate(kind, 0, 6), 7);
      due("the last and the first line", x.gate(kind, 7, 0), 8);
    }
  }

  private static void gateNot() {
    says("2: (for NOT: only a is looked at)");
    for (int b : outside(0, 6)) {
      ScanDiagnose x = new ScanDiagnose();
      due("a of NOT " + b, x.gate(NOT, b, 0), -2);
      due("both of NOT " + b, x.gate(NOT, b, b), -2);
      due("b of NOT " + b, x.gate(NOT, 6, b), 7);
      due("b of NOT " + b, x.gate(NOT, 0, b), 8);
      x.output(0, 7);
      x.output(1, 8);
      due("both inverses", x.response(0, 1), 24);
      due("both inverses", x.response(1, 4), 8);
      due("both inverses", x.response(64, 4), 4 + 16);
      due("both inverses", x.response(65, 1), 4);
      due("a stuck inverse", x.responseWith(16, 0, 1), 8);
      // Two each for input 0 with its inverse, the states, and the inverse of state 2.
      due("groups", x.groups(), 2 + 6 + 2 + 1);
    }
  }

  private static void gateRoom() {
    says("2: -3 if there are 14 gates");
    ScanDiagnose x = new ScanDiagnose();
    for (int line = 7; line <= 19; line++) x.gate(AND, 0, 0);
    due("the 14th gate", x.gate(AND, 19, 19), 20);
    for (int kind = 0; kind <= 5; kind++) due("the 15th gate", x.gate(kind, 20, 20), -3);
    due("the 15th gate", x.gate(NOT, 0, LOW), -3);
    due("lines", x.lines(), 21);
    x.feed(0, 20);
    x.inject(1);
    x.observe(0, 1);
    x.forget();
    due("there is never room again", x.gate(AND, 0, 0), -3);
  }

  private static void gateAnswer() {
    says("2: otherwise answers its line");
    ScanDiagnose x = new ScanDiagnose();
    for (int line = 7; line <= 20; line++) due("gate", x.gate(line % 6, line - 1, 0), line);
  }

  private static void feedState() {
    says("3: -1 if k is not in 0 .. 2");
    ScanDiagnose x = new ScanDiagnose();
    for (int k : outside(0, 2)) due("feed of state " + k, x.feed(k, 0), -1);
    for (int k = 0; k < 3; k++) due("feed of state " + k, x.feed(k, 0), 4 + k);
  }

  private static void feedLine() {
    says("3: -2 if line is not good");
    for (int k = 0; k < 3; k++) {
      ScanDiagnose x = new ScanDiagnose();
      for (int line : outside(0, 6)) due("feed from " + line, x.feed(k, line), -2);
      due("feed from the first line", x.feed(k, 0), 4 + k);
      due("feed from the last line", x.feed(k, 6), 0);
      ScanDiagnose y = unreadGates();
      for (int line : outside(0, 20)) due("feed from " + line, y.feed(k, line), -2);
      due("feed from the last line", y.feed(k, 20), 4 + k);
      due("feed from the first line", y.feed(k, 0), 20);
    }
  }

  private static void feedBefore() {
    says("3: otherwise answers the line before");
    ScanDiagnose x = unreadGates();
    for (int k = 0; k < 3; k++) {
      int before = 4 + k;
      for (int line = 0; line <= 20; line++) {
        due("feed " + k, x.feed(k, line), before);
        due("the same again", x.feed(k, line), line);
        before = line;
      }
    }
  }

  private static void outputNumber() {
    says("4: -1 if k is not 0 or 1");
    ScanDiagnose x = new ScanDiagnose();
    for (int k : outside(0, 1)) due("output " + k, x.output(k, 1), -1);
    for (int k = 0; k < 2; k++) due("output " + k, x.output(k, 1), 0);
  }

  private static void outputLine() {
    says("4: -2 if line is not good");
    for (int k = 0; k < 2; k++) {
      ScanDiagnose x = new ScanDiagnose();
      for (int line : outside(0, 6)) due("output of " + line, x.output(k, line), -2);
      due("output of the last line", x.output(k, 6), 0);
      due("output of the first line", x.output(k, 0), 6);
      ScanDiagnose y = unreadGates();
      for (int line : outside(0, 20)) due("output of " + line, y.output(k, line), -2);
      due("output of the last line", y.output(k, 20), 0);
      due("output of the first line", y.output(k, 0), 20);
    }
  }

  private static void outputBefore() {
    says("4: otherwise answers the line before");
    ScanDiagnose x = unreadGates();
    for (int k = 0; k < 2; k++) {
      int before = 0;
      for (int line = 20; line >= 0; line--) {
        due("output " + k, x.output(k, line), before);
        due("the same again", x.output(k, line), line);
        before = line;
      }
    }
  }

  private static void lineCount() {
    says("5: How many lines there are.");
    ScanDiagnose x = new ScanDiagnose();
    due("no gate", x.lines(), 7);
    x.gate(AND, 7, 0);
    due("a refused gate", x.lines(), 7);
    x.gate(AND, 0, 0);
    due("one gate", x.lines(), 8);
    ScanDiagnose y = unreadGates();
    due("14 gates", y.lines(), 21);
    y.gate(AND, 0, 0);
    due("a 15th gate refused", y.lines(), 21);
  }

  private static void injectNone() {
    says("6: or none for -1");
    ScanDiagnose x = new ScanDiagnose();
    due("none while there is none", x.inject(-1), 0);
    due("observe", x.observe(0, 1), 0);
    x.inject(1);
    due("observe", x.observe(0, 1), 24);
    due("none", x.inject(-1), 0);
    for (int p : new int[] {0, 1, 126, 127}) due("observe", x.observe(p, 4), Circuits.ofNew(p));
    due("healthy", x.healthy(), 1);
  }

  private static void injectFault() {
    says("6: -1 if fault is neither -1 nor good; otherwise 0");
    ScanDiagnose x = new ScanDiagnose();
    due("the last fault", x.inject(13), 0);
    due("observe", x.observe(0, 1), 4);
    for (int fault : outside(-1, 13)) due("fault " + fault, x.inject(fault), -1);
    due("the fault before stays", x.observe(0, 1), 4);
    due("the first fault", x.inject(0), 0);
    due("observe", x.observe(127, 1), 7);
    ScanDiagnose y = unreadGates();
    y.output(1, 20);
    due("the last fault", y.inject(41), 0);
    due("observe", y.observe(0, 1), 16);
    for (int fault : outside(-1, 41)) due("fault " + fault, y.inject(fault), -1);
    due("the fault before stays", y.observe(0, 1), 16);
  }

  private static void observePattern() {
    says("7: -1 if pattern is not good");
    ScanDiagnose x = new ScanDiagnose();
    for (int p : outside(0, 127)) due("observe " + p, x.observe(p, 1), -1);
    due("observations", x.observations(), 0);
    due("observe 0", x.observe(0, 1), 0);
    due("observe 127", x.observe(127, 1), 31);
    due("observations", x.observations(), 2);
  }

  private static void observeCycles() {
    says("7: -2 if cycles is not in 1 .. 4");
    ScanDiagnose x = Circuits.ring();
    for (int c : outside(1, 4)) due("observe for " + c, x.observe(0, c), -2);
    due("observations", x.observations(), 0);
    due("observe for 1", x.observe(0, 1), 1);
    due("observe for 4", x.observe(0, 4), 6);
    due("observations", x.observations(), 2);
  }

  private static void observeRoom() {
    says("7: -3 if 20 observations are noted");
    ScanDiagnose x = new ScanDiagnose();
    for (int i = 1; i <= 20; i++) due("observe " + i, x.observe(0, 1), 0);
    due("observe 21", x.observe(0, 1), -3);
    due("observe 21", x.observe(127, 4), -3);
    due("observations", x.observations(), 20);
    due("candidates", x.candidates(), 10);
    due("forget", x.forget(), 20);
    due("observe once forgotten", x.observe(127, 4), 31);
  }

  private static void observeAnswer() {
    says("7: otherwise answers the device's response");
    ScanDiagnose x = Circuits.ring();
    x.inject(15);
    int[] ones = {1, 3, 7, 7};
    for (int c = 1; c <= 4; c++) due("observe for " + c, x.observe(0, c), ones[c - 1]);
    x.inject(-1);
    int[] sound = {1, 3, 7, 6};
    for (int c = 1; c <= 4; c++) due("observe for " + c, x.observe(0, c), sound[c - 1]);
  }

  private static void forgetAnswer() {
    says("8: Drops all observations; answers how many there were.");
    ScanDiagnose x = new ScanDiagnose();
    due("none", x.forget(), 0);
    x.inject(1);
    x.observe(0, 1);
    due("one", x.forget(), 1);
    due("none again", x.forget(), 0);
    for (int i = 0; i < 21; i++) x.observe(0, 1);
    due("candidates", x.candidates(), 1);
    due("healthy", x.healthy(), 0);
    due("as many as fit", x.forget(), 20);
    due("observations", x.observations(), 0);
    due("candidates", x.candidates(), 14);
    due("candidateGroups", x.candidateGroups(), 9);
    due("nextPattern", x.nextPattern(), 0);
    due("healthy", x.healthy(), 1);
  }

  private static void observationCount() {
    says("9: How many observations are noted.");
    ScanDiagnose x = new ScanDiagnose();
    due("none", x.observations(), 0);
    x.observe(128, 1);
    x.observe(0, 0);
    due("refused ones", x.observations(), 0);
    for (int i = 1; i <= 20; i++) {
      x.observe(0, 1);
      due("observations", x.observations(), i);
    }
    x.observe(0, 1);
    due("the 21st", x.observations(), 20);
  }

  private static void responsePattern() {
    says("10: -1 if pattern is not good");
    ScanDiagnose x = new ScanDiagnose();
    for (int p : outside(0, 127)) due("response " + p, x.response(p, 1), -1);
    due("response 0", x.response(0, 1), 0);
    due("response 127", x.response(127, 1), 31);
  }

  private static void responseCycles() {
    says("10: -2 if cycles is not in 1 .. 4");
    ScanDiagnose x = Circuits.ring();
    for (int c : outside(1, 4)) due("response for " + c, x.response(0, c), -2);
    due("response for 1", x.response(0, 1), 1);
    due("response for 4", x.response(0, 4), 6);
  }

  private static void responseSound() {
    says("10: The response of the circuit without a fault.");
    ScanDiagnose x = Circuits.ring();
    x.inject(15);
    int[] sound = {1, 3, 7, 6};
    for (int c = 1; c <= 4; c++) due("response for " + c, x.response(0, c), sound[c - 1]);
    due("observe for 4", x.observe(0, 4), 7);
    due("response for 4", x.response(0, 4), 6);
  }

  private static void responseWithFault() {
    says("11: -1 if fault is not good");
    ScanDiagnose x = new ScanDiagnose();
    for (int f : outside(0, 13)) due("fault " + f, x.responseWith(f, 0, 1), -1);
    due("fault 0", x.responseWith(0, 1, 1), 0);
    due("fault 13", x.responseWith(13, 0, 1), 4);
    ScanDiagnose y = unreadGates();
    y.output(1, 20);
    for (int f : outside(0, 41)) due("fault " + f, y.responseWith(f, 0, 1), -1);
    due("fault 0", y.responseWith(0, 1, 1), 0);
    due("fault 41", y.responseWith(41, 0, 1), 16);
  }

  private static void responseWithPattern() {
    says("11: -2 if pattern is not good");
    ScanDiagnose x = new ScanDiagnose();
    for (int p : outside(0, 127)) due("pattern " + p, x.responseWith(0, p, 1), -2);
    due("pattern 0", x.responseWith(1, 0, 1), 24);
    due("pattern 127", x.responseWith(0, 127, 1), 7);
  }

  private static void responseWithCycles() {
    says("11: -3 if cycles is not in 1 .. 4");
    ScanDiagnose x = Circuits.ring();
    for (int c : outside(1, 4)) due("cycles " + c, x.responseWith(15, 0, c), -3);
    due("cycles 1", x.responseWith(15, 0, 1), 1);
    due("cycles 4", x.responseWith(15, 0, 4), 7);
  }

  private static void candidateCount() {
    says("12: How many candidates there are.");
    due("all of the least circuit", new ScanDiagnose().candidates(), 14);
    ScanDiagnose x = unreadGates();
    due("all of the greatest circuit", x.candidates(), 42);
    x.inject(1);
    x.observe(0, 1);
    due("one", x.candidates(), 1);
    ScanDiagnose y = Circuits.longPath();
    y.observe(0, 1);
    due("one of each line", y.candidates(), 21);
    y.observe(127, 1);
    // The lines 7, 9 and 11 join an even number of lines, so that they are 0 for both.
    due("some", y.candidates(), 3);
    for (int bit = 0; bit < 7; bit++) y.observe(1 << bit, 1);
    due("none", y.candidates(), 0);
  }

  private static void candidateNumber() {
    says("13: (0 for the first); -1 if there is no such one");
    ScanDiagnose x = unreadGates();
    for (int i = 0; i < 42; i++) due("candidate " + i, x.candidate(i), i);
    for (int i : outside(0, 41)) due("candidate " + i, x.candidate(i), -1);
    x.observe(0, 1);
    // Left out are 1, 9, 11 and 13.
    int[] left = {0, 2, 3, 4, 5, 6, 7, 8, 10, 12, 14};
    for (int i = 0; i < left.length; i++) due("candidate " + i, x.candidate(i), left[i]);
    due("the last", x.candidate(37), 41);
    for (int i : outside(0, 37)) due("candidate " + i, x.candidate(i), -1);
    x.inject(13);
    x.observe(0, 1);
    due("the only one", x.candidate(0), 13);
    for (int i : outside(0, 0)) due("candidate " + i, x.candidate(i), -1);
    ScanDiagnose y = Circuits.longPath();
    for (int bit = 0; bit < 7; bit++) y.observe(1 << bit, 1);
    y.observe(0, 1);
    y.observe(127, 1);
    for (int i = -1; i <= 42; i++) due("candidate of none, " + i, y.candidate(i), -1);
  }

  private static void healthyAnswer() {
    says("14: 1 if the circuit without a fault would have given all noted responses, otherwise 0");
    ScanDiagnose x = new ScanDiagnose();
    x.inject(1);
    due("nothing noted", x.healthy(), 1);
    // One telling observation among 20, at each place.
    for (int telling = 1; telling <= 20; telling++) {
      for (int i = 1; i <= 20; i++) x.observe(i == telling ? 0 : 1, 1);
      due("told by observation " + telling, x.healthy(), 0);
      x.forget();
    }
    for (int i = 1; i <= 20; i++) x.observe(1, 1);
    due("no telling one", x.healthy(), 1);
    ScanDiagnose y = new ScanDiagnose();
    y.inject(3);
    y.observe(0, 1);
    due("a hidden fault", y.healthy(), 1);
    ScanDiagnose z = Circuits.longPath();
    for (int bit = 0; bit < 7; bit++) z.observe(1 << bit, 1);
    z.observe(0, 1);
    z.observe(127, 1);
    due("no candidate, no fault", z.candidates(), 0);
    due("no candidate, no fault", z.healthy(), 1);
  }

  private static void nextPatternNone() {
    says("15: -1 if there is none");
    ScanDiagnose x = new ScanDiagnose();
    x.observe(0, 1);
    x.observe(127, 1);
    due("candidates", x.candidates(), 6);
    due("all alike", x.nextPattern(), -1);
    x.inject(1);
    x.observe(0, 1);
    due("candidates", x.candidates(), 1);
    due("a single one", x.nextPattern(), -1);
    ScanDiagnose y = Circuits.longPath();
    for (int bit = 0; bit < 7; bit++) y.observe(1 << bit, 1);
    y.observe(0, 1);
    y.observe(127, 1);
    due("candidates", y.candidates(), 0);
    due("no candidate", y.nextPattern(), -1);
  }

  private static void nextPatternLeast() {
    says("15: The least pattern for which, run for one cycle, not all candidates give the same response");
    due("the first pattern", new ScanDiagnose().nextPattern(), 0);
    ScanDiagnose x = Circuits.chain(AND);
    for (int bit = 0; bit < 7; bit++) x.observe(127 - (1 << bit), 1);
    due("the last pattern", x.nextPattern(), 127);
    ScanDiagnose y = new ScanDiagnose();
    y.observe(0, 1);
    due("the least of many", y.nextPattern(), 1);
    ScanDiagnose w = new ScanDiagnose();
    // Left are input 0 stuck at 1, the unread inputs, and line 7 stuck at 0, which for pattern 0
    // give 8, 16 and 0: none of the first two is 0.
    w.output(1, w.gate(NOT, 0, 0));
    w.inject(3);
    w.observe(113, 1);
    w.observe(1, 1);
    due("candidates", w.candidates(), 6 + 2);
    due("0 is given by the last candidate alone", w.nextPattern(), 0);
    ScanDiagnose z = constant();
    // The first 41 candidates give the same; the last fault alone differs, for all patterns.
    Circuits.showAlone(z, 20);
    due("the last candidate alone differs", z.nextPattern(), 0);
    z.observe(0, 1);
    due("candidates", z.candidates(), 41);
    due("nextPattern", z.nextPattern(), -1);
  }

  private static void detectedPattern() {
    says("16: -1 if pattern is not good");
    ScanDiagnose x = new ScanDiagnose();
    for (int p : outside(0, 127)) due("detected " + p, x.detected(p, 1), -1);
    due("detected 0", x.detected(0, 1), 4);
    due("detected 127", x.detected(127, 1), 4);
  }

  private static void detectedCycles() {
    says("16: -2 if cycles is not in 1 .. 4");
    ScanDiagnose x = Circuits.ring();
    for (int c : outside(1, 4)) due("detected for " + c, x.detected(0, c), -2);
    due("detected for 1", x.detected(0, 1), 5);
    due("detected for 4", x.detected(0, 4), 8);
  }

  private static void detectedCount() {
    says("16: How many faults give another response than the circuit without a fault");
    ScanDiagnose x = Circuits.longPath();
    for (int p = 0; p < 128; p++) due("one of each line, for " + p, x.detected(p, 1), 21);
    ScanDiagnose y = constant();
    for (int c = 1; c <= 4; c++) due("line 7 stuck at 1 alone", y.detected(127, c), 1);
    y.inject(15);
    due("the device does not count", y.detected(0, 1), 1);
    y.observe(0, 1);
    due("the candidates do not count", y.detected(0, 1), 1);
  }

  private static void hiddenCount() {
    says("17: How many faults give the same response as the circuit without a fault for all 128 patterns");
    due("none", Circuits.longPath().hidden(), 0);
    ScanDiagnose x = constant();
    due("all but one", x.hidden(), 41);
    x.inject(15);
    due("the device does not count", x.hidden(), 41);
    x.observe(0, 1);
    due("the candidates do not count", x.hidden(), 41);
    due("shown by the first pattern alone", Circuits.detector(0).hidden(), 2);
    due("shown by the last pattern alone", Circuits.detector(127).hidden(), 2);
  }

  private static void leaderFault() {
    says("18: -1 if fault is not good");
    ScanDiagnose x = new ScanDiagnose();
    for (int f : outside(0, 13)) due("leader " + f, x.leader(f), -1);
    due("leader 0", x.leader(0), 0);
    due("leader 13", x.leader(13), 13);
    ScanDiagnose y = unreadGates();
    for (int f : outside(0, 41)) due("leader " + f, y.leader(f), -1);
    due("leader 0", y.leader(0), 0);
    due("leader 41", y.leader(41), 2);
  }

  private static void leaderLeast() {
    says("18: The least fault that is alike to this one");
    ScanDiagnose x = constant();
    for (int f = 0; f < 42; f++) due("all but one alike, " + f, x.leader(f), f == 15 ? 15 : 0);
    ScanDiagnose y = Circuits.longPath();
    // Up to line 12 no two are alike; each NOT after it turns the fault of the line before.
    for (int line = 0; line <= 20; line++) {
      for (int value = 0; value <= 1; value++) {
        int turned = line <= 12 ? value : (value + line) % 2;
        due("line " + line + " at " + value, y.leader(2 * line + value), 2 * Math.min(line, 12) + turned);
      }
    }
  }

  private static void groupCount() {
    says("19: How many groups of alike faults there are.");
    ScanDiagnose x = constant();
    due("the hidden ones, and one", x.groups(), 2);
    x.inject(15);
    x.observe(0, 1);
    due("candidates", x.candidates(), 1);
    due("also those without a candidate", x.groups(), 2);
    due("two for each line up to 12", Circuits.longPath().groups(), 26);
    due("a new object", new ScanDiagnose().groups(), 9);
  }

  private static void candidateGroupCount() {
    says("20: How many groups of alike faults have a candidate.");
    ScanDiagnose x = Circuits.longPath();
    due("nothing noted", x.candidateGroups(), 26);
    x.observe(0, 1);
    due("one of each line up to 12", x.candidateGroups(), 13);
    for (int bit = 0; bit < 7; bit++) x.observe(1 << bit, 1);
    x.observe(127, 1);
    due("candidates", x.candidates(), 0);
    due("none", x.candidateGroups(), 0);
    ScanDiagnose y = constant();
    due("nothing noted", y.candidateGroups(), 2);
    y.observe(0, 1);
    due("candidates", y.candidates(), 41);
    due("a group counts once", y.candidateGroups(), 1);
    y.inject(15);
    y.observe(0, 1);
    due("candidates", y.candidates(), 1);
    due("a group of one", y.candidateGroups(), 1);
  }
}
