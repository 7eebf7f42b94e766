import java.util.ArrayList;
import java.util.Collections;
import java.util.List;
import java.util.function.IntConsumer;
import java.util.function.Supplier;
import java.util.function.ToIntFunction;

// The boundary cases that the document names before its promises: a test for each sentence,
// under the sentence's own words.
public final class TermsEdgesTest extends Checks {
  private static final int AND = Circuits.AND, OR = Circuits.OR, NOT = Circuits.NOT;

  public static void main(String[] args) {
    calls();
    inputsAndStates(); gatesMakeLines(); gatesAtMost(); earlierLines(); kinds(); firstFeedsAndOutputs();
    patterns(); patternBits(); cyclesTaken(); cyclesRun(); inputsEveryCycle(); gatesInOrder();
    statesAtOnce(); responseBits();
    faultNumbers(); stuckEveryCycle(); stuckState(); readersOfStuckLines();
    oneFaultOrNone(); observationsNoted(); observationsAtMost(); candidatesForEvery();
    droppedByAccepted(); keptByRefused(); roomOnceDropped(); deviceFaultStays();
    alikeForAllPatterns(); alikeForOneCycle();
    noQuestionChanges(); noRefusedCallChanges(); orderOfTests(); goodLines(); goodFaults();
    end();
  }

  private static void calls() {
    says("An object is used for at most 512 calls after it has been made");
    ScanDiagnose x = new ScanDiagnose();
    for (int i = 0; i < 255; i++) {
      due("observe", x.observe(i % 128, 1), Circuits.ofNew(i % 128));
      due("forget", x.forget(), 1);
    }
    due("call 511", x.gate(NOT, 0, 0), 7);
    due("call 512", x.lines(), 8);
    ScanDiagnose y = Circuits.full();
    // Forty calls made it: the last of these is the 512th.
    for (int i = 41; i <= 511; i++) due("call " + i, y.observe(0, 1), -3);
    due("call 512", y.forget(), 20);
  }

  private static void inputsAndStates() {
    says("the lines 0 .. 3 are the inputs, 4 .. 6 the states");
    ScanDiagnose x = new ScanDiagnose();
    for (int line = 0; line <= 6; line++) {
      x.output(1, line);
      due("line " + line + " at 1", x.response(1 << line, 1) >> 4, 1);
      due("line " + line + " at 0", x.response(127 - (1 << line), 1) >> 4, 0);
    }
    due("there is no line 7", x.output(1, 7), -2);
  }

  private static void gatesMakeLines() {
    says("every gate that is put in makes the next line (7, 8, ..)");
    ScanDiagnose x = new ScanDiagnose();
    due("gate", x.gate(AND, 0, 0), 7);
    due("a refused gate", x.gate(AND, 8, 0), -2);
    due("gate", x.gate(AND, 7, 0), 8);
    due("gate", x.gate(NOT, 8, 8), 9);
    due("lines", x.lines(), 10);
  }

  private static void gatesAtMost() {
    says("at most 14 gates, so at most 21 lines");
    ScanDiagnose x = new ScanDiagnose();
    for (int line = 7; line <= 20; line++) {
      due("lines", x.lines(), line);
      due("gate", x.gate(OR, line - 7, line - 1), line);
    }
    due("the 15th gate", x.gate(OR, 0, 0), -3);
    due("lines", x.lines(), 21);
    due("the last line is there", x.feed(0, 20), 4);
    due("no line after it", x.feed(0, 21), -2);
    due("the last line is there", x.output(1, 20), 0);
    due("no line after it", x.output(1, 21), -2);
    // Line 20 is the OR of all inputs and states.
    due("response", x.response(0, 1), 0);
    due("response", x.response(2, 1), 1 + 16);
    due("the last fault", x.responseWith(41, 0, 1), 1 + 16);
    due("no fault after it", x.responseWith(42, 0, 1), -1);
  }

  private static void earlierLines() {
    says("A gate has a kind and two earlier lines a and b");
    ScanDiagnose x = new ScanDiagnose();
    for (int own = 7; own <= 20; own++) {
      due("its own line as a", x.gate(AND, own, 0), -2);
      due("its own line as b", x.gate(AND, 0, own), -2);
      due("its own line as a of NOT", x.gate(NOT, own, 0), -2);
      due("the line before as both", x.gate(AND, own - 1, own - 1), own);
    }
  }

  private static void kinds() {
    says("AND 0, OR 1, XOR 2, NAND 3, NOR 4 of them, NOT 5 of a alone");
    // Bit a + 2 * b of a table is the gate's value.
    int[] table = {0b1000, 0b1110, 0b0110, 0b0111, 0b0001, 0b0101};
    for (int kind = 0; kind <= 5; kind++) {
      ScanDiagnose x = new ScanDiagnose();
      x.gate(kind, 2, 6);
      x.output(0, 7);
      for (int a = 0; a <= 1; a++) {
        for (int b = 0; b <= 1; b++) {
          int value = table[kind] >> (a + 2 * b) & 1;
          due("kind " + kind + " of " + a + ", " + b, x.response(4 * a + 64 * b, 1), 4 * b + 8 * value);
        }
      }
    }
  }

  private static void firstFeedsAndOutputs() {
    says("(the state's own line 4 + k at first), and there are two OUTPUT lines (line 0 both, at first)");
    ScanDiagnose x = new ScanDiagnose();
    for (int p = 0; p < 128; p++) due("response " + p, x.response(p, 1), Circuits.ofNew(p));
    for (int k = 0; k < 3; k++) due("feed " + k, x.feed(k, 0), 4 + k);
    for (int k = 0; k < 2; k++) due("output " + k, x.output(k, 6), 0);
  }

  private static void patterns() {
    says("A PATTERN is a number 0 .. 127");
    ScanDiagnose x = new ScanDiagnose();
    for (int p = 0; p <= 127; p += 127) {
      due("observe " + p, x.observe(p, 1), Circuits.ofNew(p));
      due("response " + p, x.response(p, 1), Circuits.ofNew(p));
      due("responseWith " + p, x.responseWith(2, p, 1), Circuits.ofNew(p));
      due("detected " + p, x.detected(p, 1), 4);
    }
    for (int p : outside(0, 127)) {
      due("observe " + p, x.observe(p, 1), -1);
      due("response " + p, x.response(p, 1), -1);
      due("responseWith " + p, x.responseWith(2, p, 1), -2);
      due("detected " + p, x.detected(p, 1), -1);
    }
    due("observations", x.observations(), 2);
  }

  private static void patternBits() {
    says("its bits 0 .. 3 are the values of the inputs, its bits 4 .. 6 the starting values of the states");
    ScanDiagnose x = Circuits.shifter();
    x.output(0, 3);
    x.output(1, 6);
    due("input 0, the lowest bit", x.response(1, 1), 1);
    due("input 3", x.response(8, 4), 8);
    due("state 0 starts at 1", x.response(16, 1), 2);
    due("state 2, the highest bit", x.response(64, 1), 16);
    due("state 2 only starts at 1", x.response(64, 2), 0);
  }

  private static void cyclesTaken() {
    says("RUNNING a pattern for c CYCLES (1 to 4)");
    ScanDiagnose x = Circuits.ring();
    for (int c : outside(1, 4)) {
      due("observe for " + c, x.observe(0, c), -2);
      due("response for " + c, x.response(0, c), -2);
      due("responseWith for " + c, x.responseWith(2, 0, c), -3);
      due("detected for " + c, x.detected(0, c), -2);
    }
    due("observations", x.observations(), 0);
  }

  private static void cyclesRun() {
    says("in every cycle all lines get their values");
    ScanDiagnose x = Circuits.ring();
    // The ring's states after each cycle, and how many faults show there.
    int[] states = {1, 3, 7, 6};
    for (int c = 1; c <= 4; c++) {
      due("response for " + c, x.response(0, c), states[c - 1]);
      due("observe for " + c, x.observe(0, c), states[c - 1]);
      due("responseWith for " + c, x.responseWith(2, 0, c), states[c - 1]);
    }
    // Input 0, the states 0 to 2 and line 7, each against its value.
    due("detected for 1", x.detected(0, 1), 5);
    // State 0 stuck at 1 ends as no fault does; both faults of each line after it show, and of
    // input 0 and state 0 one each.
    due("detected for 4", x.detected(0, 4), 2 + 2 + 2 + 1 + 1);
  }

  private static void inputsEveryCycle() {
    says("inputs as in the pattern, states as they are");
    ScanDiagnose x = Circuits.shifter();
    for (int c = 1; c <= 4; c++) {
      due("ones go in for " + c, x.response(1, c), (c < 3 ? (1 << c) - 1 : 7) + 24);
      due("zeros go in for " + c, x.response(0b1110000, c), 7 << c & 7);
    }
  }

  private static void gatesInOrder() {
    says("gates in the order of their lines");
    ScanDiagnose x = new ScanDiagnose();
    // Line 20 is input 0 turned over 14 times, all within one cycle.
    for (int line = 7; line <= 20; line++) x.gate(NOT, line == 7 ? 0 : line - 1, 0);
    x.output(0, 19);
    x.output(1, 20);
    due("input 0 at 1", x.response(1, 1), 16);
    due("input 0 at 0", x.response(0, 1), 8);
    due("input 0 at 1 again", x.response(1, 1), 16);
  }

  private static void statesAtOnce() {
    says("at the end of the cycle all states get the values of their feeds at once");
    ScanDiagnose x = new ScanDiagnose();
    // Had one state its value before the other's feed is read, the two would become equal.
    x.feed(0, 5);
    x.feed(1, 4);
    for (int c = 1; c <= 4; c++) {
      due("a 1 changes places", x.response(0b0010000, c), c % 2 == 1 ? 2 : 1);
      due("a 1 changes places", x.response(0b0100000, c), c % 2 == 1 ? 1 : 2);
    }
    x.feed(1, 6);
    x.feed(2, 4);
    int[] round = {4, 2, 1, 4};
    for (int c = 1; c <= 4; c++) due("a 1 goes round", x.response(0b0010000, c), round[c - 1]);
  }

  private static void responseBits() {
    says("bits 0 .. 2 are the values that the states got at the end of the last cycle, and whose "
        + "bits 3 and 4 are the values of the output lines 0 and 1 in the last cycle");
    ScanDiagnose x = Circuits.toggle();
    x.output(0, 4);
    x.output(1, 1);
    // Output 0 shows state 0 as it was in the cycle, bit 0 as it is after the cycle.
    for (int c = 1; c <= 4; c++) due("toggle for " + c, x.response(0, c), c % 2 == 1 ? 1 : 8);
    ScanDiagnose y = new ScanDiagnose();
    y.output(1, 3);
    int[] bits = {8, 0, 0, 16, 1, 2, 4};
    for (int line = 0; line < 7; line++) due("bit of line " + line, y.response(1 << line, 1), bits[line]);
    due("all bits", y.response(127, 4), 31);
    due("no bit", y.response(0, 4), 0);
  }

  private static void faultNumbers() {
    says("fault 2 * line + value, for the lines that there are");
    ScanDiagnose x = new ScanDiagnose();
    for (int line = 7; line <= 20; line++) x.gate(line % 6, line - 7, line - 1);
    for (int line = 0; line <= 20; line++) {
      x.output(0, line);
      for (int value = 0; value <= 1; value++) {
        String name = "line " + line + " at " + value;
        due(name, x.responseWith(2 * line + value, 0, 1) >> 3 & 1, value);
        due(name, x.responseWith(2 * line + value, 127, 1) >> 3 & 1, value);
      }
    }
    ScanDiagnose y = new ScanDiagnose();
    due("no line 7 yet", y.responseWith(14, 0, 1), -1);
    due("no line 7 yet", y.inject(14), -1);
    due("no line 7 yet", y.leader(14), -1);
    y.gate(AND, 0, 0);
    due("line 7 stuck at 0", y.responseWith(14, 0, 1), 0);
    due("line 7 stuck at 0", y.inject(14), 0);
    due("line 7 stuck at 0, unread as input 1", y.leader(14), 2);
  }

  private static void stuckEveryCycle() {
    says("With a fault the line has that value in every cycle, whatever would make it otherwise");
    ScanDiagnose x = Circuits.ring();
    int[] ones = {1, 3, 7, 7};
    for (int c = 1; c <= 4; c++) {
      due("line 7 stuck at 1", x.responseWith(15, 0, c), ones[c - 1]);
      due("line 7 stuck at 0", x.responseWith(14, 0, c), 0);
      due("input 0 stuck at 0", x.responseWith(0, 1, c), x.response(0, c));
    }
    x.inject(14);
    for (int c = 1; c <= 4; c++) due("on the device", x.observe(0, c), 0);
  }

  private static void stuckState() {
    says("(for a state's line: whatever the state is)");
    ScanDiagnose x = Circuits.shifter();
    x.gate(NOT, 4, 0);
    x.output(0, 4);
    x.output(1, 7);
    // State 0 itself gets what input 0 brings; its line alone sticks.
    for (int c = 1; c <= 4; c++) {
      due("state 0 starts at 0, stuck at 1", x.responseWith(9, 0, c), (c == 1 ? 2 : 6) + 8);
      due("state 0 starts at 1, stuck at 0", x.responseWith(8, 127, c), (c == 1 ? 5 : 1) + 16);
    }
    ScanDiagnose y = new ScanDiagnose();
    for (int k = 0; k < 3; k++) {
      due("fed by its own line", y.responseWith(9 + 2 * k, 0, 4), 1 << k);
      due("fed by its own line", y.responseWith(8 + 2 * k, 126, 4), 7 - (1 << k));
    }
  }

  private static void readersOfStuckLines() {
    says("everything that reads the line sees the stuck value");
    ScanDiagnose x = new ScanDiagnose();
    // Input 1 is read by a feed, an output and both sides of a gate.
    x.feed(0, 1);
    x.output(0, 1);
    x.gate(Circuits.NAND, 1, 1);
    x.output(1, 7);
    due("without a fault", x.response(0, 1), 16);
    due("input 1 stuck at 1", x.responseWith(3, 0, 1), 1 + 8);
    due("without a fault", x.response(127, 1), 7 + 8);
    due("input 1 stuck at 0", x.responseWith(2, 127, 1), 6 + 16);
  }

  private static void oneFaultOrNone() {
    says("the circuit with one hidden fault or none");
    ScanDiagnose x = new ScanDiagnose();
    due("none at first", x.observe(0, 1), 0);
    x.inject(1);
    due("input 0", x.observe(0, 1), 24);
    x.inject(9);
    due("state 0 alone", x.observe(0, 1), 1);
    x.inject(-1);
    due("none again", x.observe(0, 1), 0);
  }

  private static void observationsNoted() {
    says("notes pattern, cycles and response");
    ScanDiagnose x = Circuits.ring();
    x.inject(9);
    // State 0 stuck at 1 shows after one cycle, but not after four.
    due("observe", x.observe(0, 4), 6);
    due("healthy", x.healthy(), 1);
    due("observe", x.observe(0, 1), 3);
    due("healthy", x.healthy(), 0);
    due("candidates", x.candidates(), 1);
    due("candidate", x.candidate(0), 9);
    due("the same once more", x.observe(0, 1), 3);
    due("is noted once more", x.observations(), 3);
  }

  private static void observationsAtMost() {
    says("at most 20 observations are noted");
    ScanDiagnose x = new ScanDiagnose();
    x.inject(1);
    for (int i = 1; i <= 19; i++) {
      due("observe " + i, x.observe(1, 1), 24);
      due("observations", x.observations(), i);
    }
    due("healthy", x.healthy(), 1);
    due("observe 20", x.observe(0, 1), 24);
    due("the 20th is noted", x.observations(), 20);
    due("the 20th counts", x.healthy(), 0);
    due("the 20th counts", x.candidates(), 1);
    ScanDiagnose y = new ScanDiagnose();
    y.inject(1);
    for (int i = 1; i <= 20; i++) y.observe(1, 1);
    for (int i = 0; i < 3; i++) due("observe 21", y.observe(0, 1), -3);
    due("the 21st is not noted", y.observations(), 20);
    due("the 21st does not count", y.healthy(), 1);
    // Left out are input 0 stuck at 0 and the three states stuck at 1.
    due("the 21st does not count", y.candidates(), 10);
  }

  private static void candidatesForEvery() {
    says("if the circuit with it would have given the noted response for every noted observation");
    ScanDiagnose x = new ScanDiagnose();
    x.inject(1);
    due("nothing noted", x.candidates(), 14);
    // One telling observation among 20, at each place.
    for (int telling = 1; telling <= 20; telling++) {
      x.forget();
      for (int i = 1; i <= 20; i++) x.observe(i == telling ? 0 : 1, 1);
      due("told by observation " + telling, x.candidates(), 1);
    }
    ScanDiagnose y = new ScanDiagnose();
    y.observe(0, 1);
    y.observe(127, 1);
    // Some give the first response, some the second; both are given by unread inputs alone.
    due("candidates", y.candidates(), 6);
  }

  /** The calls of gate, feed, output and inject that are accepted by a new object. */
  private static List<ToIntFunction<ScanDiagnose>> acceptedCalls() {
    List<ToIntFunction<ScanDiagnose>> calls = new ArrayList<>();
    each(0, 5, n -> calls.add(x -> x.gate(n, 0, 0)));
    calls.add(x -> x.gate(NOT, 0, -1));
    each(0, 2, n -> calls.add(x -> x.feed(n, 4 + n)));
    each(0, 2, n -> calls.add(x -> x.feed(n, 0)));
    each(0, 1, n -> calls.add(x -> x.output(n, 0)));
    each(0, 1, n -> calls.add(x -> x.output(n, 6)));
    each(-1, 13, n -> calls.add(x -> x.inject(n)));
    return calls;
  }

  private static void droppedByAccepted() {
    says("All observations are dropped by every accepted call of gate, feed, output and inject "
        + "(also if it changes nothing else)");
    List<ToIntFunction<ScanDiagnose>> calls = acceptedCalls();
    for (int i = 0; i < calls.size(); i++) {
      for (int fault = -1; fault <= 1; fault++) {
        ScanDiagnose x = new ScanDiagnose();
        x.inject(fault);
        x.observe(0, 1);
        x.observe(1, 1);
        due("observations", x.observations(), 2);
        must(calls.get(i).applyAsInt(x) >= 0, "call " + i + " is accepted");
        due("observations after call " + i, x.observations(), 0);
        due("candidates after call " + i, x.candidates(), 2 * x.lines());
        due("candidate after call " + i, x.candidate(2 * x.lines() - 1), 2 * x.lines() - 1);
        due("healthy after call " + i, x.healthy(), 1);
        due("candidateGroups after call " + i, x.candidateGroups(), x.groups());
        due("forget after call " + i, x.forget(), 0);
      }
    }
  }

  private static void keptByRefused() {
    says("dropped by every accepted call");
    ScanDiagnose x = Circuits.full();
    int left = x.candidates();
    must(left > 0 && left < 42, "the observations leave some faults, not all");
    for (int outside : outside(0, 20)) {
      due("gate", x.gate(AND, outside, 0), -2);
      due("gate", x.gate(AND, 0, outside), -2);
      due("feed", x.feed(0, outside), -2);
      due("output", x.output(0, outside), -2);
    }
    due("gate", x.gate(AND, 0, 0), -3);
    due("gate", x.gate(6, 0, 0), -1);
    due("feed", x.feed(3, 4), -1);
    due("output", x.output(2, 0), -1);
    due("inject", x.inject(-2), -1);
    due("inject", x.inject(42), -1);
    due("observe", x.observe(0, 1), -3);
    due("observations", x.observations(), 20);
    due("candidates", x.candidates(), left);
    due("healthy", x.healthy(), 0);
  }

  private static void roomOnceDropped() {
    says("All observations are dropped");
    List<ToIntFunction<ScanDiagnose>> calls = acceptedCalls();
    calls.add(ScanDiagnose::forget);
    for (int i = 0; i < calls.size(); i++) {
      ScanDiagnose x = new ScanDiagnose();
      for (int n = 0; n < 20; n++) x.observe(n, 1);
      due("observe 21", x.observe(2, 1), -3);
      calls.get(i).applyAsInt(x);
      for (int n = 1; n <= 20; n++) {
        must(x.observe(n, 1) >= 0, "there is room for observation " + n + " after call " + i);
      }
      due("observe 21 after call " + i, x.observe(2, 1), -3);
    }
  }

  private static void deviceFaultStays() {
    says("The device's fault stays when gates, feeds or outputs are set");
    ScanDiagnose x = new ScanDiagnose();
    x.inject(13);
    due("observe", x.observe(0, 1), 4);
    for (int line = 7; line <= 20; line++) {
      x.gate(OR, 6, 6);
      due("after gate " + line, x.observe(0, 1), 4);
    }
    for (int k = 0; k < 3; k++) x.feed(k, 20);
    due("after feeds", x.observe(0, 1), 7);
    x.output(0, 6);
    due("after an output", x.observe(0, 1), 7 + 8);
    x.output(1, 20);
    due("after an output", x.observe(0, 1), 7 + 24);
    x.forget();
    due("after forget", x.observe(0, 1), 7 + 24);
    x.inject(14);
    due("refused", x.inject(42), -1);
    x.output(0, 7);
    due("the fault of a gate's line", x.observe(127, 1), 7 + 16);
  }

  private static void alikeForAllPatterns() {
    says("ALIKE if they give the same response for all 128 patterns");
    for (int p = 0; p < 128; p++) {
      ScanDiagnose x = Circuits.detector(p);
      String name = " for pattern " + p;
      int unread = x.lines() - 1;
      int seen = unread - 1;
      // The seen line stuck at 0 differs from no fault for this pattern alone; input 0 stuck
      // against the pattern does the same.
      due("leader of the seen line" + name, x.leader(2 * seen), 1 - (p & 1));
      due("leader of the unread line" + name, x.leader(2 * unread), 2 * unread);
      due("leader of the unread line" + name, x.leader(2 * unread + 1), 2 * unread);
      due("hidden" + name, x.hidden(), 2);
      // Never seen, always seen, hidden; seven with a line left out; five with more left out.
      due("groups" + name, x.groups(), 3 + 7 + 5);
      tellApart(x, p);
    }
  }

  private static void tellApart(ScanDiagnose x, int p) {
    String name = " for pattern " + p;
    int gates = x.lines() - 7;
    // A line stuck at 1 that should be 0 shows for a pattern next to this one.
    for (int bit = 0; bit < 7; bit++) due("observe" + name, x.observe(p ^ 1 << bit, 1), 0);
    // Left are one fault of each input, state and gate, and both of the unread gate.
    due("candidates" + name, x.candidates(), 7 + gates - 1 + 2);
    due("candidateGroups" + name, x.candidateGroups(), 2);
    due("nextPattern" + name, x.nextPattern(), p);
    due("detected" + name, x.detected(p, 1), 7 + gates - 1);
    due("observe" + name, x.observe(p, 1), 31);
    due("candidates" + name, x.candidates(), 2);
    due("candidateGroups" + name, x.candidateGroups(), 1);
    due("nextPattern" + name, x.nextPattern(), -1);
  }

  private static void alikeForOneCycle() {
    says("run for one cycle");
    ScanDiagnose x = new ScanDiagnose();
    // From the second cycle on state 0 is input 0, and line 8 is 0 whatever state 0 was.
    for (int k = 0; k < 3; k++) x.feed(k, k);
    x.gate(NOT, 0, 0);
    x.gate(AND, 4, 7);
    x.output(0, 8);
    x.output(1, 3);
    due("shown by one cycle", x.response(16, 1), 8);
    due("shown by one cycle", x.responseWith(8, 16, 1), 0);
    for (int c = 2; c <= 4; c++) due("not by " + c, x.response(16, c), x.responseWith(8, 16, c));
    // Alike are state 0, line 7 and line 8, all stuck at 0; hidden the states 1 and 2.
    due("leader", x.leader(14), 8);
    due("leader", x.leader(16), 8);
    due("leader", x.leader(13), 10);
    due("hidden", x.hidden(), 4);
    due("groups", x.groups(), 8 + 5);
    x.observe(15, 1);
    x.observe(0, 1);
    x.observe(17, 1);
    due("candidates", x.candidates(), 3 + 4);
    due("nextPattern", x.nextPattern(), 16);
    due("two cycles tell nothing", x.observe(16, 2), 0);
    due("candidates", x.candidates(), 3 + 4);
    due("nextPattern", x.nextPattern(), 16);
    due("one cycle does", x.observe(16, 1), 8);
    due("candidates", x.candidates(), 4);
    due("nextPattern", x.nextPattern(), -1);
  }

  /** Every question, for an object of so many faults. */
  private static List<ToIntFunction<ScanDiagnose>> questions(int faults) {
    List<ToIntFunction<ScanDiagnose>> calls = new ArrayList<>();
    calls.add(ScanDiagnose::lines);
    calls.add(ScanDiagnose::observations);
    calls.add(ScanDiagnose::candidates);
    calls.add(ScanDiagnose::healthy);
    calls.add(ScanDiagnose::nextPattern);
    calls.add(ScanDiagnose::hidden);
    calls.add(ScanDiagnose::groups);
    calls.add(ScanDiagnose::candidateGroups);
    each(0, 127, n -> calls.add(x -> x.response(n, 1 + n % 4)));
    each(1, 4, n -> calls.add(x -> x.detected(31 * n, n)));
    each(0, faults, n -> calls.add(x -> x.candidate(n)));
    each(0, faults, n -> calls.add(x -> x.responseWith(n, 3 * n, 1 + n % 4)));
    each(0, faults, n -> calls.add(x -> x.leader(n)));
    return calls;
  }

  /** Calls that are no questions, and yet tell the notes, the device, and what is set. */
  private static List<ToIntFunction<ScanDiagnose>> tellingCalls() {
    List<ToIntFunction<ScanDiagnose>> calls = new ArrayList<>();
    calls.add(ScanDiagnose::forget);
    each(1, 20, n -> calls.add(x -> x.observe(6 * n, 1 + n % 4)));
    each(0, 2, n -> calls.add(x -> x.feed(n, 0)));
    each(0, 1, n -> calls.add(x -> x.output(n, 1)));
    calls.add(x -> x.gate(NOT, 0, 0));
    return calls;
  }

  private static void each(int first, int last, IntConsumer task) {
    for (int n = first; n <= last; n++) task.accept(n);
  }

  /**
   * A call with the answer that is due to it; then the object is held against one that had no
   * such call. The questions are asked in both orders: if the call is one of them, those that
   * are asked before it tell the two objects apart, those after it do not.
   */
  private static void changesNothing(
      String name, Supplier<ScanDiagnose> maker, ToIntFunction<ScanDiagnose> call, int want) {
    List<ToIntFunction<ScanDiagnose>> asked = questions(2 * maker.get().lines());
    sameAnswers(name, maker, call, want, asked);
    Collections.reverse(asked);
    sameAnswers(name, maker, call, want, asked);
    sameAnswers(name, maker, call, want, tellingCalls());
  }

  private static void sameAnswers(
      String name, Supplier<ScanDiagnose> maker, ToIntFunction<ScanDiagnose> call, int want,
      List<ToIntFunction<ScanDiagnose>> asked) {
    ScanDiagnose x = maker.get();
    ScanDiagnose without = maker.get();
    due(name, call.applyAsInt(x), want);
    for (int i = 0; i < asked.size(); i++) {
      int expected = asked.get(i).applyAsInt(without);
      due("answer " + i + " of " + asked.size() + " after " + name, asked.get(i).applyAsInt(x), expected);
    }
  }

  /** The same question asked twice, so that the first answer is the one due to the second. */
  private static void asksAgain(
      String name, Supplier<ScanDiagnose> maker, ToIntFunction<ScanDiagnose> question) {
    int first = question.applyAsInt(maker.get());
    changesNothing(name, maker, question, first);
    ScanDiagnose x = maker.get();
    due(name, question.applyAsInt(x), first);
    due(name + " again", question.applyAsInt(x), first);
  }

  private static List<Supplier<ScanDiagnose>> makers() {
    return List.of(ScanDiagnose::new, Circuits::half, Circuits::found, Circuits::full);
  }

  private static void noQuestionChanges() {
    says("No question changes anything");
    for (Supplier<ScanDiagnose> maker : makers()) {
      asksAgain("lines", maker, ScanDiagnose::lines);
      asksAgain("observations", maker, ScanDiagnose::observations);
      asksAgain("response", maker, x -> x.response(127, 4));
      asksAgain("responseWith", maker, x -> x.responseWith(1, 0, 4));
      asksAgain("candidates", maker, ScanDiagnose::candidates);
      asksAgain("candidate", maker, x -> x.candidate(0));
      asksAgain("healthy", maker, ScanDiagnose::healthy);
      asksAgain("nextPattern", maker, ScanDiagnose::nextPattern);
      asksAgain("detected", maker, x -> x.detected(127, 4));
      asksAgain("hidden", maker, ScanDiagnose::hidden);
      asksAgain("leader", maker, x -> x.leader(13));
      asksAgain("groups", maker, ScanDiagnose::groups);
      asksAgain("candidateGroups", maker, ScanDiagnose::candidateGroups);
    }
  }

  private static void noRefusedCallChanges() {
    says("A refused call changes nothing");
    for (Supplier<ScanDiagnose> maker : makers()) {
      int lines = maker.get().lines();
      refusedSettings(maker, lines);
      refusedRuns(maker, 2 * lines);
    }
    changesNothing("gate 15", Circuits::full, x -> x.gate(AND, 0, 0), -3);
    changesNothing("gate 15", Circuits::full, x -> x.gate(NOT, 20, 21), -3);
    changesNothing("observe 21", Circuits::full, x -> x.observe(0, 1), -3);
    changesNothing("observe 21", Circuits::found, x -> x.observe(127, 4), -3);
  }

  private static void refusedSettings(Supplier<ScanDiagnose> maker, int lines) {
    changesNothing("gate", maker, x -> x.gate(-1, 0, 0), -1);
    changesNothing("gate", maker, x -> x.gate(6, 0, 0), -1);
    changesNothing("gate", maker, x -> x.gate(AND, -1, 0), -2);
    changesNothing("gate", maker, x -> x.gate(AND, 0, lines), -2);
    changesNothing("gate", maker, x -> x.gate(NOT, lines, 0), -2);
    changesNothing("feed", maker, x -> x.feed(-1, 0), -1);
    changesNothing("feed", maker, x -> x.feed(3, 0), -1);
    changesNothing("feed", maker, x -> x.feed(0, -1), -2);
    changesNothing("feed", maker, x -> x.feed(2, lines), -2);
    changesNothing("output", maker, x -> x.output(-1, 1), -1);
    changesNothing("output", maker, x -> x.output(2, 1), -1);
    changesNothing("output", maker, x -> x.output(0, -1), -2);
    changesNothing("output", maker, x -> x.output(1, lines), -2);
    changesNothing("inject", maker, x -> x.inject(-2), -1);
    changesNothing("inject", maker, x -> x.inject(2 * lines), -1);
  }

  private static void refusedRuns(Supplier<ScanDiagnose> maker, int faults) {
    changesNothing("observe", maker, x -> x.observe(-1, 1), -1);
    changesNothing("observe", maker, x -> x.observe(128, 1), -1);
    changesNothing("observe", maker, x -> x.observe(0, 0), -2);
    changesNothing("observe", maker, x -> x.observe(0, 5), -2);
    changesNothing("response", maker, x -> x.response(128, 1), -1);
    changesNothing("response", maker, x -> x.response(0, 5), -2);
    changesNothing("responseWith", maker, x -> x.responseWith(faults, 0, 1), -1);
    changesNothing("responseWith", maker, x -> x.responseWith(0, 128, 1), -2);
    changesNothing("responseWith", maker, x -> x.responseWith(0, 0, 5), -3);
    changesNothing("candidate", maker, x -> x.candidate(-1), -1);
    changesNothing("candidate", maker, x -> x.candidate(faults), -1);
    changesNothing("detected", maker, x -> x.detected(128, 1), -1);
    changesNothing("detected", maker, x -> x.detected(0, 5), -2);
    changesNothing("leader", maker, x -> x.leader(-1), -1);
    changesNothing("leader", maker, x -> x.leader(faults), -1);
  }

  private static void orderOfTests() {
    says("In every method the tests are made in the order named");
    ScanDiagnose x = Circuits.full();
    for (int bad : new int[] {LOW, -2, 128, HIGH}) {
      due("kind, lines, room", x.gate(bad, bad, bad), -1);
      due("kind, room", x.gate(bad, 0, 0), -1);
      due("a, b, room", x.gate(AND, bad, bad), -2);
      due("b, room", x.gate(AND, 0, bad), -2);
      due("a of NOT, room", x.gate(NOT, bad, 0), -2);
      due("room, as the b of NOT is not looked at", x.gate(NOT, 0, bad), -3);
      due("state, line", x.feed(bad, bad), -1);
      due("output, line", x.output(bad, bad), -1);
      due("pattern, cycles, room", x.observe(bad, bad), -1);
      due("pattern, room", x.observe(bad, 1), -1);
      due("cycles, room", x.observe(0, bad), -2);
      due("pattern, cycles", x.response(bad, bad), -1);
      due("fault, pattern, cycles", x.responseWith(bad, bad, bad), -1);
      due("fault, pattern", x.responseWith(bad, bad, 1), -1);
      due("fault, cycles", x.responseWith(bad, 0, bad), -1);
      due("pattern, cycles", x.responseWith(0, bad, bad), -2);
      due("pattern, cycles", x.detected(bad, bad), -1);
    }
  }

  private static void goodLines() {
    says("a line is good if there is such a line");
    ScanDiagnose x = new ScanDiagnose();
    for (int lines = 7; lines <= 21; lines++) {
      due("feed from the first line", x.feed(0, 0), lines == 7 ? 4 : lines - 2);
      due("feed from the last line", x.feed(0, lines - 1), 0);
      due("feed from no line", x.feed(0, lines), -2);
      due("feed from no line", x.feed(0, -1), -2);
      due("output of the first line", x.output(1, 0), lines == 7 ? 0 : lines - 2);
      due("output of the last line", x.output(1, lines - 1), 0);
      due("output of no line", x.output(1, lines), -2);
      due("output of no line", x.output(1, -1), -2);
      due("gate of no line", x.gate(OR, lines, 0), -2);
      due("gate of no line", x.gate(OR, -1, 0), -2);
      due("gate of no line", x.gate(OR, 0, lines), -2);
      due("gate of no line", x.gate(OR, 0, -1), -2);
      due("gate of good lines", x.gate(OR, 0, lines - 1), lines == 21 ? -3 : lines);
    }
  }

  private static void goodFaults() {
    says("a fault if it is 0 .. 2 * lines() - 1");
    ScanDiagnose x = new ScanDiagnose();
    // All lines but input 0 are read by nothing, so that each fault's answers are known.
    Circuits.showAlone(x, 0);
    for (int lines = 7; lines <= 21; lines++) {
      int last = 2 * lines - 1;
      due("inject the last", x.inject(last), 0);
      due("inject the first", x.inject(0), 0);
      due("inject past the last", x.inject(last + 1), -1);
      due("inject before none", x.inject(-2), -1);
      due("the fault before stays", x.observe(1, 1), 0);
      due("the last", x.responseWith(last, 1, 1), 31);
      due("the first", x.responseWith(0, 1, 1), 0);
      due("past the last", x.responseWith(last + 1, 1, 1), -1);
      due("before the first", x.responseWith(-1, 1, 1), -1);
      due("leader of the last", x.leader(last), 2);
      due("leader of the first", x.leader(0), 0);
      due("leader of none", x.leader(last + 1), -1);
      due("leader of none", x.leader(-1), -1);
      x.gate(OR, 1, 2);
    }
  }
}
