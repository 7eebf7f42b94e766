import java.util.ArrayList;
import java.util.Arrays;
import java.util.List;
import java.util.TreeSet;

// Long mixed runs of calls, each answer held against a slow model written from the terms.
public final class ModelTest extends Checks {
  private static final int RUNS = 60;
  private static final int CALLS = 512;
  private static long seed = 20261115L;

  /** A fixed sequence of numbers 0 .. bound - 1, the same in every run of this test. */
  private static int pick(int bound) {
    seed = seed * 6364136223846793005L + 1442695040888963407L;
    return (int) ((seed >>> 33) % bound);
  }

  /** Mostly a number 0 .. bound - 1, at times one just outside. */
  private static int near(int bound) {
    int n = pick(24);
    if (n == 0) return -1;
    if (n == 1) return bound;
    if (n == 2) return pick(2) == 0 ? LOW : HIGH;
    return pick(bound);
  }

  /** The circuit and its notes, held as the document tells them. */
  private static final class Model {
    final List<int[]> gates = new ArrayList<>();
    final int[] feeds = {4, 5, 6};
    final int[] outputs = {0, 0};
    final List<int[]> notes = new ArrayList<>();
    int device = -1;

    int lines() { return 7 + gates.size(); }
    int faults() { return 2 * lines(); }
    boolean line(int n) { return n >= 0 && n < lines(); }
    boolean fault(int n) { return n >= 0 && n < faults(); }
    boolean pattern(int n) { return n >= 0 && n <= 127; }
    boolean cycles(int n) { return n >= 1 && n <= 4; }

    /** A line's value, asked backwards from the line to its sources. */
    boolean value(int line, int fault, boolean[] inputs, boolean[] states) {
      if (fault == 2 * line) return false;
      if (fault == 2 * line + 1) return true;
      if (line < 4) return inputs[line];
      if (line < 7) return states[line - 4];
      int[] gate = gates.get(line - 7);
      boolean a = value(gate[1], fault, inputs, states);
      if (gate[0] == 5) return !a;
      boolean b = value(gate[2], fault, inputs, states);
      if (gate[0] == 0) return a && b;
      if (gate[0] == 1) return a || b;
      if (gate[0] == 2) return a != b;
      if (gate[0] == 3) return !(a && b);
      return !(a || b);
    }

    int respond(int fault, int pattern, int cycles) {
      boolean[] inputs = new boolean[4];
      boolean[] states = new boolean[3];
      for (int i = 0; i < 4; i++) inputs[i] = (pattern & 1 << i) != 0;
      for (int k = 0; k < 3; k++) states[k] = (pattern & 16 << k) != 0;
      int response = 0;
      for (int c = 1; c <= cycles; c++) {
        boolean[] next = new boolean[3];
        response = 0;
        for (int k = 0; k < 3; k++) {
          next[k] = value(feeds[k], fault, inputs, states);
          if (next[k]) response += 1 << k;
        }
        for (int k = 0; k < 2; k++) {
          if (value(outputs[k], fault, inputs, states)) response += 8 << k;
        }
        states = next;
      }
      return response;
    }

    int gate(int kind, int a, int b) {
      if (kind < 0 || kind > 5) return -1;
      if (!line(a)) return -2;
      if (kind != 5 && !line(b)) return -2;
      if (gates.size() == 14) return -3;
      gates.add(new int[] {kind, a, b});
      notes.clear();
      return lines() - 1;
    }

    int set(int[] which, int k, int line) {
      if (k < 0 || k >= which.length) return -1;
      if (!line(line)) return -2;
      int before = which[k];
      which[k] = line;
      notes.clear();
      return before;
    }

    int inject(int fault) {
      if (fault != -1 && !fault(fault)) return -1;
      device = fault;
      notes.clear();
      return 0;
    }

    int observe(int pattern, int cycles) {
      if (!pattern(pattern)) return -1;
      if (!cycles(cycles)) return -2;
      if (notes.size() == 20) return -3;
      int response = respond(device, pattern, cycles);
      notes.add(new int[] {pattern, cycles, response});
      return response;
    }

    int forget() {
      int n = notes.size();
      notes.clear();
      return n;
    }

    int response(int pattern, int cycles) {
      if (!pattern(pattern)) return -1;
      return cycles(cycles) ? respond(-1, pattern, cycles) : -2;
    }

    int responseWith(int fault, int pattern, int cycles) {
      if (!fault(fault)) return -1;
      if (!pattern(pattern)) return -2;
      return cycles(cycles) ? respond(fault, pattern, cycles) : -3;
    }

    boolean explains(int fault) {
      for (int[] note : notes) {
        if (respond(fault, note[0], note[1]) != note[2]) return false;
      }
      return true;
    }

    List<Integer> candidates() {
      List<Integer> found = new ArrayList<>();
      for (int f = 0; f < faults(); f++) if (explains(f)) found.add(f);
      return found;
    }

    int candidate(int i) {
      List<Integer> found = candidates();
      return i >= 0 && i < found.size() ? found.get(i) : -1;
    }

    int nextPattern() {
      List<Integer> found = candidates();
      for (int p = 0; p < 128; p++) {
        TreeSet<Integer> given = new TreeSet<>();
        for (int f : found) given.add(respond(f, p, 1));
        if (given.size() > 1) return p;
      }
      return -1;
    }

    int detected(int pattern, int cycles) {
      if (!pattern(pattern)) return -1;
      if (!cycles(cycles)) return -2;
      int n = 0;
      for (int f = 0; f < faults(); f++) {
        if (respond(f, pattern, cycles) != respond(-1, pattern, cycles)) n++;
      }
      return n;
    }

    /** All one-cycle responses in a text, so that alike faults have equal texts. */
    String signature(int fault) {
      int[] given = new int[128];
      for (int p = 0; p < 128; p++) given[p] = respond(fault, p, 1);
      return Arrays.toString(given);
    }

    int hidden() {
      String sound = signature(-1);
      int n = 0;
      for (int f = 0; f < faults(); f++) if (signature(f).equals(sound)) n++;
      return n;
    }

    int leader(int fault) {
      if (!fault(fault)) return -1;
      String own = signature(fault);
      int f = 0;
      while (!signature(f).equals(own)) f++;
      return f;
    }

    int groups() {
      TreeSet<String> seen = new TreeSet<>();
      for (int f = 0; f < faults(); f++) seen.add(signature(f));
      return seen.size();
    }

    int candidateGroups() {
      TreeSet<String> seen = new TreeSet<>();
      for (int f : candidates()) seen.add(signature(f));
      return seen.size();
    }
  }

  private static void build(ScanDiagnose x, Model m) {
    int n = pick(6);
    if (n <= 2) {
      int kind = near(6), a = near(m.lines()), b = near(m.lines());
      due("gate", x.gate(kind, a, b), m.gate(kind, a, b));
    } else if (n == 3) {
      int k = near(3), line = near(m.lines());
      due("feed", x.feed(k, line), m.set(m.feeds, k, line));
    } else if (n == 4) {
      int k = near(2), line = near(m.lines());
      due("output", x.output(k, line), m.set(m.outputs, k, line));
    } else {
      int fault = near(m.faults());
      due("inject", x.inject(fault), m.inject(fault));
    }
  }

  private static void ask(ScanDiagnose x, Model m) {
    int p = near(128), c = 1 + near(4), f = near(m.faults());
    switch (pick(14)) {
      case 0: due("lines", x.lines(), m.lines()); break;
      case 1: due("observations", x.observations(), m.notes.size()); break;
      case 2: due("response", x.response(p, c), m.response(p, c)); break;
      case 3: due("responseWith", x.responseWith(f, p, c), m.responseWith(f, p, c)); break;
      case 4: due("candidates", x.candidates(), m.candidates().size()); break;
      case 5: due("candidate", x.candidate(f), m.candidate(f)); break;
      case 6: due("candidate", x.candidate(p % 4), m.candidate(p % 4)); break;
      case 7: due("healthy", x.healthy(), m.explains(-1) ? 1 : 0); break;
      case 8: due("nextPattern", x.nextPattern(), m.nextPattern()); break;
      case 9: due("detected", x.detected(p, c), m.detected(p, c)); break;
      case 10: due("hidden", x.hidden(), m.hidden()); break;
      case 11: due("leader", x.leader(f), m.leader(f)); break;
      case 12: due("groups", x.groups(), m.groups()); break;
      default: due("candidateGroups", x.candidateGroups(), m.candidateGroups()); break;
    }
  }

  private static void run() {
    ScanDiagnose x = new ScanDiagnose();
    Model m = new Model();
    // How seldom the circuit changes: with a seldom change many observations come together.
    int seldom = 3 + pick(30);
    for (int call = 0; call < CALLS; call++) {
      int n = pick(seldom);
      if (call < 30 || n == 0) {
        build(x, m);
      } else if (n == 1 && pick(8) == 0) {
        due("forget", x.forget(), m.forget());
      } else if (pick(5) == 0) {
        int p = near(128), c = 1 + near(4);
        due("observe", x.observe(p, c), m.observe(p, c));
      } else {
        ask(x, m);
      }
    }
  }

  public static void main(String[] args) {
    for (int i = 0; i < RUNS; i++) {
      says("run " + i);
      run();
    }
    end();
  }
}
