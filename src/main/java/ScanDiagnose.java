/** Finding the stuck lines of a small clocked circuit from what comes out of it. */
public final class ScanDiagnose {
    private static final int AND = 0;
    private static final int OR = 1;
    private static final int XOR = 2;
    private static final int NAND = 3;
    private static final int NOR = 4;
    private static final int NOT = 5;

    private static final int INPUTS = 4;
    private static final int STATES = 3;
    private static final int OUTPUTS = 2;
    private static final int FIRST_GATE = INPUTS + STATES;
    private static final int MAX_LINES = FIRST_GATE + 14;
    private static final int MAX_FAULTS = 2 * MAX_LINES;
    private static final int PATTERNS = 128;
    private static final int ONE_CYCLE_RUNS = MAX_FAULTS * PATTERNS;
    private static final int MAX_CYCLES = 4;
    private static final int MAX_OBSERVATIONS = 20;
    private static final int INPUT_BITS = (1 << INPUTS) - 1;

    // Its line, NO_FAULT >> 1, is -1: no line there is, so that a run with it sticks nothing.
    private static final int NO_FAULT = -1;

    private final int[] gateKind = new int[MAX_LINES];
    private final int[] gateA = new int[MAX_LINES];
    private final int[] gateB = new int[MAX_LINES];
    private final int[] feedLine = new int[STATES];
    private final int[] outputLine = new int[OUTPUTS];
    private int lineCount = FIRST_GATE;
    private int deviceFault = NO_FAULT;

    // The circuit can't change under noted observations, so it is enough to keep what each
    // observation rules out; the observations themselves are never needed again.
    private final boolean[] fits = new boolean[MAX_FAULTS];
    private boolean healthyFits;
    private int observationCount;

    // Scratch: filled anew by every run, or by every question about alike faults.
    private final int[] lineValue = new int[MAX_LINES];
    private final int[] oneCycleResponse = new int[ONE_CYCLE_RUNS];

    public ScanDiagnose() {
        for (int k = 0; k < STATES; k++) {
            feedLine[k] = INPUTS + k;
        }
        dropObservations();
    }

    public int gate(int kind, int a, int b) {
        if (kind < AND || kind > NOT) {
            return -1;
        }
        if (!isLine(a) || (kind != NOT && !isLine(b))) {
            return -2;
        }
        if (lineCount >= MAX_LINES) {
            return -3;
        }
        int line = lineCount;
        gateKind[line] = kind;
        gateA[line] = a;
        // The b of a NOT may be any number, and would not be safe to index with.
        gateB[line] = kind == NOT ? a : b;
        lineCount = line + 1;
        dropObservations();
        return line;
    }

    public int feed(int k, int line) {
        if (k < 0 || k >= STATES) {
            return -1;
        }
        if (!isLine(line)) {
            return -2;
        }
        int before = feedLine[k];
        feedLine[k] = line;
        dropObservations();
        return before;
    }

    public int output(int k, int line) {
        if (k < 0 || k >= OUTPUTS) {
            return -1;
        }
        if (!isLine(line)) {
            return -2;
        }
        int before = outputLine[k];
        outputLine[k] = line;
        dropObservations();
        return before;
    }

    public int lines() {
        return lineCount;
    }

    public int inject(int fault) {
        if (fault != NO_FAULT && !isFault(fault)) {
            return -1;
        }
        deviceFault = fault;
        dropObservations();
        return 0;
    }

    public int observe(int pattern, int cycles) {
        if (!isPattern(pattern)) {
            return -1;
        }
        if (!isCycles(cycles)) {
            return -2;
        }
        if (observationCount >= MAX_OBSERVATIONS) {
            return -3;
        }
        int seen = run(deviceFault, pattern, cycles);
        ruleOut(pattern, cycles, seen);
        observationCount++;
        return seen;
    }

    public int forget() {
        int dropped = observationCount;
        dropObservations();
        return dropped;
    }

    public int observations() {
        return observationCount;
    }

    public int response(int pattern, int cycles) {
        if (!isPattern(pattern)) {
            return -1;
        }
        if (!isCycles(cycles)) {
            return -2;
        }
        return run(NO_FAULT, pattern, cycles);
    }

    public int responseWith(int fault, int pattern, int cycles) {
        if (!isFault(fault)) {
            return -1;
        }
        if (!isPattern(pattern)) {
            return -2;
        }
        if (!isCycles(cycles)) {
            return -3;
        }
        return run(fault, pattern, cycles);
    }

    public int candidates() {
        int count = 0;
        for (int fault = 0; fault < 2 * lineCount; fault++) {
            if (fits[fault]) {
                count++;
            }
        }
        return count;
    }

    public int candidate(int i) {
        int before = 0;
        for (int fault = 0; fault < 2 * lineCount; fault++) {
            if (fits[fault]) {
                if (before == i) {
                    return fault;
                }
                before++;
            }
        }
        return -1;
    }

    public int healthy() {
        return healthyFits ? 1 : 0;
    }

    public int nextPattern() {
        for (int pattern = 0; pattern < PATTERNS; pattern++) {
            if (tellsCandidatesApart(pattern)) {
                return pattern;
            }
        }
        return -1;
    }

    public int detected(int pattern, int cycles) {
        if (!isPattern(pattern)) {
            return -1;
        }
        if (!isCycles(cycles)) {
            return -2;
        }
        int sound = run(NO_FAULT, pattern, cycles);
        int count = 0;
        for (int fault = 0; fault < 2 * lineCount; fault++) {
            if (run(fault, pattern, cycles) != sound) {
                count++;
            }
        }
        return count;
    }

    public int hidden() {
        int count = 0;
        for (int fault = 0; fault < 2 * lineCount; fault++) {
            if (neverShows(fault)) {
                count++;
            }
        }
        return count;
    }

    public int leader(int fault) {
        if (!isFault(fault)) {
            return -1;
        }
        fillOneCycleResponses();
        return leastAlike(fault);
    }

    public int groups() {
        fillOneCycleResponses();
        int count = 0;
        for (int fault = 0; fault < 2 * lineCount; fault++) {
            if (leastAlike(fault) == fault) {
                count++;
            }
        }
        return count;
    }

    public int candidateGroups() {
        fillOneCycleResponses();
        int count = 0;
        for (int fault = 0; fault < 2 * lineCount; fault++) {
            if (leastAlike(fault) == fault && groupHasCandidate(fault)) {
                count++;
            }
        }
        return count;
    }

    private boolean isLine(int line) {
        return line >= 0 && line < lineCount;
    }

    private boolean isFault(int fault) {
        return fault >= 0 && fault < 2 * lineCount;
    }

    private boolean isPattern(int pattern) {
        return pattern >= 0 && pattern < PATTERNS;
    }

    private boolean isCycles(int cycles) {
        return cycles >= 1 && cycles <= MAX_CYCLES;
    }

    private void dropObservations() {
        observationCount = 0;
        healthyFits = true;
        for (int fault = 0; fault < MAX_FAULTS; fault++) {
            fits[fault] = true;
        }
    }

    private void ruleOut(int pattern, int cycles, int seen) {
        if (run(NO_FAULT, pattern, cycles) != seen) {
            healthyFits = false;
        }
        for (int fault = 0; fault < 2 * lineCount; fault++) {
            if (run(fault, pattern, cycles) != seen) {
                fits[fault] = false;
            }
        }
    }

    private int run(int fault, int pattern, int cycles) {
        int inputs = pattern & INPUT_BITS;
        int states = pattern >> INPUTS;
        for (int cycle = 0; cycle < cycles; cycle++) {
            int sources = inputs | (states << INPUTS);
            setLines(fault, sources);
            states = fedStates();
        }
        int out0 = lineValue[outputLine[0]];
        int out1 = lineValue[outputLine[1]];
        return states | (out0 << STATES) | (out1 << (STATES + 1));
    }

    // Only a state's line sticks, not the state: so the fault is laid on here, where lines
    // get their values, and nowhere else.
    private void setLines(int fault, int sources) {
        int stuckLine = fault >> 1;
        for (int line = 0; line < lineCount; line++) {
            if (line == stuckLine) {
                lineValue[line] = fault & 1;
            } else if (line < FIRST_GATE) {
                lineValue[line] = (sources >> line) & 1;
            } else {
                lineValue[line] = gateValue(line);
            }
        }
    }

    private int gateValue(int line) {
        int a = lineValue[gateA[line]];
        int b = lineValue[gateB[line]];
        switch (gateKind[line]) {
            case AND:
                return a & b;
            case OR:
                return a | b;
            case XOR:
                return a ^ b;
            case NAND:
                return 1 - (a & b);
            case NOR:
                return 1 - (a | b);
            default:
                return 1 - a;
        }
    }

    private int fedStates() {
        int states = 0;
        for (int k = 0; k < STATES; k++) {
            states |= lineValue[feedLine[k]] << k;
        }
        return states;
    }

    private boolean tellsCandidatesApart(int pattern) {
        int first = -1;
        for (int fault = 0; fault < 2 * lineCount; fault++) {
            if (fits[fault]) {
                int given = run(fault, pattern, 1);
                if (first >= 0 && given != first) {
                    return true;
                }
                first = given;
            }
        }
        return false;
    }

    private boolean neverShows(int fault) {
        for (int pattern = 0; pattern < PATTERNS; pattern++) {
            if (run(fault, pattern, 1) != run(NO_FAULT, pattern, 1)) {
                return false;
            }
        }
        return true;
    }

    // Pairs of faults are compared over and over; running each fault once keeps that cheap.
    private void fillOneCycleResponses() {
        for (int fault = 0; fault < 2 * lineCount; fault++) {
            for (int pattern = 0; pattern < PATTERNS; pattern++) {
                oneCycleResponse[fault * PATTERNS + pattern] = run(fault, pattern, 1);
            }
        }
    }

    private boolean areAlike(int fault, int other) {
        for (int pattern = 0; pattern < PATTERNS; pattern++) {
            int given = oneCycleResponse[fault * PATTERNS + pattern];
            if (given != oneCycleResponse[other * PATTERNS + pattern]) {
                return false;
            }
        }
        return true;
    }

    private int leastAlike(int fault) {
        for (int earlier = 0; earlier < fault; earlier++) {
            if (areAlike(earlier, fault)) {
                return earlier;
            }
        }
        return fault;
    }

    private boolean groupHasCandidate(int leadingFault) {
        for (int fault = leadingFault; fault < 2 * lineCount; fault++) {
            if (fits[fault] && areAlike(leadingFault, fault)) {
                return true;
            }
        }
        return false;
    }
}
