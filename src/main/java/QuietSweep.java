/** Two programs that build cells by a schedule, and a collector that moves step by step beside them. */
public final class QuietSweep {
  public static final int NONE = -1;

  private static final int NO_MUTATOR = -1;
  private static final int NO_PROGRAM = -2;
  private static final int NOT_DONE = -1;

  private static final int MUTATORS = 2;
  private static final int LEAST_CELLS = 4;
  private static final int MOST_IN_GO = 10;
  private static final int MOST_IN_REPEAT = 60;
  private static final int ENTRIES = 8;

  private static final int FIELD_L = 0;
  private static final int FIELD_R = 1;
  private static final int FIELD_N = 2;
  private static final int FIELDS = 3;

  private static final int FREE = 0;
  private static final int WHITE = 1;
  private static final int GREY = 2;
  private static final int BLACK = 3;

  private static final int STATUS_REST = 0;
  private static final int STATUS_SECOND = 2;
  private static final int STATUS_ROOTS = 3;

  private static final int KIND_NEW = 0;
  private static final int KIND_NOTHING = 1;
  private static final int KIND_COPY = 2;
  private static final int KIND_GET_L = 3;
  private static final int KIND_GET_R = 4;
  private static final int KIND_SET_L = 5;
  private static final int KIND_SET_R = 6;
  private static final int KIND_CUT_L = 7;
  private static final int KIND_CUT_R = 8;
  private static final int KIND_SET_N = 9;
  private static final int KIND_DIGIT = 10;
  private static final int KIND_COPY_INT = 11;
  private static final int KIND_SUM = 12;
  private static final int KIND_GET_N = 13;
  private static final int KIND_PUT_OUT = 14;
  private static final int KIND_LOOP = 15;

  private static final int P_UNIT = 16;
  private static final int Q_UNIT = 64;
  private static final int T_UNIT = 256;

  private final Source source;
  private final Memory memory;
  private final Mutator[] mutators;
  private final Collector collector;

  public QuietSweep(int cells) {
    source = new Source();
    memory = new Memory(LEAST_CELLS + (cells & 7));
    mutators = new Mutator[MUTATORS];
    for (int m = 0; m < MUTATORS; m++) {
      mutators[m] = new Mutator();
    }
    collector = new Collector();
  }

  public boolean write(char c) {
    return source.append(c);
  }

  public int load(int mutator) {
    boolean isProgram = source.translate();
    source.empty();
    if (!isMutator(mutator)) {
      return NO_MUTATOR;
    }
    if (!isProgram) {
      return NO_PROGRAM;
    }
    mutators[mutator].install(source.made, source.madeCount);
    return source.madeCount;
  }

  public int go(int schedule, int n) {
    if (n < 0 || n > MOST_IN_GO) {
      return NOT_DONE;
    }
    int moved = 0;
    for (int k = 0; k < n; k++) {
      if (doEntry(schedule >>> (3 * k) & 7)) {
        moved++;
      }
    }
    return moved;
  }

  public int repeat(int entry, int n) {
    if (entry < 0 || entry >= ENTRIES || n < 0 || n > MOST_IN_REPEAT) {
      return NOT_DONE;
    }
    int moved = 0;
    for (int k = 0; k < n; k++) {
      if (doEntry(entry)) {
        moved++;
      }
    }
    return moved;
  }

  public int code(int mutator, int k) {
    return isMutator(mutator) ? mutators[mutator].instructionAt(k) : NONE;
  }

  public int position(int mutator) {
    return isMutator(mutator) ? mutators[mutator].at : NONE;
  }

  public int variable(int mutator, int k) {
    return isMutator(mutator) ? mutators[mutator].variableAt(k) : NONE;
  }

  public int status(int mutator) {
    return isMutator(mutator) ? mutators[mutator].standing : NONE;
  }

  public int buffered(int mutator) {
    return isMutator(mutator) ? mutators[mutator].buffer.count : NONE;
  }

  public int stalls(int mutator) {
    return isMutator(mutator) ? mutators[mutator].stallCount : NONE;
  }

  public int outputs(int mutator) {
    return isMutator(mutator) ? mutators[mutator].outs.count : NONE;
  }

  public int output(int mutator, int k) {
    return isMutator(mutator) ? mutators[mutator].outs.latest(k) : 0;
  }

  public int colour(int cell) {
    return memory.isCell(cell) ? memory.colours[cell] : NONE;
  }

  public int field(int cell, int k) {
    return memory.isCell(cell) && isField(k) ? memory.read(cell, k) : NONE;
  }

  public int seen(int mutator, int cell, int k) {
    if (!isMutator(mutator) || !memory.isCell(cell) || !isField(k)) {
      return NONE;
    }
    return mutators[mutator].buffer.look(memory, cell, k);
  }

  public int phase() {
    return collector.stage;
  }

  public int cycles() {
    return collector.cycleCount;
  }

  public int free() {
    return memory.countOf(FREE);
  }

  public int reached() {
    return Integer.bitCount(reachedSet());
  }

  public boolean reaches(int cell) {
    return memory.isCell(cell) && (reachedSet() >> cell & 1) == 1;
  }

  private boolean doEntry(int entry) {
    Mutator mutator = mutators[entry & 1];
    switch (entry >> 1) {
      case 0:
        return mutator.doInstruction(memory);
      case 1:
        return mutator.buffer.passOldest(memory);
      case 2:
        return mutator.answer(memory, collector.asked());
      default:
        return collector.doStep(memory, mutators);
    }
  }

  private int reachedSet() {
    int roots = 0;
    for (int m = 0; m < MUTATORS; m++) {
      roots |= mutators[m].rootSet();
    }
    return memory.closure(roots);
  }

  private static boolean isMutator(int mutator) {
    return mutator >= 0 && mutator < MUTATORS;
  }

  private static boolean isField(int k) {
    return k >= 0 && k < FIELDS;
  }

  /** A set of cells is an int with one bit for each cell, so that no call has to make an object. */
  private static int setOf(int cell) {
    return cell == NONE ? 0 : 1 << cell;
  }

  private static final class Source {
    private static final int MOST_CHARACTERS = 60;
    private static final int MOST_DEEP = 6;
    private static final int FIRST_WRITABLE = 32;
    private static final int LAST_WRITABLE = 126;

    private final char[] text = new char[MOST_CHARACTERS];
    private int length = 0;
    // Every instruction takes at least one character of the text, so there are never more.
    private final int[] made = new int[MOST_CHARACTERS];
    private int madeCount = 0;
    // The TEST of each loop whose end is still to come, to tell it then where its BACK is.
    private final int[] openTests = new int[MOST_DEEP];
    private int depth = 0;

    boolean append(char c) {
      if (length >= MOST_CHARACTERS || c < FIRST_WRITABLE || c > LAST_WRITABLE) {
        return false;
      }
      text[length] = c;
      length++;
      return true;
    }

    void empty() {
      length = 0;
    }

    /** Answers whether the text is a program; if so, its instructions are in made. */
    boolean translate() {
      madeCount = 0;
      depth = 0;
      int at = 0;
      while (at < length) {
        int used = translateAt(at);
        if (used < 1) {
          return false;
        }
        at += used;
      }
      return depth == 0;
    }

    /** Answers how many characters were used, 0 if no statement and no end of a loop begins here. */
    private int translateAt(int at) {
      if (text[at] == '(') {
        return openLoop(at + 1);
      }
      if (text[at] == ')') {
        return closeLoop();
      }
      for (int kind = KIND_NEW; kind < KIND_LOOP; kind++) {
        String shape = shapeOf(kind);
        if (hasShape(at, shape)) {
          emit(kind + operandsAt(at, shape));
          return shape.length();
        }
      }
      return 0;
    }

    private int openLoop(int at) {
      if (depth >= MOST_DEEP || at >= length || !fits('R', text[at])) {
        return 0;
      }
      openTests[depth] = madeCount;
      depth++;
      emit(KIND_LOOP + P_UNIT * numberOf(text[at]));
      return 2;
    }

    private int closeLoop() {
      if (depth == 0) {
        return 0;
      }
      depth--;
      int test = openTests[depth];
      int back = madeCount;
      emit(made[test] + Q_UNIT + T_UNIT * test);
      made[test] += T_UNIT * back;
      return 1;
    }

    private void emit(int instruction) {
      made[madeCount] = instruction;
      madeCount++;
    }

    /** In a shape R stands for one of a b c d, I for one of x y z, and 0 for a digit. */
    private static String shapeOf(int kind) {
      switch (kind) {
        case KIND_NEW: return "R=*;";
        case KIND_NOTHING: return "R=-;";
        case KIND_COPY: return "R=R;";
        case KIND_GET_L: return "R=R.l;";
        case KIND_GET_R: return "R=R.r;";
        case KIND_SET_L: return "R.l=R;";
        case KIND_SET_R: return "R.r=R;";
        case KIND_CUT_L: return "R.l=-;";
        case KIND_CUT_R: return "R.r=-;";
        case KIND_SET_N: return "R.n=I;";
        case KIND_DIGIT: return "I=0;";
        case KIND_COPY_INT: return "I=I;";
        case KIND_SUM: return "I=I+I;";
        case KIND_GET_N: return "I=R.n;";
        case KIND_PUT_OUT:
        default: return "!I;";
      }
    }

    private boolean hasShape(int at, String shape) {
      if (at + shape.length() > length) {
        return false;
      }
      for (int k = 0; k < shape.length(); k++) {
        if (!fits(shape.charAt(k), text[at + k])) {
          return false;
        }
      }
      return true;
    }

    private static boolean fits(char mould, char c) {
      if (mould == 'R') {
        return c >= 'a' && c <= 'd';
      }
      if (mould == 'I') {
        return c >= 'x' && c <= 'z';
      }
      if (mould == '0') {
        return c >= '0' && c <= '9';
      }
      return c == mould;
    }

    /** The operands stand in the text in the order p, q, t; a digit is t wherever it stands. */
    private int operandsAt(int at, String shape) {
      int operands = 0;
      int unit = P_UNIT;
      for (int k = 0; k < shape.length(); k++) {
        char mould = shape.charAt(k);
        if (mould == '0') {
          operands += T_UNIT * numberOf(text[at + k]);
        } else if (mould == 'R' || mould == 'I') {
          operands += unit * numberOf(text[at + k]);
          unit *= Q_UNIT / P_UNIT;
        }
      }
      return operands;
    }

    private static int numberOf(char c) {
      if (c >= 'x') {
        return c - 'x';
      }
      return c >= 'a' ? c - 'a' : c - '0';
    }
  }

  private static final class Memory {
    private final int size;
    private final int[] colours;
    private final int[] fields;

    Memory(int size) {
      this.size = size;
      colours = new int[size];
      fields = new int[FIELDS * size];
      for (int cell = 0; cell < size; cell++) {
        blank(cell);
      }
    }

    boolean isCell(int cell) {
      return cell >= 0 && cell < size;
    }

    int read(int cell, int k) {
      return fields[FIELDS * cell + k];
    }

    void put(int cell, int k, int value) {
      fields[FIELDS * cell + k] = value;
    }

    void mark(int cell) {
      if (cell != NONE && colours[cell] == WHITE) {
        colours[cell] = GREY;
      }
    }

    int takeFree(int newColour) {
      int cell = leastOf(FREE);
      if (cell != NONE) {
        colours[cell] = newColour;
        blank(cell);
      }
      return cell;
    }

    int leastOf(int wanted) {
      for (int cell = 0; cell < size; cell++) {
        if (colours[cell] == wanted) {
          return cell;
        }
      }
      return NONE;
    }

    int countOf(int wanted) {
      int count = 0;
      for (int cell = 0; cell < size; cell++) {
        if (colours[cell] == wanted) {
          count++;
        }
      }
      return count;
    }

    void whitenUsed() {
      for (int cell = 0; cell < size; cell++) {
        if (colours[cell] != FREE) {
          colours[cell] = WHITE;
        }
      }
    }

    /** Each round but the last finds a new cell, so as many rounds as there are cells are enough. */
    int closure(int roots) {
      int set = roots;
      for (int round = 0; round < size; round++) {
        for (int cell = 0; cell < size; cell++) {
          if ((set >> cell & 1) == 1) {
            set |= setOf(read(cell, FIELD_L)) | setOf(read(cell, FIELD_R));
          }
        }
      }
      return set;
    }

    private void blank(int cell) {
      put(cell, FIELD_L, NONE);
      put(cell, FIELD_R, NONE);
      put(cell, FIELD_N, 0);
    }
  }

  /** The oldest store is always at 0: with three at most, moving the others up is the plainest way. */
  private static final class Buffer {
    private static final int MOST_STORES = 3;

    private final int[] cells = new int[MOST_STORES];
    private final int[] fields = new int[MOST_STORES];
    private final int[] values = new int[MOST_STORES];
    private int count = 0;

    boolean isFull() {
      return count >= MOST_STORES;
    }

    void add(int cell, int k, int value) {
      cells[count] = cell;
      fields[count] = k;
      values[count] = value;
      count++;
    }

    int look(Memory memory, int cell, int k) {
      for (int s = count - 1; s >= 0; s--) {
        if (cells[s] == cell && fields[s] == k) {
          return values[s];
        }
      }
      return memory.read(cell, k);
    }

    boolean passOldest(Memory memory) {
      if (count == 0) {
        return false;
      }
      memory.put(cells[0], fields[0], values[0]);
      count--;
      for (int s = 0; s < count; s++) {
        cells[s] = cells[s + 1];
        fields[s] = fields[s + 1];
        values[s] = values[s + 1];
      }
      return true;
    }

    void passAll(Memory memory) {
      for (int s = 0; s < count; s++) {
        memory.put(cells[s], fields[s], values[s]);
      }
      count = 0;
    }

    int rootSet() {
      int set = 0;
      for (int s = 0; s < count; s++) {
        set |= setOf(cells[s]);
        if (fields[s] != FIELD_N) {
          set |= setOf(values[s]);
        }
      }
      return set;
    }
  }

  /** Only the latest ints can be asked for, so no more of them are kept. */
  private static final class Outs {
    private static final int KEPT = 16;

    private final int[] ring = new int[KEPT];
    private int count = 0;

    void add(int value) {
      ring[placeOf(count)] = value;
      count++;
    }

    int latest(int k) {
      if (k < 0 || k >= KEPT || k >= count) {
        return 0;
      }
      return ring[placeOf(count - 1 - k)];
    }

    /** A plain remainder would be no place in the ring once the count of a very long run has wrapped. */
    private static int placeOf(int number) {
      return Math.floorMod(number, KEPT);
    }
  }

  private static final class Mutator {
    private static final int CELL_VARIABLES = 4;
    private static final int INT_VARIABLES = 3;

    private final int[] program = new int[Source.MOST_CHARACTERS];
    private int programSize = 0;
    private int at = 0;
    private final int[] cellVariables = {NONE, NONE, NONE, NONE};
    private final int[] intVariables = new int[INT_VARIABLES];
    private int standing = STATUS_REST;
    private int stallCount = 0;
    private final Buffer buffer = new Buffer();
    private final Outs outs = new Outs();

    void install(int[] instructions, int size) {
      System.arraycopy(instructions, 0, program, 0, size);
      programSize = size;
      at = 0;
    }

    int instructionAt(int k) {
      return k >= 0 && k < programSize ? program[k] : NONE;
    }

    int variableAt(int k) {
      if (k < 0 || k >= CELL_VARIABLES + INT_VARIABLES) {
        return NONE;
      }
      return k < CELL_VARIABLES ? cellVariables[k] : intVariables[k - CELL_VARIABLES];
    }

    boolean doInstruction(Memory memory) {
      if (at >= programSize) {
        return false;
      }
      int instruction = program[at];
      int kind = instruction % P_UNIT;
      int p = instruction / P_UNIT % 4;
      int q = instruction / Q_UNIT % 4;
      int t = instruction / T_UNIT;
      if (kind == KIND_LOOP) {
        at = behindLoopPart(p, q == 1, t);
        return true;
      }
      if (kind >= KIND_DIGIT) {
        doWithInts(memory, kind, p, q, t);
      } else if (!doWithCells(memory, kind, p, q)) {
        stallCount++;
        return false;
      }
      at++;
      return true;
    }

    private int behindLoopPart(int variable, boolean isBack, int partner) {
      if (isBack) {
        return partner;
      }
      return cellVariables[variable] == NONE ? partner + 1 : at + 1;
    }

    /** Answers false if the mutator stalls. */
    private boolean doWithCells(Memory memory, int kind, int p, int q) {
      switch (kind) {
        case KIND_NEW:
          return takeCell(memory, p);
        case KIND_NOTHING:
          cellVariables[p] = NONE;
          return true;
        case KIND_COPY:
          cellVariables[p] = cellVariables[q];
          return true;
        case KIND_GET_L:
          cellVariables[p] = get(memory, cellVariables[q], FIELD_L, NONE);
          return true;
        case KIND_GET_R:
          cellVariables[p] = get(memory, cellVariables[q], FIELD_R, NONE);
          return true;
        case KIND_SET_L:
          return store(memory, cellVariables[p], FIELD_L, cellVariables[q]);
        case KIND_SET_R:
          return store(memory, cellVariables[p], FIELD_R, cellVariables[q]);
        case KIND_CUT_L:
          return store(memory, cellVariables[p], FIELD_L, NONE);
        case KIND_CUT_R:
          return store(memory, cellVariables[p], FIELD_R, NONE);
        case KIND_SET_N:
        default:
          return store(memory, cellVariables[p], FIELD_N, intVariables[q]);
      }
    }

    private void doWithInts(Memory memory, int kind, int p, int q, int t) {
      switch (kind) {
        case KIND_DIGIT:
          intVariables[p] = t;
          break;
        case KIND_COPY_INT:
          intVariables[p] = intVariables[q];
          break;
        case KIND_SUM:
          intVariables[p] = intVariables[q] + intVariables[t];
          break;
        case KIND_GET_N:
          intVariables[p] = get(memory, cellVariables[q], FIELD_N, 0);
          break;
        case KIND_PUT_OUT:
        default:
          outs.add(intVariables[p]);
          break;
      }
    }

    private int get(Memory memory, int cell, int k, int ofNothing) {
      return cell == NONE ? ofNothing : buffer.look(memory, cell, k);
    }

    private boolean takeCell(Memory memory, int variable) {
      // From SECOND on, a new cell may come behind the trace, so it has to live through the sweep.
      boolean isLate = standing == STATUS_SECOND || standing == STATUS_ROOTS;
      int cell = memory.takeFree(isLate ? BLACK : WHITE);
      if (cell == NONE) {
        return false;
      }
      cellVariables[variable] = cell;
      return true;
    }

    private boolean store(Memory memory, int cell, int k, int value) {
      if (cell == NONE) {
        return true;
      }
      if (buffer.isFull()) {
        return false;
      }
      if (k != FIELD_N && standing != STATUS_REST) {
        memory.mark(buffer.look(memory, cell, k));
        memory.mark(value);
      }
      buffer.add(cell, k, value);
      return true;
    }

    boolean answer(Memory memory, int asked) {
      if (asked == NONE || asked == standing) {
        return false;
      }
      buffer.passAll(memory);
      standing = asked;
      if (asked == STATUS_ROOTS) {
        for (int v = 0; v < CELL_VARIABLES; v++) {
          memory.mark(cellVariables[v]);
        }
      }
      return true;
    }

    int rootSet() {
      int set = buffer.rootSet();
      for (int v = 0; v < CELL_VARIABLES; v++) {
        set |= setOf(cellVariables[v]);
      }
      return set;
    }
  }

  private static final class Collector {
    private static final int AT_REST = 0;
    private static final int ASKS_FIRST = 1;
    private static final int ASKS_ROOTS = 3;
    private static final int TRACES = 4;
    private static final int SWEEPS = 5;
    private static final int ASKS_REST = 6;

    private int stage = AT_REST;
    private int cycleCount = 0;
    private int halfScanned = NONE;
    private int sweepAt = 0;

    /** The status that is asked for, NONE if none is; the phases 1 to 3 ask for the status of their number. */
    int asked() {
      if (stage >= ASKS_FIRST && stage <= ASKS_ROOTS) {
        return stage;
      }
      return stage == ASKS_REST ? STATUS_REST : NONE;
    }

    boolean doStep(Memory memory, Mutator[] mutators) {
      switch (stage) {
        case AT_REST:
          memory.whitenUsed();
          stage = ASKS_FIRST;
          return true;
        case TRACES:
          trace(memory);
          return true;
        case SWEEPS:
          sweep(memory);
          return true;
        default:
          return passIfAnswered(mutators);
      }
    }

    private boolean passIfAnswered(Mutator[] mutators) {
      for (int m = 0; m < MUTATORS; m++) {
        if (mutators[m].standing != asked()) {
          return false;
        }
      }
      if (stage == ASKS_REST) {
        stage = AT_REST;
        cycleCount++;
      } else {
        stage++;
      }
      return true;
    }

    private void trace(Memory memory) {
      if (halfScanned != NONE) {
        memory.mark(memory.read(halfScanned, FIELD_R));
        memory.colours[halfScanned] = BLACK;
        halfScanned = NONE;
        return;
      }
      halfScanned = memory.leastOf(GREY);
      if (halfScanned != NONE) {
        memory.mark(memory.read(halfScanned, FIELD_L));
        return;
      }
      stage = SWEEPS;
      sweepAt = 0;
    }

    private void sweep(Memory memory) {
      if (memory.colours[sweepAt] == WHITE) {
        memory.colours[sweepAt] = FREE;
      }
      sweepAt++;
      if (sweepAt >= memory.size) {
        stage = ASKS_REST;
      }
    }
  }
}
