import java.util.ArrayDeque;
import java.util.ArrayList;
import java.util.Deque;
import java.util.HashSet;
import java.util.List;
import java.util.Set;
import java.util.regex.Matcher;
import java.util.regex.Pattern;

/**
 * All promises together: long runs of calls, made by a row of numbers that is always the same, on the class and on a
 * second, plain telling of the document, which hold the same state in different ways and must answer alike.
 */
public final class ModelTest {
  private static final Check check = new Check();
  private static final int RUNS = 1500;
  // The last comparison takes fewer than 200 calls and a load fewer than 62, which leaves all below 512.
  private static final int LAST_STEP = 300;
  private static final int LAST_LOAD = 230;

  public static void main(String[] args) {
    long collected = 0;
    for (int run = 0; run < RUNS; run++) {
      check.about("run " + run);
      collected += new Run(run).go();
    }
    check.about("all runs");
    check.due("cycles are counted in some", collected > 100, true);
    check.end();
  }

  enum Colour { FREE, WHITE, GREY, BLACK }

  static final class Cell {
    final int number;
    Colour colour = Colour.FREE;
    Cell l;
    Cell r;
    int n;

    Cell(int number) {
      this.number = number;
    }

    void put(char field, Cell cell, int value) {
      if (field == 'l') {
        l = cell;
      } else if (field == 'r') {
        r = cell;
      } else {
        n = value;
      }
    }

    static void mark(Cell cell) {
      if (cell != null && cell.colour == Colour.WHITE) {
        cell.colour = Colour.GREY;
      }
    }
  }

  record Store(Cell cell, char field, Cell value, int number) {
    void pass() {
      cell.put(field, value, number);
    }
  }

  /** One instruction: its text (of a loop's parts "(a" and ")a") and, for a loop's part, where its partner is. */
  static final class Line {
    final String text;
    int partner = -1;

    Line(String text) {
      this.text = text;
    }
  }

  /** The kinds in the order of promise 6, each as a pattern. */
  static final String[] KINDS = {
    "([a-d])=\\*;", "([a-d])=-;", "([a-d])=([a-d]);", "([a-d])=([a-d])\\.l;", "([a-d])=([a-d])\\.r;",
    "([a-d])\\.l=([a-d]);", "([a-d])\\.r=([a-d]);", "([a-d])\\.l=-;", "([a-d])\\.r=-;", "([a-d])\\.n=([xyz]);",
    "([xyz])=([0-9]);", "([xyz])=([xyz]);", "([xyz])=([xyz])\\+([xyz]);", "([xyz])=([a-d])\\.n;", "!([xyz]);",
  };
  static final Pattern STATEMENT = Pattern.compile(String.join("|", KINDS));

  static List<Line> parse(String text) {
    List<Line> lines = new ArrayList<>();
    Deque<Integer> open = new ArrayDeque<>();
    Matcher matcher = STATEMENT.matcher(text);
    int at = 0;
    while (at < text.length()) {
      if (text.charAt(at) == '(' && text.substring(at).matches("(?s)\\([a-d].*") && open.size() < 6) {
        open.push(lines.size());
        lines.add(new Line(text.substring(at, at + 2)));
        at += 2;
      } else if (text.charAt(at) == ')' && !open.isEmpty()) {
        int test = open.pop();
        lines.get(test).partner = lines.size();
        Line back = new Line(")" + lines.get(test).text.charAt(1));
        back.partner = test;
        lines.add(back);
        at++;
      } else if (matcher.region(at, text.length()).lookingAt()) {
        lines.add(new Line(matcher.group()));
        at = matcher.end();
      } else {
        return null;
      }
    }
    return open.isEmpty() ? lines : null;
  }

  static int number(String variable) {
    return "abcd".contains(variable) ? "abcd".indexOf(variable) : "xyz".indexOf(variable);
  }

  static int code(Line line) {
    if (line.partner >= 0) {
      int part = line.text.charAt(0) == ')' ? 64 : 0;
      return 15 + 16 * number(line.text.substring(1)) + part + 256 * line.partner;
    }
    for (int kind = 0; kind < KINDS.length; kind++) {
      Matcher matcher = Pattern.compile(KINDS[kind]).matcher(line.text);
      if (matcher.matches()) {
        int p = number(matcher.group(1));
        if (kind == 10) {
          return kind + 16 * p + 256 * Integer.parseInt(matcher.group(2));
        }
        int q = matcher.groupCount() > 1 ? number(matcher.group(2)) : 0;
        int t = matcher.groupCount() > 2 ? number(matcher.group(3)) : 0;
        return kind + 16 * p + 64 * q + 256 * t;
      }
    }
    throw new IllegalStateException(line.text);
  }

  static final class Worker {
    List<Line> program = List.of();
    int position = 0;
    final Cell[] cells = new Cell[4];
    final int[] ints = new int[3];
    String status = "REST";
    final List<Store> buffer = new ArrayList<>();
    int stalls = 0;
    final List<Integer> outs = new ArrayList<>();
  }

  /** The document, told once more. */
  static final class Model {
    final Cell[] cells;
    final Worker[] workers = {new Worker(), new Worker()};
    String text = "";
    int phase = 0;
    int cycles = 0;
    Cell half = null;
    int sweep = 0;

    Model(int count) {
      cells = new Cell[count];
      for (int k = 0; k < count; k++) {
        cells[k] = new Cell(k);
      }
    }

    boolean write(char c) {
      if (text.length() == 60 || c < ' ' || c > '~') {
        return false;
      }
      text += c;
      return true;
    }

    int load(int mutator) {
      List<Line> lines = parse(text);
      text = "";
      if (mutator != 0 && mutator != 1) {
        return -1;
      }
      if (lines == null) {
        return -2;
      }
      workers[mutator].program = lines;
      workers[mutator].position = 0;
      return lines.size();
    }

    boolean entry(int number) {
      Worker worker = workers[number % 2];
      if (number < 2) {
        return worker.position < worker.program.size() && instruction(worker);
      }
      if (number < 4) {
        if (worker.buffer.isEmpty()) {
          return false;
        }
        worker.buffer.remove(0).pass();
        return true;
      }
      return number < 6 ? answer(worker) : collect();
    }

    String asked() {
      return List.of("", "FIRST", "SECOND", "ROOTS", "", "", "REST").get(phase);
    }

    boolean answer(Worker worker) {
      if (asked().isEmpty() || asked().equals(worker.status)) {
        return false;
      }
      worker.buffer.forEach(Store::pass);
      worker.buffer.clear();
      worker.status = asked();
      if (worker.status.equals("ROOTS")) {
        for (Cell cell : worker.cells) {
          Cell.mark(cell);
        }
      }
      return true;
    }

    boolean collect() {
      if (!asked().isEmpty()) {
        if (!workers[0].status.equals(asked()) || !workers[1].status.equals(asked())) {
          return false;
        }
        cycles += phase == 6 ? 1 : 0;
        phase = (phase + 1) % 7;
      } else if (phase == 0) {
        for (Cell cell : cells) {
          cell.colour = cell.colour == Colour.FREE ? Colour.FREE : Colour.WHITE;
        }
        phase = 1;
      } else if (phase == 4) {
        trace();
      } else {
        Cell cell = cells[sweep++];
        cell.colour = cell.colour == Colour.WHITE ? Colour.FREE : cell.colour;
        phase = sweep == cells.length ? 6 : 5;
      }
      return true;
    }

    void trace() {
      if (half != null) {
        Cell.mark(half.r);
        half.colour = Colour.BLACK;
        half = null;
        return;
      }
      half = first(Colour.GREY);
      if (half == null) {
        phase = 5;
        sweep = 0;
      } else {
        Cell.mark(half.l);
      }
    }

    Cell first(Colour colour) {
      for (Cell cell : cells) {
        if (cell.colour == colour) {
          return cell;
        }
      }
      return null;
    }

    Cell seenCell(Worker worker, Cell cell, char field) {
      Cell value = field == 'l' ? cell.l : cell.r;
      for (Store store : worker.buffer) {
        value = store.cell() == cell && store.field() == field ? store.value() : value;
      }
      return value;
    }

    int seenInt(Worker worker, Cell cell) {
      int value = cell.n;
      for (Store store : worker.buffer) {
        value = store.cell() == cell && store.field() == 'n' ? store.number() : value;
      }
      return value;
    }

    boolean instruction(Worker worker) {
      Line line = worker.program.get(worker.position);
      String s = line.text;
      if (s.startsWith(")")) {
        worker.position = line.partner;
        return true;
      }
      if (s.startsWith("(")) {
        boolean out = worker.cells[number(s.substring(1))] == null;
        worker.position = out ? line.partner + 1 : worker.position + 1;
        return true;
      }
      boolean done = s.charAt(1) == '.' ? store(worker, s) : assign(worker, s);
      worker.position += done ? 1 : 0;
      worker.stalls += done ? 0 : 1;
      return done;
    }

    boolean store(Worker worker, String s) {
      Cell cell = worker.cells[number(s.substring(0, 1))];
      char field = s.charAt(2);
      String operand = s.substring(4, 5);
      if (cell == null) {
        return true;
      }
      if (worker.buffer.size() == 3) {
        return false;
      }
      if (field == 'n') {
        worker.buffer.add(new Store(cell, field, null, worker.ints[number(operand)]));
        return true;
      }
      Cell value = operand.equals("-") ? null : worker.cells[number(operand)];
      if (!worker.status.equals("REST")) {
        Cell.mark(seenCell(worker, cell, field));
        Cell.mark(value);
      }
      worker.buffer.add(new Store(cell, field, value, 0));
      return true;
    }

    boolean assign(Worker worker, String s) {
      if (s.startsWith("!")) {
        worker.outs.add(worker.ints[number(s.substring(1, 2))]);
        return true;
      }
      int to = number(s.substring(0, 1));
      String from = s.substring(2, s.length() - 1);
      if (s.charAt(0) >= 'x') {
        worker.ints[to] = intOf(worker, from);
        return true;
      }
      if (!from.equals("*")) {
        worker.cells[to] = cellOf(worker, from);
        return true;
      }
      Cell cell = first(Colour.FREE);
      if (cell == null) {
        return false;
      }
      cell.colour = worker.status.equals("SECOND") || worker.status.equals("ROOTS") ? Colour.BLACK : Colour.WHITE;
      cell.l = null;
      cell.r = null;
      cell.n = 0;
      worker.cells[to] = cell;
      return true;
    }

    int intOf(Worker worker, String from) {
      if (from.matches("[0-9]")) {
        return Integer.parseInt(from);
      }
      if (from.endsWith(".n")) {
        Cell cell = worker.cells[number(from.substring(0, 1))];
        return cell == null ? 0 : seenInt(worker, cell);
      }
      int sum = 0;
      for (String part : from.split("\\+")) {
        sum += worker.ints[number(part)];
      }
      return sum;
    }

    Cell cellOf(Worker worker, String from) {
      if (from.equals("-")) {
        return null;
      }
      Cell cell = worker.cells[number(from.substring(0, 1))];
      return from.length() == 1 || cell == null ? cell : seenCell(worker, cell, from.charAt(2));
    }

    Set<Cell> reached() {
      Set<Cell> found = new HashSet<>();
      for (Worker worker : workers) {
        for (Cell cell : worker.cells) {
          reach(cell, found);
        }
        for (Store store : worker.buffer) {
          reach(store.cell(), found);
          reach(store.value(), found);
        }
      }
      return found;
    }

    private static void reach(Cell cell, Set<Cell> found) {
      if (cell != null && found.add(cell)) {
        reach(cell.l, found);
        reach(cell.r, found);
      }
    }
  }

  /** One object and one model, and what is asked of both; at most 512 calls. */
  static final class Run {
    private long state;
    private final QuietSweep q;
    private final Model model;
    private int calls = 0;

    Run(int run) {
      state = run * 7919L + 17;
      int cells = next(8);
      q = new QuietSweep(cells + 8 * (run % 5 - 2));
      model = new Model(cells + 4);
    }

    int next(int bound) {
      state = state * 6364136223846793005L + 1442695040888963407L;
      return (int) ((state >>> 33) % bound);
    }

    int go() {
      load(0, program());
      load(1, program());
      while (calls < LAST_STEP) {
        int kind = next(30);
        if (kind == 0 && calls < LAST_LOAD) {
          load(next(2), program());
        } else if (kind == 1 && calls < LAST_LOAD) {
          load(next(4) - 1, brokenProgram());
        } else if (kind < 12) {
          repeat(next(8), next(8));
        } else {
          schedule();
        }
        compareBriefly();
      }
      compareAll();
      check.due("calls are few enough", calls <= 512, true);
      return model.cycles;
    }

    void load(int mutator, String text) {
      for (char c : text.toCharArray()) {
        due("write", q.write(c) ? 1 : 0, model.write(c) ? 1 : 0);
      }
      due("load of " + text, q.load(mutator), model.load(mutator));
    }

    void repeat(int entry, int n) {
      int moved = 0;
      for (int k = 0; k < n; k++) {
        moved += model.entry(entry) ? 1 : 0;
      }
      due("repeat(" + entry + ", " + n + ")", q.repeat(entry, n), moved);
    }

    void schedule() {
      int bits = 0;
      int moved = 0;
      for (int k = 0; k < 10; k++) {
        int entry = next(3) == 0 ? next(8) : next(4) == 0 ? next(2) : 4 + next(4);
        bits |= entry << 3 * k;
        moved += model.entry(entry) ? 1 : 0;
      }
      due("go(" + bits + ", 10)", q.go(bits | next(4) << 30, 10), moved);
    }

    String program() {
      StringBuilder text = new StringBuilder();
      int open = 0;
      for (int k = 0; k < 14 && text.length() < 46; k++) {
        int kind = next(8);
        if (kind == 0 && open < 5) {
          text.append('(').append(cell());
          open++;
        } else if (kind == 1 && open > 0) {
          text.append(')');
          open--;
        } else {
          text.append(statement());
        }
      }
      return text.append(")".repeat(open)).toString();
    }

    String brokenProgram() {
      StringBuilder text = new StringBuilder(program());
      if (text.length() > 0) {
        text.setCharAt(next(text.length()), (char) (30 + next(100)));
      }
      return text.toString();
    }

    char cell() {
      return "abcd".charAt(next(4));
    }

    char number() {
      return "xyz".charAt(next(3));
    }

    String statement() {
      switch (next(14)) {
        case 0: case 1: case 2: return cell() + "=*;";
        case 3: return cell() + "=" + cell() + ";";
        case 4: return cell() + "=" + cell() + "." + "lr".charAt(next(2)) + ";";
        case 5: case 6: case 7: return cell() + "." + "lr".charAt(next(2)) + "=" + cell() + ";";
        case 8: return cell() + "." + "lr".charAt(next(2)) + "=-;";
        case 9: return next(2) == 0 ? cell() + ".n=" + number() + ";" : number() + "=" + cell() + ".n;";
        case 10: return number() + "=" + next(10) + ";";
        case 11: return next(3) == 0 ? number() + "=" + number() + ";" : number() + "=" + number() + "+" + number() + ";";
        case 12: return "!" + number() + ";";
        default: return cell() + "=-;";
      }
    }

    void due(String call, long got, long want) {
      calls++;
      check.due(call, got, want);
    }

    void compareBriefly() {
      due("phase()", q.phase(), model.phase);
      due("reached()", q.reached(), model.reached().size());
      int cell = next(model.cells.length);
      due("colour(" + cell + ")", q.colour(cell), model.cells[cell].colour.ordinal());
      Worker worker = model.workers[cell % 2];
      due("position", q.position(cell % 2), worker.position);
    }

    void compareAll() {
      due("cycles()", q.cycles(), model.cycles);
      Set<Cell> reached = model.reached();
      int free = 0;
      for (Cell cell : model.cells) {
        int c = cell.number;
        free += cell.colour == Colour.FREE ? 1 : 0;
        due("colour(" + c + ")", q.colour(c), cell.colour.ordinal());
        due("field l", q.field(c, 0), numberOf(cell.l));
        due("field r", q.field(c, 1), numberOf(cell.r));
        due("field n", q.field(c, 2), cell.n);
        due("reaches(" + c + ")", q.reaches(c) ? 1 : 0, reached.contains(cell) ? 1 : 0);
        // What the document begins with: only cells that none can reach are given back.
        check.due("a reached cell is FREE", reached.contains(cell) && q.colour(c) == 0, false);
      }
      due("free()", q.free(), free);
      compareMutator(0);
      compareMutator(1);
    }

    static int numberOf(Cell cell) {
      return cell == null ? -1 : cell.number;
    }

    void compareMutator(int m) {
      Worker worker = model.workers[m];
      for (int k = 0; k < 7; k++) {
        due("variable", q.variable(m, k), k < 4 ? numberOf(worker.cells[k]) : worker.ints[k - 4]);
      }
      due("status", q.status(m), List.of("REST", "FIRST", "SECOND", "ROOTS").indexOf(worker.status));
      due("buffered", q.buffered(m), worker.buffer.size());
      due("stalls", q.stalls(m), worker.stalls);
      due("outputs", q.outputs(m), worker.outs.size());
      for (int k = 0; k < 4; k++) {
        int index = worker.outs.size() - 1 - k;
        due("output", q.output(m, k), index < 0 ? 0 : worker.outs.get(index));
      }
      for (int k = 0; k < 3; k++) {
        Cell cell = model.cells[next(model.cells.length)];
        due("seen l", q.seen(m, cell.number, 0), numberOf(model.seenCell(worker, cell, 'l')));
        due("seen r", q.seen(m, cell.number, 1), numberOf(model.seenCell(worker, cell, 'r')));
        due("seen n", q.seen(m, cell.number, 2), model.seenInt(worker, cell));
      }
      for (int k = 0; k <= worker.program.size(); k++) {
        due("code", q.code(m, k), k < worker.program.size() ? code(worker.program.get(k)) : -1);
      }
    }
  }
}
