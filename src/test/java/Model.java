import java.util.ArrayDeque;
import java.util.ArrayList;
import java.util.Deque;
import java.util.HashMap;
import java.util.List;
import java.util.Map;

/**
 * The document written a second time, with lists, maps, recursion and exceptions, to compare the class
 * with. The names of the primitives can be given, so that short ones make every primitive reachable.
 */
final class Model {
  private static final int NAMES = 1024;
  private static final int MARKERS = 2048;

  record Meaning(int kind, int value, List<Integer> parameters, List<Integer> replacement) {}

  private static final Meaning UNDEFINED = new Meaning(TexMacroExpander.M_UNDEFINED, 0, List.of(), List.of());

  private static final class Stop extends RuntimeException {
    private static final long serialVersionUID = 1L;
    final int status;

    Stop(int status) {
      super(null, null, false, false);
      this.status = status;
    }
  }

  final int limit;
  final String input;
  final List<String> names = new ArrayList<>();
  final List<Meaning> meanings = new ArrayList<>();
  final int[] cats = new int[128];
  final List<Integer> output = new ArrayList<>();
  final Deque<Boolean> conditionals = new ArrayDeque<>();
  final Deque<Map<String, Object>> groups = new ArrayDeque<>();
  int expansions = 0;
  int status = TexMacroExpander.S_FRESH;

  private final List<Integer> pending = new ArrayList<>();
  private int position = 0;

  Model(int limit, String input, String[] primitives) {
    this.limit = Math.max(1, Math.min(100, limit));
    this.input = input;
    for (String name : primitives) {
      meanings.add(new Meaning(TexMacroExpander.M_PRIMITIVE, names.size(), List.of(), List.of()));
      names.add(name);
    }
    for (int c = 0; c < 128; c++) {
      int special = "\\{}# ".indexOf(c);
      cats[c] = special >= 0 ? special : Character.isLetter(c) ? 5 : Character.isISOControl(c) ? 7 : 6;
    }
  }

  void run() {
    try {
      for (Integer token = read(); token != null; token = read()) {
        obey(token);
      }
      status = TexMacroExpander.S_DONE;
    } catch (Stop stop) {
      status = stop.status;
    }
  }

  // ---- tokens ----

  private Integer read() {
    return pending.isEmpty() ? readRaw() : pending.remove(0);
  }

  private int need() {
    Integer token = read();
    if (token == null) {
      throw new Stop(TexMacroExpander.E_RUNAWAY);
    }
    return token;
  }

  /** Looks at the token i places ahead. */
  private int look(int i) {
    while (pending.size() <= i) {
      Integer token = readRaw();
      if (token == null) {
        throw new Stop(TexMacroExpander.E_RUNAWAY);
      }
      pending.add(token);
    }
    return pending.get(i);
  }

  private Integer readRaw() {
    while (position < input.length()) {
      char c = input.charAt(position++);
      if (cats[c] == 0) {
        return readName();
      }
      if (cats[c] != 7) {
        return cats[c] * 128 + c;
      }
    }
    return null;
  }

  private int readName() {
    if (position == input.length()) {
      throw new Stop(TexMacroExpander.E_RUNAWAY);
    }
    String name = "" + input.charAt(position++);
    if (cats[name.charAt(0)] == 5) {
      while (comes(5)) {
        name += input.charAt(position++);
      }
      while (comes(4)) {
        position++;
      }
    }
    if (name.length() > 8) {
      throw new Stop(TexMacroExpander.E_NAME_LONG);
    }
    if (!names.contains(name)) {
      if (names.size() == 32) {
        throw new Stop(TexMacroExpander.E_NAME_FULL);
      }
      names.add(name);
      meanings.add(UNDEFINED);
    }
    return NAMES + names.indexOf(name);
  }

  private boolean comes(int cat) {
    return position < input.length() && cats[input.charAt(position)] == cat;
  }

  private static boolean isName(int token) {
    return token >= NAMES;
  }

  private static boolean hasCat(int token, int cat) {
    return !isName(token) && token / 128 == cat;
  }

  private static boolean hasChar(int token, int c) {
    return !isName(token) && token % 128 == c;
  }

  private Meaning meaning(int token) {
    return isName(token) ? meanings.get(token - NAMES)
      : new Meaning(TexMacroExpander.M_LETCHAR, token, List.of(), List.of());
  }

  private boolean isPrimitive(int token, int from, int to) {
    Meaning m = meaning(token);
    return m.kind() == TexMacroExpander.M_PRIMITIVE && m.value() >= from && m.value() <= to;
  }

  private void prepend(List<Integer> tokens) {
    if (tokens.size() + pending.size() > 256) {
      throw new Stop(TexMacroExpander.E_PENDING_FULL);
    }
    pending.addAll(0, tokens);
  }

  // ---- acting ----

  private void obey(int token) {
    Meaning m = meaning(token);
    switch (m.kind()) {
      case TexMacroExpander.M_UNDEFINED -> throw new Stop(TexMacroExpander.E_UNDEFINED);
      case TexMacroExpander.M_MACRO -> expand(m);
      case TexMacroExpander.M_PRIMITIVE -> obeyPrimitive(m.value());
      default -> {
        if (hasCat(m.value(), 1)) {
          open();
        }
        if (hasCat(m.value(), 2)) {
          close();
        }
        if (output.size() == 256) {
          throw new Stop(TexMacroExpander.E_OUTPUT_FULL);
        }
        output.add(m.value());
      }
    }
  }

  private void obeyPrimitive(int p) {
    switch (p) {
      case 0, 1 -> define(p == 1);
      case 2, 3 -> let(p == 3);
      case 4 -> expandAfter();
      case 5 -> open();
      case 6 -> close();
      case 7, 8 -> changeCatcode(p == 8);
      case 9 -> push(true);
      case 10 -> beFalse();
      case 11 -> {
        Meaning one = meaning(need());
        Meaning other = meaning(need());
        if (one.equals(other)) {
          push(true);
        } else {
          beFalse();
        }
      }
      case 12 -> {
        if (conditionals.isEmpty() || !conditionals.peek()) {
          throw new Stop(TexMacroExpander.E_EXTRA_COND);
        }
        skip(false);
        conditionals.pop();
      }
      default -> {
        if (conditionals.isEmpty()) {
          throw new Stop(TexMacroExpander.E_EXTRA_COND);
        }
        conditionals.pop();
      }
    }
  }

  private void push(boolean isIf) {
    if (conditionals.size() == 8) {
      throw new Stop(TexMacroExpander.E_COND_DEEP);
    }
    conditionals.push(isIf);
  }

  private void beFalse() {
    if (skip(true)) {
      push(false);
    }
  }

  /** Answers whether the skip ended on an else. */
  private boolean skip(boolean seekElse) {
    while (true) {
      int token = need();
      if (isPrimitive(token, 9, 11)) {
        // An inner conditional goes up to its own fi, whatever its elses are.
        skip(false);
      } else if (isPrimitive(token, 13, 13)) {
        return false;
      } else if (seekElse && isPrimitive(token, 12, 12)) {
        return true;
      }
    }
  }

  private void open() {
    if (groups.size() == 8) {
      throw new Stop(TexMacroExpander.E_GROUP_DEEP);
    }
    groups.push(new HashMap<>());
  }

  private void close() {
    if (groups.isEmpty()) {
      throw new Stop(TexMacroExpander.E_EXTRA_END);
    }
    groups.pop().forEach(this::set);
  }

  private Object get(String item) {
    int number = Integer.parseInt(item.substring(1));
    return item.startsWith("m") ? meanings.get(number) : (Object) cats[number];
  }

  private void set(String item, Object value) {
    int number = Integer.parseInt(item.substring(1));
    if (item.startsWith("m")) {
      meanings.set(number, (Meaning) value);
    } else {
      cats[number] = (Integer) value;
    }
  }

  private void assign(String item, Object value, boolean global) {
    if (global) {
      groups.forEach(saved -> saved.computeIfPresent(item, (key, old) -> value));
    } else if (!groups.isEmpty() && !groups.peek().containsKey(item)) {
      if (groups.stream().mapToInt(Map::size).sum() == 32) {
        throw new Stop(TexMacroExpander.E_SAVE_FULL);
      }
      groups.peek().put(item, get(item));
    }
    set(item, value);
  }

  // ---- def, let, catcode ----

  private int target() {
    int token = need();
    if (!isName(token)) {
      throw new Stop(TexMacroExpander.E_BAD_DEF);
    }
    return token - NAMES;
  }

  private void define(boolean global) {
    int target = target();
    List<Integer> parameters = new ArrayList<>();
    int count = 0;
    for (int token = need(); !hasCat(token, 1); token = need()) {
      if (hasCat(token, 2)) {
        throw new Stop(TexMacroExpander.E_BAD_DEF);
      }
      if (hasCat(token, 3)) {
        count++;
        if (!hasChar(need(), '0' + count)) {
          throw new Stop(TexMacroExpander.E_BAD_DEF);
        }
        token = MARKERS + count;
      }
      addBelow(parameters, token, 8);
    }
    List<Integer> replacement = new ArrayList<>();
    int braces = 1;
    while (true) {
      int token = need();
      braces += hasCat(token, 1) ? 1 : hasCat(token, 2) ? -1 : 0;
      if (braces == 0) {
        break;
      }
      addBelow(replacement, hasCat(token, 3) ? pair(token, need(), count) : token, 24);
    }
    assign("m" + target, new Meaning(TexMacroExpander.M_MACRO, count, parameters, replacement), global);
  }

  private static int pair(int token, int next, int count) {
    if (hasCat(next, 3)) {
      return token;
    }
    for (int k = 1; k <= count; k++) {
      if (hasChar(next, '0' + k)) {
        return MARKERS + k;
      }
    }
    throw new Stop(TexMacroExpander.E_BAD_DEF);
  }

  private static void addBelow(List<Integer> text, int token, int most) {
    if (text.size() == most) {
      throw new Stop(TexMacroExpander.E_TOO_LONG);
    }
    text.add(token);
  }

  private void let(boolean global) {
    int target = target();
    assign("m" + target, meaning(need()), global);
  }

  private void changeCatcode(boolean global) {
    int token = need();
    if (isName(token) && names.get(token - NAMES).length() != 1) {
      throw new Stop(TexMacroExpander.E_BAD_CATCODE);
    }
    int c = isName(token) ? names.get(token - NAMES).charAt(0) : token % 128;
    int digit = need();
    if (isName(digit) || "01234567".indexOf(digit % 128) < 0) {
      throw new Stop(TexMacroExpander.E_BAD_CATCODE);
    }
    assign("c" + c, digit % 128 - '0', global);
  }

  // ---- expansion ----

  private void expand(Meaning macro) {
    if (expansions == limit) {
      throw new Stop(TexMacroExpander.E_EXPANSIONS);
    }
    expansions++;
    List<List<Integer>> delimiters = new ArrayList<>();
    delimiters.add(new ArrayList<>());
    for (int token : macro.parameters()) {
      if (token > MARKERS) {
        delimiters.add(new ArrayList<>());
      } else {
        delimiters.get(delimiters.size() - 1).add(token);
      }
    }
    for (int token : delimiters.get(0)) {
      if (need() != token) {
        throw new Stop(TexMacroExpander.E_NO_MATCH);
      }
    }
    List<List<Integer>> arguments = new ArrayList<>();
    int total = 0;
    for (List<Integer> delimiter : delimiters.subList(1, delimiters.size())) {
      List<Integer> argument = delimiter.isEmpty() ? undelimited(total) : delimited(delimiter, total);
      arguments.add(argument);
      total += argument.size();
    }
    List<Integer> result = new ArrayList<>();
    for (int token : macro.replacement()) {
      result.addAll(token > MARKERS ? arguments.get(token - MARKERS - 1) : List.of(token));
    }
    prepend(result);
  }

  private List<Integer> undelimited(int total) {
    int token = need();
    while (hasCat(token, 4)) {
      token = need();
    }
    if (hasCat(token, 2)) {
      throw new Stop(TexMacroExpander.E_NO_MATCH);
    }
    List<Integer> argument = new ArrayList<>();
    argument.add(token);
    if (!hasCat(token, 1)) {
      checkLength(argument, total);
      return argument;
    }
    while (groupEnd(argument) < 0) {
      argument.add(need());
      checkLength(argument, total);
    }
    return argument.subList(1, argument.size() - 1);
  }

  private List<Integer> delimited(List<Integer> delimiter, int total) {
    List<Integer> argument = new ArrayList<>();
    int depth = 0;
    while (depth > 0 || !comesNext(delimiter)) {
      int token = need();
      if (hasCat(token, 2) && depth == 0) {
        throw new Stop(TexMacroExpander.E_NO_MATCH);
      }
      depth += hasCat(token, 1) ? 1 : hasCat(token, 2) ? -1 : 0;
      argument.add(token);
      checkLength(argument, total);
    }
    delimiter.forEach(token -> need());
    boolean oneGroup = !argument.isEmpty() && groupEnd(argument) == argument.size() - 1;
    return oneGroup ? argument.subList(1, argument.size() - 1) : argument;
  }

  private boolean comesNext(List<Integer> delimiter) {
    for (int i = 0; i < delimiter.size(); i++) {
      if (look(i) != delimiter.get(i)) {
        return false;
      }
    }
    return true;
  }

  /** Where the group that starts the argument ends; -1 if it is open; -2 if none starts it. */
  private static int groupEnd(List<Integer> argument) {
    if (!hasCat(argument.get(0), 1)) {
      return -2;
    }
    int depth = 0;
    for (int i = 0; i < argument.size(); i++) {
      depth += hasCat(argument.get(i), 1) ? 1 : hasCat(argument.get(i), 2) ? -1 : 0;
      if (depth == 0) {
        return i;
      }
    }
    return -1;
  }

  /** The least length that the argument can end with must leave the sum at 256 or below. */
  private static void checkLength(List<Integer> argument, int total) {
    int end = groupEnd(argument);
    int braces = end == -1 ? 1 : end == argument.size() - 1 ? 2 : 0;
    if (total + argument.size() - braces > 256) {
      throw new Stop(TexMacroExpander.E_PENDING_FULL);
    }
  }

  private void expandAfter() {
    int first = need();
    int second = need();
    Meaning m = meaning(second);
    if (m.kind() == TexMacroExpander.M_MACRO) {
      expand(m);
    } else if (isPrimitive(second, 4, 4) || isPrimitive(second, 9, 13)) {
      obeyPrimitive(m.value());
    } else {
      prepend(List.of(second));
    }
    prepend(List.of(first));
  }
}
