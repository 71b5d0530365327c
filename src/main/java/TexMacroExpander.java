/**
 * Expands small TeX-like macro texts. Characters are fed one at a time, processed once by run(), and
 * the result is read back through the other methods.
 *
 * <p>There are no exceptions here: an error is a status. As soon as there is one, takeToken() hands
 * out no more tokens, so whoever was reading finds NO_TOKEN and goes home.
 */
public final class TexMacroExpander {
  public static final int CAT_ESCAPE = 0, CAT_BEGIN = 1, CAT_END = 2, CAT_PARAM = 3,
    CAT_SPACE = 4, CAT_LETTER = 5, CAT_OTHER = 6, CAT_IGNORED = 7;
  public static final int M_UNDEFINED = 0, M_PRIMITIVE = 1, M_MACRO = 2, M_LETCHAR = 3;
  public static final int S_FRESH = 0, S_DONE = 1, E_UNDEFINED = 2, E_RUNAWAY = 3, E_NAME_LONG = 4,
    E_NAME_FULL = 5, E_BAD_DEF = 6, E_TOO_LONG = 7, E_NO_MATCH = 8, E_EXTRA_END = 9,
    E_GROUP_DEEP = 10, E_SAVE_FULL = 11, E_COND_DEEP = 12, E_EXTRA_COND = 13, E_BAD_CATCODE = 14,
    E_OUTPUT_FULL = 15, E_PENDING_FULL = 16, E_EXPANSIONS = 17;

  private static final int P_DEF = 0, P_GDEF = 1, P_LET = 2, P_GLET = 3, P_EXPANDAFTER = 4,
    P_BEGINGROUP = 5, P_ENDGROUP = 6, P_CATCODE = 7, P_GCATCODE = 8, P_IFTRUE = 9, P_IFFALSE = 10,
    P_IFX = 11, P_ELSE = 12, P_FI = 13;

  private static final int CHARS = 128;
  private static final int INPUT_ROOM = 256;
  private static final int OUTPUT_ROOM = 256;
  private static final int PENDING_ROOM = 256;
  private static final int ARGUMENTS_LIMIT = 256;
  private static final int MOST_PARAMETERS = 9;
  private static final int HIGHEST_EXPANSION_LIMIT = 100;
  private static final int DEEPEST_GROUP = 8;
  private static final int COND_ROOM = 8;
  private static final int SAVE_ROOM = 32;

  // A name from the input has at most 8 characters, but the primitive 'expandafter' has 11.
  private static final int LONGEST_NAME = 8;
  private static final int NAME_CELLS = 11;
  private static final int NAME_ROOM = 32;
  private static final int NAME_CHARS_ROOM = NAME_ROOM * NAME_CELLS;

  private static final int FIRST_NAME_TOKEN = 1024;
  private static final int MARKER = 2048;
  private static final int NO_TOKEN = -1;
  private static final int NO_CHAR = -1;
  private static final int NO_PRIMITIVE = -1;

  // A meaning is a slot of cells. The cells that it does not use are 0, so that two meanings are
  // equal just when all their cells are.
  private static final int KIND = 0, VALUE = 1, PARAMETER_LENGTH = 2, REPLACEMENT_LENGTH = 3,
    PARAMETER_TEXT = 4, PARAMETER_ROOM = 8, REPLACEMENT = 12, REPLACEMENT_ROOM = 24,
    SLOT_CELLS = 36;

  // The slots: one for each name, one for each save, and two to work in.
  private static final int FIRST_SAVED_SLOT = NAME_ROOM;
  private static final int NEW_SLOT = FIRST_SAVED_SLOT + SAVE_ROOM;
  private static final int OTHER_SLOT = NEW_SLOT + 1;
  private static final int MEANINGS_ROOM = (OTHER_SLOT + 1) * SLOT_CELLS;

  // Each argument may for a while hold two outer braces that do not count in the end.
  private static final int ARGUMENTS_ROOM = ARGUMENTS_LIMIT + 2 * MOST_PARAMETERS;

  private static final int ARGUMENT_BOUNDS_ROOM = MOST_PARAMETERS + 1;

  // 'expandafter' takes two tokens for each one it holds, of at most 256 pending and 256 raw ones.
  private static final int HELD_ROOM = 256;

  private static final int COND_IF = 0, COND_ELSE = 1;

  // Far above what a run can need: 256 raw tokens, and 256 more for each of 100 expansions.
  private static final int STEP_BOUND = 1000000;

  private final int expansionLimit;
  private int expansionCount = 0;
  private int state = S_FRESH;

  private final int[] input = new int[INPUT_ROOM];
  private int inputLength = 0;
  private int inputPosition = 0;

  private final int[] output = new int[OUTPUT_ROOM];
  private int outputCount = 0;

  // The front of PENDING is the last cell in use: tokens come and go there.
  private final int[] pending = new int[PENDING_ROOM];
  private int pendingCount = 0;

  private final int[] catcodes = new int[CHARS];

  private final int[] nameChars = new int[NAME_CHARS_ROOM];
  private final int[] nameLengths = new int[NAME_ROOM];
  private int namesUsed = 0;

  private final int[] meanings = new int[MEANINGS_ROOM];

  // An item is a name's index, or NAME_ROOM + c for the catcode of char c. Levels never fall from
  // one save to the next, so the saves of the innermost group are the last ones.
  private final int[] savedItems = new int[SAVE_ROOM];
  private final int[] savedLevels = new int[SAVE_ROOM];
  private final int[] savedCatcodes = new int[SAVE_ROOM];
  private int saveCount = 0;
  private int depth = 0;

  private final int[] conditionals = new int[COND_ROOM];
  private int conditionalCount = 0;

  // The arguments of the macro being expanded stand one behind the other; argument k has the cells
  // argumentStarts[k] .. argumentEnds[k] - 1.
  private final int[] arguments = new int[ARGUMENTS_ROOM];
  private final int[] argumentStarts = new int[ARGUMENT_BOUNDS_ROOM];
  private final int[] argumentEnds = new int[ARGUMENT_BOUNDS_ROOM];
  private int argumentsUsed = 0;
  private int argumentsLimit = 0;

  private final int[] held = new int[HELD_ROOM];
  private int heldCount = 0;

  public TexMacroExpander(int expansionLimit) {
    if (expansionLimit < 1) {
      this.expansionLimit = 1;
    } else if (expansionLimit > HIGHEST_EXPANSION_LIMIT) {
      this.expansionLimit = HIGHEST_EXPANSION_LIMIT;
    } else {
      this.expansionLimit = expansionLimit;
    }
    setFirstCatcodes();
    addAllPrimitives();
  }

  public boolean feed(int c) {
    if (state != S_FRESH || c < 0 || c >= CHARS || inputLength >= INPUT_ROOM) {
      return false;
    }
    input[inputLength] = c;
    inputLength++;
    return true;
  }

  public int run() {
    for (int step = 0; step < STEP_BOUND && state == S_FRESH; step++) {
      heldCount = 0;
      int token = takeToken(S_DONE);
      if (primitiveOf(token) == P_EXPANDAFTER) {
        token = holdTokensBack();
      }
      if (token == NO_TOKEN) {
        break;
      }
      int kind = kindOf(token);
      int value = valueOf(token);
      if (heldCount > 0 && !isExpandable(token)) {
        putInFront(token);
      } else if (kind == M_LETCHAR) {
        actOnCharacter(value);
      } else if (kind == M_MACRO) {
        expandMacro(token - FIRST_NAME_TOKEN);
      } else if (kind == M_PRIMITIVE) {
        actOnPrimitive(value);
      } else {
        state = E_UNDEFINED;
      }
      putHeldTokensInFront();
    }
    return state;
  }

  public int status() {
    return state;
  }

  public int expansionsUsed() {
    return expansionCount;
  }

  public int outputLength() {
    return outputCount;
  }

  public int outputToken(int i) {
    return i >= 0 && i < outputCount ? output[i] : -1;
  }

  public int catcode(int c) {
    return c >= 0 && c < CHARS ? catcodes[c] : -1;
  }

  public int groupDepth() {
    return depth;
  }

  public int condDepth() {
    return conditionalCount;
  }

  public int nameCount() {
    return namesUsed;
  }

  public int nameLength(int idx) {
    return isName(idx) ? nameLengths[idx] : -1;
  }

  public int nameChar(int idx, int pos) {
    if (!isName(idx) || pos < 0 || pos >= nameLengths[idx]) {
      return -1;
    }
    return nameChars[idx * NAME_CELLS + pos];
  }

  public int meaningKind(int idx) {
    return isName(idx) ? meanings[idx * SLOT_CELLS + KIND] : -1;
  }

  public int meaningValue(int idx) {
    return isName(idx) ? meanings[idx * SLOT_CELLS + VALUE] : -1;
  }

  public int macroTextLength(int idx, int part) {
    return textLength(idx, part);
  }

  public int macroTextToken(int idx, int part, int i) {
    int length = textLength(idx, part);
    if (i < 0 || i >= length) {
      return -1;
    }
    int text = part == 0 ? PARAMETER_TEXT : REPLACEMENT;
    return meanings[idx * SLOT_CELLS + text + i];
  }

  // ---- The starting state ----

  private void setFirstCatcodes() {
    for (int c = 0; c < CHARS; c++) {
      boolean letter = c >= 'A' && c <= 'Z' || c >= 'a' && c <= 'z';
      boolean ignored = c < 32 || c == 127;
      catcodes[c] = letter ? CAT_LETTER : ignored ? CAT_IGNORED : CAT_OTHER;
    }
    catcodes['\\'] = CAT_ESCAPE;
    catcodes['{'] = CAT_BEGIN;
    catcodes['}'] = CAT_END;
    catcodes['#'] = CAT_PARAM;
    catcodes[' '] = CAT_SPACE;
  }

  private void addAllPrimitives() {
    addPrimitive('d', 'e', 'f', 0, 0, 0, 0);
    addPrimitive('g', 'd', 'e', 'f', 0, 0, 0);
    addPrimitive('l', 'e', 't', 0, 0, 0, 0);
    addPrimitive('g', 'l', 'e', 't', 0, 0, 0);
    addPrimitive('e', 'x', 'p', 'a', 'n', 'd', 'a');
    lengthenLastName('f', 't', 'e', 'r');
    addPrimitive('b', 'e', 'g', 'i', 'n', 'g', 'r');
    lengthenLastName('o', 'u', 'p', 0);
    addPrimitive('e', 'n', 'd', 'g', 'r', 'o', 'u');
    lengthenLastName('p', 0, 0, 0);
    addPrimitive('c', 'a', 't', 'c', 'o', 'd', 'e');
    addPrimitive('g', 'c', 'a', 't', 'c', 'o', 'd');
    lengthenLastName('e', 0, 0, 0);
    addPrimitive('i', 'f', 't', 'r', 'u', 'e', 0);
    addPrimitive('i', 'f', 'f', 'a', 'l', 's', 'e');
    addPrimitive('i', 'f', 'x', 0, 0, 0, 0);
    addPrimitive('e', 'l', 's', 'e', 0, 0, 0);
    addPrimitive('f', 'i', 0, 0, 0, 0, 0);
  }

  /** Adds a name of up to seven letters, 0 standing for none, as the next primitive. */
  private void addPrimitive(int a, int b, int c, int d, int e, int f, int g) {
    meanings[namesUsed * SLOT_CELLS + KIND] = M_PRIMITIVE;
    meanings[namesUsed * SLOT_CELLS + VALUE] = namesUsed;
    namesUsed++;
    lengthenLastName(a, b, c, d);
    lengthenLastName(e, f, g, 0);
  }

  private void lengthenLastName(int a, int b, int c, int d) {
    addCharToLastName(a);
    addCharToLastName(b);
    addCharToLastName(c);
    addCharToLastName(d);
  }

  private void addCharToLastName(int c) {
    int name = namesUsed - 1;
    if (c != 0 && nameLengths[name] < NAME_CELLS) {
      nameChars[name * NAME_CELLS + nameLengths[name]] = c;
      nameLengths[name]++;
    }
  }

  // ---- Tokens ----

  /** The next token, or NO_TOKEN if the run has stopped; the end of input stops it with endStatus. */
  private int takeToken(int endStatus) {
    if (state != S_FRESH) {
      return NO_TOKEN;
    }
    if (pendingCount > 0) {
      pendingCount--;
      return pending[pendingCount];
    }
    for (int at = inputPosition; at < inputLength; at++) {
      int c = input[at];
      int category = catcodes[c];
      inputPosition = at + 1;
      if (category == CAT_ESCAPE) {
        int length = scanName();
        return length == 0 ? NO_TOKEN : nameToken(at + 1, length);
      }
      if (category != CAT_IGNORED) {
        return category * CHARS + c;
      }
    }
    state = endStatus;
    return NO_TOKEN;
  }

  /** Moves past the name at the input position; answers its length, or 0 if the run has stopped. */
  private int scanName() {
    if (inputPosition >= inputLength) {
      state = E_RUNAWAY;
      return 0;
    }
    int start = inputPosition;
    int end = start + 1;
    int next = end;
    if (catcodes[input[start]] == CAT_LETTER) {
      while (end < inputLength && catcodes[input[end]] == CAT_LETTER) {
        end++;
      }
      next = end;
      while (next < inputLength && catcodes[input[next]] == CAT_SPACE) {
        next++;
      }
    }
    inputPosition = next;
    if (end - start > LONGEST_NAME) {
      state = E_NAME_LONG;
      return 0;
    }
    return end - start;
  }

  /** The token of the name that stands in the input; a name not seen before joins the table. */
  private int nameToken(int start, int length) {
    for (int name = 0; name < namesUsed; name++) {
      boolean same = nameLengths[name] == length;
      for (int i = 0; i < length && same; i++) {
        same = nameChars[name * NAME_CELLS + i] == input[start + i];
      }
      if (same) {
        return FIRST_NAME_TOKEN + name;
      }
    }
    if (namesUsed >= NAME_ROOM) {
      state = E_NAME_FULL;
      return NO_TOKEN;
    }
    for (int i = 0; i < length; i++) {
      nameChars[namesUsed * NAME_CELLS + i] = input[start + i];
    }
    nameLengths[namesUsed] = length;
    namesUsed++;
    return FIRST_NAME_TOKEN + namesUsed - 1;
  }

  private void putInFront(int token) {
    if (pendingCount >= PENDING_ROOM) {
      state = E_PENDING_FULL;
      return;
    }
    pending[pendingCount] = token;
    pendingCount++;
  }

  /** The category of a character token; a name's token has CAT_ESCAPE, which no character token has. */
  private int categoryOf(int token) {
    return token < FIRST_NAME_TOKEN ? token / CHARS : CAT_ESCAPE;
  }

  private int charOf(int token) {
    return token < FIRST_NAME_TOKEN ? token % CHARS : NO_CHAR;
  }

  // ---- Meanings ----

  private boolean isName(int idx) {
    return idx >= 0 && idx < namesUsed;
  }

  private int textLength(int idx, int part) {
    if (!isName(idx) || part < 0 || part > 1 || meanings[idx * SLOT_CELLS + KIND] != M_MACRO) {
      return -1;
    }
    return meanings[idx * SLOT_CELLS + (part == 0 ? PARAMETER_LENGTH : REPLACEMENT_LENGTH)];
  }

  private int kindOf(int token) {
    if (token < FIRST_NAME_TOKEN) {
      return M_LETCHAR;
    }
    return meanings[(token - FIRST_NAME_TOKEN) * SLOT_CELLS + KIND];
  }

  private int valueOf(int token) {
    if (token < FIRST_NAME_TOKEN) {
      return token;
    }
    return meanings[(token - FIRST_NAME_TOKEN) * SLOT_CELLS + VALUE];
  }

  private int primitiveOf(int token) {
    int kind = kindOf(token);
    return kind == M_PRIMITIVE ? valueOf(token) : NO_PRIMITIVE;
  }

  private boolean isExpandable(int token) {
    int kind = kindOf(token);
    int primitive = primitiveOf(token);
    return kind == M_MACRO || primitive == P_EXPANDAFTER
      || primitive >= P_IFTRUE && primitive <= P_FI;
  }

  private void clearSlot(int slot) {
    for (int i = 0; i < SLOT_CELLS; i++) {
      meanings[slot * SLOT_CELLS + i] = 0;
    }
  }

  private void copySlot(int from, int to) {
    for (int i = 0; i < SLOT_CELLS; i++) {
      meanings[to * SLOT_CELLS + i] = meanings[from * SLOT_CELLS + i];
    }
  }

  private boolean slotsAreEqual(int one, int other) {
    for (int i = 0; i < SLOT_CELLS; i++) {
      if (meanings[one * SLOT_CELLS + i] != meanings[other * SLOT_CELLS + i]) {
        return false;
      }
    }
    return true;
  }

  private void loadMeaning(int token, int slot) {
    if (token >= FIRST_NAME_TOKEN) {
      copySlot(token - FIRST_NAME_TOKEN, slot);
      return;
    }
    clearSlot(slot);
    meanings[slot * SLOT_CELLS + KIND] = M_LETCHAR;
    meanings[slot * SLOT_CELLS + VALUE] = token;
  }

  // ---- The main loop's actions ----

  private void actOnCharacter(int token) {
    int category = categoryOf(token);
    if (category == CAT_BEGIN) {
      openGroup();
    } else if (category == CAT_END) {
      closeGroup();
    }
    if (state != S_FRESH) {
      return;
    }
    if (outputCount >= OUTPUT_ROOM) {
      state = E_OUTPUT_FULL;
      return;
    }
    output[outputCount] = token;
    outputCount++;
  }

  /** Acts on every primitive but 'expandafter', which run() sees to itself. */
  private void actOnPrimitive(int primitive) {
    switch (primitive) {
      case P_DEF: case P_GDEF:
        define(primitive == P_GDEF);
        break;
      case P_LET: case P_GLET:
        letMeaning(primitive == P_GLET);
        break;
      case P_BEGINGROUP:
        openGroup();
        break;
      case P_ENDGROUP:
        closeGroup();
        break;
      case P_CATCODE: case P_GCATCODE:
        changeCatcode(primitive == P_GCATCODE);
        break;
      case P_IFTRUE: case P_IFFALSE:
        startConditional(primitive == P_IFTRUE);
        break;
      case P_IFX:
        boolean same = nextMeaningsAreEqual();
        startConditional(same);
        break;
      case P_ELSE:
        skipElseBranch();
        break;
      case P_FI:
        endConditional();
        break;
      default:
        break;
    }
  }

  // ---- Groups and assignments ----

  private void openGroup() {
    if (depth >= DEEPEST_GROUP) {
      state = E_GROUP_DEEP;
      return;
    }
    depth++;
  }

  private void closeGroup() {
    if (depth <= 0) {
      state = E_EXTRA_END;
      return;
    }
    for (int save = saveCount - 1; save >= 0 && savedLevels[save] == depth; save--) {
      restoreItem(save);
      saveCount = save;
    }
    depth--;
  }

  private void restoreItem(int save) {
    int item = savedItems[save];
    if (item < NAME_ROOM) {
      copySlot(FIRST_SAVED_SLOT + save, item);
    } else {
      catcodes[item - NAME_ROOM] = savedCatcodes[save];
    }
  }

  /** Makes ready for a local assignment; answers whether it may be made. */
  private boolean saveItem(int item) {
    if (depth == 0 || isSavedAtThisLevel(item)) {
      return true;
    }
    if (saveCount >= SAVE_ROOM) {
      state = E_SAVE_FULL;
      return false;
    }
    savedItems[saveCount] = item;
    savedLevels[saveCount] = depth;
    if (item < NAME_ROOM) {
      copySlot(item, FIRST_SAVED_SLOT + saveCount);
    } else {
      savedCatcodes[saveCount] = catcodes[item - NAME_ROOM];
    }
    saveCount++;
    return true;
  }

  private boolean isSavedAtThisLevel(int item) {
    for (int save = saveCount - 1; save >= 0 && savedLevels[save] == depth; save--) {
      if (savedItems[save] == item) {
        return true;
      }
    }
    return false;
  }

  /** Gives the name the meaning in NEW_SLOT. */
  private void assignMeaning(int name, boolean global) {
    if (global) {
      for (int save = 0; save < saveCount; save++) {
        if (savedItems[save] == name) {
          copySlot(NEW_SLOT, FIRST_SAVED_SLOT + save);
        }
      }
    } else if (!saveItem(name)) {
      return;
    }
    copySlot(NEW_SLOT, name);
  }

  private void assignCatcode(int c, int category, boolean global) {
    int item = NAME_ROOM + c;
    if (global) {
      for (int save = 0; save < saveCount; save++) {
        if (savedItems[save] == item) {
          savedCatcodes[save] = category;
        }
      }
    } else if (!saveItem(item)) {
      return;
    }
    catcodes[c] = category;
  }

  // ---- def, let and catcode ----

  private void define(boolean global) {
    int target = takeToken(E_RUNAWAY);
    if (target == NO_TOKEN) {
      return;
    }
    if (target < FIRST_NAME_TOKEN) {
      state = E_BAD_DEF;
      return;
    }
    clearSlot(NEW_SLOT);
    readParameterText();
    if (state == S_FRESH) {
      readReplacement();
    }
    if (state == S_FRESH) {
      assignMeaning(target - FIRST_NAME_TOKEN, global);
    }
  }

  private void readParameterText() {
    int base = NEW_SLOT * SLOT_CELLS;
    int count = 0;
    for (int length = 0; length <= PARAMETER_ROOM; length++) {
      int token = takeToken(E_RUNAWAY);
      if (token == NO_TOKEN) {
        return;
      }
      int category = categoryOf(token);
      if (category == CAT_BEGIN) {
        meanings[base + KIND] = M_MACRO;
        meanings[base + VALUE] = count;
        meanings[base + PARAMETER_LENGTH] = length;
        return;
      }
      if (category == CAT_END) {
        state = E_BAD_DEF;
        return;
      }
      if (category == CAT_PARAM) {
        count++;
        int digit = takeToken(E_RUNAWAY);
        if (digit == NO_TOKEN) {
          return;
        }
        int c = charOf(digit);
        if (c != '0' + count) {
          state = E_BAD_DEF;
          return;
        }
        token = MARKER + count;
      }
      if (length == PARAMETER_ROOM) {
        state = E_TOO_LONG;
        return;
      }
      meanings[base + PARAMETER_TEXT + length] = token;
    }
  }

  private void readReplacement() {
    int base = NEW_SLOT * SLOT_CELLS;
    int nesting = 0;
    for (int length = 0; length <= REPLACEMENT_ROOM; length++) {
      int token = takeToken(E_RUNAWAY);
      if (token == NO_TOKEN) {
        return;
      }
      int category = categoryOf(token);
      if (category == CAT_END && nesting == 0) {
        meanings[base + REPLACEMENT_LENGTH] = length;
        return;
      }
      if (category == CAT_PARAM) {
        int next = takeToken(E_RUNAWAY);
        if (next == NO_TOKEN) {
          return;
        }
        token = pairInReplacement(token, next);
        if (token == NO_TOKEN) {
          state = E_BAD_DEF;
          return;
        }
      }
      nesting += nestingChange(category);
      if (length == REPLACEMENT_ROOM) {
        state = E_TOO_LONG;
        return;
      }
      meanings[base + REPLACEMENT + length] = token;
    }
  }

  /** What a cat-3 token and the one behind it stand for in NEW_SLOT, or NO_TOKEN if for nothing. */
  private int pairInReplacement(int token, int next) {
    int category = categoryOf(next);
    if (category == CAT_PARAM) {
      return token;
    }
    int k = charOf(next) - '0';
    if (k < 1 || k > meanings[NEW_SLOT * SLOT_CELLS + VALUE]) {
      return NO_TOKEN;
    }
    return MARKER + k;
  }

  private int nestingChange(int category) {
    return category == CAT_BEGIN ? 1 : category == CAT_END ? -1 : 0;
  }

  private void letMeaning(boolean global) {
    int target = takeToken(E_RUNAWAY);
    if (target == NO_TOKEN) {
      return;
    }
    if (target < FIRST_NAME_TOKEN) {
      state = E_BAD_DEF;
      return;
    }
    int source = takeToken(E_RUNAWAY);
    if (source == NO_TOKEN) {
      return;
    }
    loadMeaning(source, NEW_SLOT);
    assignMeaning(target - FIRST_NAME_TOKEN, global);
  }

  private void changeCatcode(boolean global) {
    int token = takeToken(E_RUNAWAY);
    if (token == NO_TOKEN) {
      return;
    }
    int c = charMeantBy(token);
    if (c == NO_CHAR) {
      state = E_BAD_CATCODE;
      return;
    }
    int digit = takeToken(E_RUNAWAY);
    if (digit == NO_TOKEN) {
      return;
    }
    int category = charOf(digit) - '0';
    if (category < CAT_ESCAPE || category > CAT_IGNORED) {
      state = E_BAD_CATCODE;
      return;
    }
    assignCatcode(c, category, global);
  }

  private int charMeantBy(int token) {
    if (token < FIRST_NAME_TOKEN) {
      return charOf(token);
    }
    int name = token - FIRST_NAME_TOKEN;
    return nameLengths[name] == 1 ? nameChars[name * NAME_CELLS] : NO_CHAR;
  }

  // ---- Macro expansion ----

  private void expandMacro(int name) {
    if (expansionCount >= expansionLimit) {
      state = E_EXPANSIONS;
      return;
    }
    expansionCount++;
    argumentsUsed = 0;
    argumentsLimit = ARGUMENTS_LIMIT;
    int base = name * SLOT_CELLS;
    int count = meanings[base + VALUE];
    int textEnd = base + PARAMETER_TEXT + meanings[base + PARAMETER_LENGTH];
    int marker = delimiterEnd(base + PARAMETER_TEXT, textEnd);
    takePrefix(base + PARAMETER_TEXT, marker);
    for (int k = 1; k <= count && k <= MOST_PARAMETERS && state == S_FRESH; k++) {
      int from = marker + 1;
      int to = delimiterEnd(from, textEnd);
      argumentStarts[k] = argumentsUsed;
      if (from == to) {
        readUndelimitedArgument();
        argumentEnds[k] = argumentsUsed;
      } else {
        readDelimitedArgument(k, from, to);
      }
      marker = to;
    }
    if (state == S_FRESH) {
      putReplacementInFront(base);
    }
  }

  /** The cell of the first marker from this cell of a parameter text on, or else the text's end. */
  private int delimiterEnd(int from, int textEnd) {
    for (int cell = from; cell < textEnd; cell++) {
      if (meanings[cell] >= MARKER) {
        return cell;
      }
    }
    return textEnd;
  }

  private void takePrefix(int from, int to) {
    for (int cell = from; cell < to; cell++) {
      int token = takeToken(E_RUNAWAY);
      if (token == NO_TOKEN) {
        return;
      }
      if (token != meanings[cell]) {
        state = E_NO_MATCH;
        return;
      }
    }
  }

  private void readUndelimitedArgument() {
    int token = takeToken(E_RUNAWAY);
    int category = categoryOf(token);
    for (int step = 0; step < STEP_BOUND && category == CAT_SPACE; step++) {
      token = takeToken(E_RUNAWAY);
      category = categoryOf(token);
    }
    if (token == NO_TOKEN) {
      return;
    }
    if (category == CAT_END) {
      state = E_NO_MATCH;
    } else if (category == CAT_BEGIN) {
      readRestOfGroup();
    } else {
      addToArgument(token, 0);
    }
  }

  private void readRestOfGroup() {
    int nesting = 1;
    for (int step = 0; step < STEP_BOUND; step++) {
      int token = takeToken(E_RUNAWAY);
      if (token == NO_TOKEN) {
        return;
      }
      int category = categoryOf(token);
      nesting += nestingChange(category);
      if (nesting == 0) {
        return;
      }
      addToArgument(token, 0);
    }
  }

  private void readDelimitedArgument(int k, int from, int to) {
    int start = argumentsUsed;
    int nesting = 0;
    boolean oneGroup = false;
    for (int step = 0; step < STEP_BOUND; step++) {
      if (nesting == 0 && takeDelimiter(from, to)) {
        endDelimitedArgument(k, oneGroup);
        return;
      }
      int token = takeToken(E_RUNAWAY);
      if (token == NO_TOKEN) {
        return;
      }
      int category = categoryOf(token);
      if (nesting == 0 && category == CAT_END) {
        state = E_NO_MATCH;
        return;
      }
      if (nesting == 0) {
        oneGroup = category == CAT_BEGIN && argumentsUsed == start;
      }
      nesting += nestingChange(category);
      int outerBraces = !oneGroup ? 0 : nesting > 0 ? 1 : 2;
      addToArgument(token, outerBraces);
    }
  }

  /** Takes the delimiter if it comes next; if not, the tokens looked at stay in front as they are. */
  private boolean takeDelimiter(int from, int to) {
    for (int cell = from; cell < to; cell++) {
      int token = takeToken(E_RUNAWAY);
      if (token == NO_TOKEN) {
        return false;
      }
      if (token != meanings[cell]) {
        putInFront(token);
        for (int matched = cell - 1; matched >= from; matched--) {
          putInFront(meanings[matched]);
        }
        return false;
      }
    }
    return true;
  }

  private void endDelimitedArgument(int k, boolean oneGroup) {
    argumentEnds[k] = argumentsUsed;
    if (oneGroup) {
      argumentStarts[k]++;
      argumentEnds[k]--;
      argumentsLimit += 2;
    }
  }

  /**
   * Takes a token into the current argument. The error comes at once, with the token that makes the
   * lengths too great, but braces that may still go from around the argument do not count yet.
   */
  private void addToArgument(int token, int outerBraces) {
    if (argumentsUsed >= argumentsLimit + outerBraces || argumentsUsed >= ARGUMENTS_ROOM) {
      state = E_PENDING_FULL;
      return;
    }
    arguments[argumentsUsed] = token;
    argumentsUsed++;
  }

  private void putReplacementInFront(int base) {
    int length = meanings[base + REPLACEMENT_LENGTH];
    for (int i = length - 1; i >= 0 && state == S_FRESH; i--) {
      int token = meanings[base + REPLACEMENT + i];
      if (token > MARKER) {
        putArgumentInFront(token - MARKER);
      } else {
        putInFront(token);
      }
    }
  }

  private void putArgumentInFront(int k) {
    for (int i = argumentEnds[k] - 1; i >= argumentStarts[k] && state == S_FRESH; i--) {
      putInFront(arguments[i]);
    }
  }

  // ---- expandafter ----

  /**
   * Holds back the token behind each 'expandafter' of a chain, and answers the token behind the last
   * of them: to expand an 'expandafter' once is to go on with the next two tokens.
   */
  private int holdTokensBack() {
    int token = NO_TOKEN;
    for (int i = 0; i < HELD_ROOM; i++) {
      held[i] = takeToken(E_RUNAWAY);
      token = takeToken(E_RUNAWAY);
      heldCount = i + 1;
      if (primitiveOf(token) != P_EXPANDAFTER) {
        break;
      }
    }
    return token;
  }

  private void putHeldTokensInFront() {
    for (int i = heldCount - 1; i >= 0 && state == S_FRESH; i--) {
      putInFront(held[i]);
    }
  }

  // ---- Conditionals ----

  private void startConditional(boolean holds) {
    if (holds) {
      pushConditional(COND_IF);
      return;
    }
    int end = skipBranch(true);
    if (end == P_ELSE) {
      pushConditional(COND_ELSE);
    }
  }

  private void pushConditional(int entry) {
    if (conditionalCount >= COND_ROOM) {
      state = E_COND_DEEP;
      return;
    }
    conditionals[conditionalCount] = entry;
    conditionalCount++;
  }

  private boolean nextMeaningsAreEqual() {
    int one = takeToken(E_RUNAWAY);
    int other = takeToken(E_RUNAWAY);
    if (other == NO_TOKEN) {
      return false;
    }
    loadMeaning(one, NEW_SLOT);
    loadMeaning(other, OTHER_SLOT);
    return slotsAreEqual(NEW_SLOT, OTHER_SLOT);
  }

  private void skipElseBranch() {
    if (conditionalCount == 0 || conditionals[conditionalCount - 1] == COND_ELSE) {
      state = E_EXTRA_COND;
      return;
    }
    int end = skipBranch(false);
    if (end == P_FI) {
      conditionalCount--;
    }
  }

  private void endConditional() {
    if (conditionalCount == 0) {
      state = E_EXTRA_COND;
      return;
    }
    conditionalCount--;
  }

  /** Answers the primitive that ended the skip, or NO_PRIMITIVE if the run has stopped. */
  private int skipBranch(boolean elseEndsIt) {
    int nesting = 0;
    for (int step = 0; step < STEP_BOUND; step++) {
      int token = takeToken(E_RUNAWAY);
      if (token == NO_TOKEN) {
        return NO_PRIMITIVE;
      }
      int primitive = primitiveOf(token);
      if (nesting == 0 && (primitive == P_FI || primitive == P_ELSE && elseEndsIt)) {
        return primitive;
      }
      if (primitive >= P_IFTRUE && primitive <= P_IFX) {
        nesting++;
      } else if (primitive == P_FI) {
        nesting--;
      }
    }
    return NO_PRIMITIVE;
  }
}
