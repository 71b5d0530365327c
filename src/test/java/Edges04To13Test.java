/** The edges that promises 4 to 13 name, a method for each sentence. */
public final class Edges04To13Test {
  private static final int MIN = Integer.MIN_VALUE;
  private static final int MAX = Integer.MAX_VALUE;

  /** No index of anything. */
  private static final int[] NEVER = {MIN, MIN + 1, -65536, -1024, -256, -129, -128, -33, -32, -14, -2, -1, MAX - 1, MAX};

  /** Chosen so that times the sizes of tables they wrap around to a small number. */
  private static final int[] WRAPPING = {1 << 30, 1 << 29, 1 << 28, 1 << 27, 119304648, 390451573, 0x10000, 0x1000000};

  public static void main(String[] args) {
    status();
    expansionsUsed();
    outputLengths();
    outputTokens();
    catcodes();
    groupDepths();
    condDepths();
    nameCounts();
    nameLengths();
    nameChars();
    meanings();
    macroTextLengths();
    macroTextTokens();
    onlyMacrosHaveTexts();
    askingChangesNothing();
    Check.end();
  }

  /** Promise 4: 'S_FRESH before run was called, afterwards the status run ended with'. */
  private static void status() {
    TexMacroExpander x = new TexMacroExpander(1);
    Check.same("before run", x.status(), 0);
    x.feed('}');
    Check.same("before run", x.status(), 0);
    x.feed(-1);
    Check.same("before run", x.status(), 0);
    Check.same("run", x.run(), 9);
    Check.same("after run", x.status(), 9);
    x.feed('a');
    x.run();
    Check.same("after another run", x.status(), 9);
    x = new TexMacroExpander(1);
    Check.same("run over nothing", x.run(), 1);
    Check.same("after it", x.status(), 1);
  }

  /** Promise 5: '0 before run; never above the limit'. */
  private static void expansionsUsed() {
    int[] limits = {MIN, 0, 1, 2, 100, 101, MAX};
    int[] due = {1, 1, 1, 2, 100, 100, 100};
    for (int i = 0; i < limits.length; i++) {
      TexMacroExpander x = Check.fed(limits[i], "\\def\\a{\\a}\\a");
      Check.same("before run", x.expansionsUsed(), 0);
      x.run();
      Check.same("at the limit", x.expansionsUsed(), due[i]);
      x.run();
      Check.same("after another run", x.expansionsUsed(), due[i]);
    }
    Check.same("none", Check.ran("abc").expansionsUsed(), 0);
    Check.same("one that failed", Check.ran("\\def\\a.{}\\a!").expansionsUsed(), 1);
  }

  /** Promise 6: 'the number of tokens in OUTPUT (0..256)'. */
  private static void outputLengths() {
    Check.same("before run", Check.fed(1, "ab").outputLength(), 0);
    int[] lengths = {0, 1, 2, 128, 255, 256};
    for (int length : lengths) {
      Check.same("length", Check.ran("a".repeat(length)).outputLength(), length);
    }
    Check.same("never more", Check.ran("\\def\\a#1{#1#1}\\a{" + "x".repeat(100) + "}" + "y".repeat(57)).outputLength(), 256);
  }

  /** Promise 6: 'for i in 0..outputLength()-1, and -1 for every other i, negative or too large'. */
  private static void outputTokens() {
    int[] lengths = {0, 1, 2, 255, 256};
    for (int length : lengths) {
      TexMacroExpander x = Check.ran("a".repeat(length));
      for (int i = 0; i < length; i++) {
        Check.same("token " + i, x.outputToken(i), 640 + 'a');
      }
      for (int i = length; i < 600; i++) {
        Check.same("token " + i + " of " + length, x.outputToken(i), -1);
      }
      none(length, x);
    }
    TexMacroExpander x = Check.fed(1, "abc");
    Check.same("before run", x.outputToken(0), -1);
    none(0, x);
    Check.same("the first", Check.ran("abc").outputToken(0), 640 + 'a');
    Check.same("the last", Check.ran("abc").outputToken(2), 640 + 'c');
  }

  private static void none(int length, TexMacroExpander x) {
    for (int i : NEVER) {
      Check.same("token " + i + " of " + length, x.outputToken(i), -1);
    }
    for (int i : WRAPPING) {
      Check.same("token " + i + " of " + length, x.outputToken(i), -1);
    }
  }

  /** Promise 7: 'the current catcode (0..7) of c for c in 0..127, and -1 for c outside'. */
  private static void catcodes() {
    String[] texts = {"", "\\catcode\\\u00000\\catcode\\\u007f6"};
    for (String text : texts) {
      TexMacroExpander x = Check.ran(text);
      Check.same("catcode 0", x.catcode(0), text.isEmpty() ? 7 : 0);
      Check.same("catcode 127", x.catcode(127), text.isEmpty() ? 7 : 6);
      for (int c : NEVER) {
        Check.same("catcode " + c, x.catcode(c), -1);
      }
      for (int c : WRAPPING) {
        Check.same("catcode " + c, x.catcode(c), -1);
      }
      for (int c = 128; c < 600; c++) {
        Check.same("catcode " + c, x.catcode(c), -1);
      }
    }
    for (int category = 0; category <= 7; category++) {
      Check.same("set", Check.ran("\\catcode?" + category).catcode('?'), category);
      Check.same("set in an open group", Check.ran("{\\catcode?" + category).catcode('?'), category);
      Check.same("set in a closed group", Check.ran("{\\catcode?" + category + "}").catcode('?'), 6);
    }
    Check.same("before run", Check.fed(1, "\\catcode?1").catcode('?'), 6);
  }

  /** Promise 8: 'the current group depth (0..8)'. */
  private static void groupDepths() {
    Check.same("before run", Check.fed(1, "{{").groupDepth(), 0);
    for (int depth = 0; depth <= 8; depth++) {
      Check.same("depth", Check.ran("{".repeat(depth)).groupDepth(), depth);
      Check.same("depth", Check.ran("{".repeat(8) + "}".repeat(depth)).groupDepth(), 8 - depth);
    }
    Check.same("never more", Check.ran("{".repeat(100)).groupDepth(), 8);
    Check.same("never less", Check.ran("{}}}}").groupDepth(), 0);
  }

  /** Promise 9: 'the number of entries on the conditional stack (0..8)'. */
  private static void condDepths() {
    Check.same("before run", Check.fed(1, "\\iftrue").condDepth(), 0);
    for (int depth = 0; depth <= 8; depth++) {
      Check.same("depth", Check.ran("\\iftrue".repeat(depth)).condDepth(), depth);
      Check.same("depth", Check.ran("\\iftrue".repeat(8) + "\\fi".repeat(depth)).condDepth(), 8 - depth);
    }
    Check.same("never more", Check.ran("\\iftrue".repeat(30)).condDepth(), 8);
    Check.same("never less", Check.ran("\\iftrue\\fi\\fi\\fi").condDepth(), 0);
  }

  /** Promise 10: 'the number of names in the table (14..32)'. */
  private static void nameCounts() {
    Check.same("before run", Check.fed(1, "\\a").nameCount(), 14);
    for (int more = 0; more <= 18; more++) {
      Check.same("names", withNames(more).nameCount(), 14 + more);
    }
    Check.same("never more", withNames(26).nameCount(), 32);
    Check.same("each once", Check.ran("\\iffalse\\a\\a\\b\\a\\fi").nameCount(), 16);
  }

  /** The names A, B, and so on stand behind the primitives. */
  private static TexMacroExpander withNames(int more) {
    return Check.ran("\\iffalse" + Promise03RunTest.namesFrom('A', more));
  }

  /** Promise 11: 'the length of name idx, or -1 if idx is not in the table (idx < 0 or idx >= nameCount())'. */
  private static void nameLengths() {
    Check.same("the first", new TexMacroExpander(1).nameLength(0), 3);
    int[] counts = {0, 1, 17, 18};
    for (int more : counts) {
      TexMacroExpander x = withNames(more);
      Check.same("the last", x.nameLength(13 + more), more == 0 ? 2 : 1);
      for (int idx = 14 + more; idx < 100; idx++) {
        Check.same("length of name " + idx, x.nameLength(idx), -1);
      }
      for (int idx : NEVER) {
        Check.same("length of name " + idx, x.nameLength(idx), -1);
      }
      for (int idx : WRAPPING) {
        Check.same("length of name " + idx, x.nameLength(idx), -1);
      }
    }
    TexMacroExpander x = Check.ran("\\iffalse\\abcdefgh\\1");
    Check.same("the longest", x.nameLength(14), 8);
    Check.same("the shortest", x.nameLength(15), 1);
  }

  /** Promise 11: 'or -1 if idx is not in the table or pos is outside 0..nameLength(idx)-1'. */
  private static void nameChars() {
    TexMacroExpander x = Check.ran("\\iffalse\\abcdefgh\\1\\ijklmnop");
    for (int idx = 0; idx < x.nameCount(); idx++) {
      int length = x.nameLength(idx);
      Check.same("the last char of name " + idx, x.nameChar(idx, length - 1) > 0, true);
      for (int pos = length; pos < 50; pos++) {
        Check.same("char " + pos + " of name " + idx, x.nameChar(idx, pos), -1);
      }
      for (int pos : NEVER) {
        Check.same("char " + pos + " of name " + idx, x.nameChar(idx, pos), -1);
      }
    }
    Check.same("the first char", x.nameChar(14, 0), 'a');
    Check.same("the last char", x.nameChar(14, 7), 'h');
    Check.same("the only char", x.nameChar(15, 0), '1');
    Check.same("the last name's last char", x.nameChar(16, 7), 'p');
    Check.same("a char 0", Check.ran("\\\u0000").nameChar(14, 0), 0);
    Check.same("a char 127", Check.ran("\\\u007f").nameChar(14, 0), 127);
    Check.same("no name 17", x.nameChar(17, 0), -1);
    Check.same("the full table's last", withNames(18).nameChar(31, 0), 'R');
    Check.same("behind it", withNames(18).nameChar(32, 0), -1);
    for (int pos = -1; pos <= 1; pos++) {
      for (int idx : NEVER) {
        Check.same("char of name " + idx, x.nameChar(idx, pos), -1);
      }
      for (int idx : WRAPPING) {
        Check.same("char of name " + idx, x.nameChar(idx, pos), -1);
      }
    }
    Check.same("both least", x.nameChar(MIN, MIN), -1);
    Check.same("both greatest", x.nameChar(MAX, MAX), -1);
  }

  /** Promise 12: 'for a primitive, p; for a macro, its count; for let-char, the token; for undefined, 0; -1 ...'. */
  private static void meanings() {
    TexMacroExpander x = Check.ran("\\def\\A{}\\def\\B#1#2#3#4#5#6#7#8{}\\let\\C{\\let\\D\\fi\\let\\E\\F\\let\\G\\def"
      + "\\let\\H~\\iffalse\\I");
    int[] kinds = {2, 2, 3, 1, 0, 0, 1, 3, 0};
    int[] values = {0, 8, 128 + '{', 13, 0, 0, 0, 768 + '~', 0};
    for (int i = 0; i < kinds.length; i++) {
      Check.same("kind of name " + (14 + i), x.meaningKind(14 + i), kinds[i]);
      Check.same("value of name " + (14 + i), x.meaningValue(14 + i), values[i]);
    }
    Check.same("kind of the first", x.meaningKind(0), 1);
    Check.same("value of the first", x.meaningValue(0), 0);
    int[] counts = {0, 1, 17, 18};
    for (int more : counts) {
      TexMacroExpander y = withNames(more);
      Check.same("kind of the last", y.meaningKind(13 + more), more == 0 ? 1 : 0);
      Check.same("value of the last", y.meaningValue(13 + more), more == 0 ? 13 : 0);
      for (int idx = 14 + more; idx < 100; idx++) {
        noMeaning(y, idx);
      }
      for (int idx : NEVER) {
        noMeaning(y, idx);
      }
      for (int idx : WRAPPING) {
        noMeaning(y, idx);
      }
    }
  }

  private static void noMeaning(TexMacroExpander x, int idx) {
    Check.same("kind of name " + idx, x.meaningKind(idx), -1);
    Check.same("value of name " + idx, x.meaningValue(idx), -1);
  }

  /** Names 14 to 17: empty texts, full texts, one token each, and a macro at the table's end. */
  private static TexMacroExpander texts() {
    return Check.ran("\\def\\A{}\\def\\B 12345678{123456789012345678901234}\\def\\C#1{#1}\\iffalse"
      + Promise03RunTest.namesFrom('D', 15) + "\\fi\\def\\R..{...}");
  }

  /** Promise 13: 'the length of the parameter text (part 0) or the replacement (part 1) ... -1 unless ...'. */
  private static void macroTextLengths() {
    TexMacroExpander x = texts();
    int[][] due = {{14, 0, 0}, {15, 8, 24}, {16, 1, 1}, {31, 2, 3}};
    for (int[] lengths : due) {
      int idx = lengths[0];
      Check.same("part 0 of " + idx, x.macroTextLength(idx, 0), lengths[1]);
      Check.same("part 1 of " + idx, x.macroTextLength(idx, 1), lengths[2]);
      Check.same("part -1 of " + idx, x.macroTextLength(idx, -1), -1);
      for (int part = 2; part < 40; part++) {
        Check.same("part " + part + " of " + idx, x.macroTextLength(idx, part), -1);
      }
      for (int part : NEVER) {
        Check.same("part " + part + " of " + idx, x.macroTextLength(idx, part), -1);
      }
    }
  }

  /** Promise 13: 'token i of that text, with markers as 2048+k, and -1 if anything is out of range'. */
  private static void macroTextTokens() {
    TexMacroExpander x = texts();
    int[] macros = {14, 15, 16, 31};
    for (int idx : macros) {
      for (int part = 0; part <= 1; part++) {
        int length = x.macroTextLength(idx, part);
        for (int i = 0; i < length; i++) {
          Check.same("token " + i, x.macroTextToken(idx, part, i) > 0, true);
        }
        for (int i = length; i < 80; i++) {
          Check.same("token " + i + " of " + idx + ", " + part, x.macroTextToken(idx, part, i), -1);
        }
        for (int i : NEVER) {
          Check.same("token " + i + " of " + idx + ", " + part, x.macroTextToken(idx, part, i), -1);
        }
        for (int i : WRAPPING) {
          Check.same("token " + i + " of " + idx + ", " + part, x.macroTextToken(idx, part, i), -1);
        }
      }
      int[] noParts = {MIN, -2, -1, 2, 3, MAX};
      for (int part : noParts) {
        for (int i = -1; i <= 1; i++) {
          Check.same("token of part " + part, x.macroTextToken(idx, part, i), -1);
        }
      }
    }
    Check.same("the first", x.macroTextToken(15, 0, 0), 768 + '1');
    Check.same("the last of 8", x.macroTextToken(15, 0, 7), 768 + '8');
    Check.same("the first", x.macroTextToken(15, 1, 0), 768 + '1');
    Check.same("the last of 24", x.macroTextToken(15, 1, 23), 768 + '4');
    Check.same("a marker", x.macroTextToken(16, 0, 0), 2049);
    Check.same("a marker", x.macroTextToken(16, 1, 0), 2049);
  }

  /** 'unless idx is in the table with a macro meaning'. */
  private static void onlyMacrosHaveTexts() {
    TexMacroExpander x = Check.ran("\\def\\A.{,}\\let\\B!\\let\\C\\fi\\let\\D\\E\\let\\A\\E\\def\\fi{}\\let\\fi!");
    for (int idx = -3; idx < 40; idx++) {
      noText(x, idx);
    }
    for (int idx : NEVER) {
      noText(x, idx);
    }
    for (int idx : WRAPPING) {
      noText(x, idx);
    }
    noText(texts(), 32);
    noText(texts(), 13);
    noText(new TexMacroExpander(1), 14);
    // A group that closes takes the macro away again.
    noText(Check.ran("{\\def\\A.{,}}"), 14);
  }

  private static void noText(TexMacroExpander x, int idx) {
    for (int part = -1; part <= 2; part++) {
      Check.same("part " + part + " of " + idx, x.macroTextLength(idx, part), -1);
      for (int i = -2; i <= 1; i++) {
        Check.same("token " + i + " of " + idx + ", " + part, x.macroTextToken(idx, part, i), -1);
      }
    }
  }

  /** 'It changes nothing': whatever is asked, before run and after it. */
  private static void askingChangesNothing() {
    String[] texts = {"", "a{\\gdef\\c#1.{d#1}\\c x.\\iftrue\\catcode!5", "{\\def\\a{b}\\a}}", "\\def\\a{\\a}\\a",
      "\\iffalse" + Promise03RunTest.namesFrom('A', 19)};
    for (String text : texts) {
      TexMacroExpander asked = Check.fed(100, text);
      String before = State.of(asked);
      askAll(asked);
      Check.same("state before run of " + text, State.of(asked), before);
      Check.same("run of " + text, asked.run(), Check.ran(text).status());
      Check.same("state after run of " + text, State.of(asked), State.of(Check.ran(text)));
      askAll(asked);
      Check.same("state after run of " + text, State.of(asked), State.of(Check.ran(text)));
    }
  }

  private static void askAll(TexMacroExpander x) {
    int[] some = {MIN, -1, 0, 1, 2, 13, 14, 15, 31, 32, 127, 128, 255, 256, MAX};
    for (int i : some) {
      x.status();
      x.expansionsUsed();
      x.outputLength();
      x.outputToken(i);
      x.catcode(i);
      x.groupDepth();
      x.condDepth();
      x.nameCount();
      x.nameLength(i);
      x.meaningKind(i);
      x.meaningValue(i);
      for (int j : some) {
        x.nameChar(i, j);
        x.macroTextLength(i, j);
        for (int k : some) {
          x.macroTextToken(i, j, k);
        }
      }
    }
  }
}
