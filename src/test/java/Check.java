/** What the tests share: feeding and running a text, and comparing answers with what is due. */
final class Check {
  private static int wrong = 0;
  private static int asked = 0;

  private Check() {}

  static void same(String what, long got, long want) {
    asked++;
    if (got != want) {
      wrong++;
      System.out.println(what + " answered " + got + ", due is " + want);
    }
  }

  static void same(String what, boolean got, boolean want) {
    same(what, got ? 1 : 0, want ? 1 : 0);
  }

  static void same(String what, String got, String want) {
    asked++;
    if (!got.equals(want)) {
      wrong++;
      System.out.println(what + " answered '" + got + "', due is '" + want + "'");
    }
  }

  /** Ends the test: exit code 1 if an answer was wrong. */
  static void end() {
    System.out.println(asked - wrong + " of " + asked + " answers are as due");
    if (wrong != 0 || asked == 0) {
      System.exit(1);
    }
  }

  static TexMacroExpander fed(int limit, String text) {
    TexMacroExpander x = new TexMacroExpander(limit);
    for (int i = 0; i < text.length(); i++) {
      same("feed of char " + i + " of " + text, x.feed(text.charAt(i)), true);
    }
    return x;
  }

  /** An object that has run the text with the highest limit. */
  static TexMacroExpander ran(String text) {
    TexMacroExpander x = fed(100, text);
    x.run();
    return x;
  }

  /** Runs the text and compares the status and the output's chars. */
  static TexMacroExpander gives(String text, int status, String output) {
    TexMacroExpander x = ran(text);
    same("status after " + text, x.status(), status);
    same("output after " + text, outputChars(x), output);
    return x;
  }

  static TexMacroExpander done(String text, String output) {
    return gives(text, TexMacroExpander.S_DONE, output);
  }

  static String outputChars(TexMacroExpander x) {
    StringBuilder chars = new StringBuilder();
    for (int i = 0; i < x.outputLength(); i++) {
      chars.append((char) (x.outputToken(i) % 128));
    }
    return chars.toString();
  }

  static String name(TexMacroExpander x, int idx) {
    StringBuilder name = new StringBuilder();
    for (int i = 0; i < x.nameLength(idx); i++) {
      name.append((char) x.nameChar(idx, i));
    }
    return name.toString();
  }

  /** The index of a name in the table, or -1. */
  static int index(TexMacroExpander x, String name) {
    for (int idx = 0; idx < x.nameCount(); idx++) {
      if (name(x, idx).equals(name)) {
        return idx;
      }
    }
    return -1;
  }

  /** A macro text in letters: a marker as #k, a name as \name with a space behind. */
  static String text(TexMacroExpander x, String macro, int part) {
    int idx = index(x, macro);
    StringBuilder text = new StringBuilder();
    for (int i = 0; i < x.macroTextLength(idx, part); i++) {
      int token = x.macroTextToken(idx, part, i);
      if (token > 2048) {
        text.append('#').append(token - 2048);
      } else if (token >= 1024) {
        text.append('\\').append(name(x, token - 1024)).append(' ');
      } else {
        text.append((char) (token % 128));
      }
    }
    return text.toString();
  }

  static void macro(TexMacroExpander x, String macro, int count, String parameters, String replacement) {
    int idx = index(x, macro);
    same("kind of " + macro, x.meaningKind(idx), TexMacroExpander.M_MACRO);
    same("count of " + macro, x.meaningValue(idx), count);
    same("parameter text of " + macro, text(x, macro, 0), parameters);
    same("replacement of " + macro, text(x, macro, 1), replacement);
  }

  static void undefined(TexMacroExpander x, String name) {
    int idx = index(x, name);
    same("kind of " + name, x.meaningKind(idx), TexMacroExpander.M_UNDEFINED);
    same("value of " + name, x.meaningValue(idx), 0);
  }
}
