/** Promises 11 to 13: name characters, meanings, macro texts. */
public final class Promise11To13TablesTest {
  private static final int[] FAR = {Integer.MIN_VALUE, -2, -1, 32, 33, 64, Integer.MAX_VALUE};

  public static void main(String[] args) {
    names();
    meanings();
    macroTexts();
    noTexts();
    Check.end();
  }

  private static TexMacroExpander table() {
    TexMacroExpander x = Check.ran("\\def\\abcdefgh#1.#2{#2\\z#1!}\\let\\1?\\let\\cc\\fi\\let\\d\\y");
    Check.same("status", x.status(), TexMacroExpander.S_DONE);
    Check.same("names", x.nameCount(), 20);
    return x;
  }

  private static void names() {
    TexMacroExpander x = table();
    String[] due = {"abcdefgh", "z", "1", "cc", "d", "y"};
    for (int i = 0; i < due.length; i++) {
      Check.same("length of name " + (14 + i), x.nameLength(14 + i), due[i].length());
      for (int pos = 0; pos < due[i].length(); pos++) {
        Check.same("char of name " + (14 + i), x.nameChar(14 + i, pos), due[i].charAt(pos));
      }
      Check.same("behind the name", x.nameChar(14 + i, due[i].length()), -1);
      Check.same("before the name", x.nameChar(14 + i, -1), -1);
      Check.same("far behind", x.nameChar(14 + i, Integer.MAX_VALUE), -1);
      Check.same("far before", x.nameChar(14 + i, Integer.MIN_VALUE), -1);
    }
    Check.same("the longest name", x.nameLength(4), 11);
    Check.same("its last char", x.nameChar(4, 10), 'r');
    Check.same("behind it", x.nameChar(4, 11), -1);
    for (int idx : FAR) {
      Check.same("length of name " + idx, x.nameLength(idx), -1);
      Check.same("char of name " + idx, x.nameChar(idx, 0), -1);
    }
    Check.same("length of the name behind the last", x.nameLength(20), -1);
    Check.same("char of the name behind the last", x.nameChar(20, 0), -1);
  }

  private static void meanings() {
    TexMacroExpander x = table();
    int[] kinds = {TexMacroExpander.M_MACRO, TexMacroExpander.M_UNDEFINED, TexMacroExpander.M_LETCHAR,
      TexMacroExpander.M_PRIMITIVE, TexMacroExpander.M_UNDEFINED, TexMacroExpander.M_UNDEFINED};
    int[] values = {2, 0, 6 * 128 + '?', 13, 0, 0};
    for (int i = 0; i < kinds.length; i++) {
      Check.same("kind of name " + (14 + i), x.meaningKind(14 + i), kinds[i]);
      Check.same("value of name " + (14 + i), x.meaningValue(14 + i), values[i]);
    }
    for (int idx : FAR) {
      Check.same("kind of name " + idx, x.meaningKind(idx), -1);
      Check.same("value of name " + idx, x.meaningValue(idx), -1);
    }
    Check.same("kind of the name behind the last", x.meaningKind(20), -1);
    Check.same("value of the name behind the last", x.meaningValue(20), -1);
    // A primitive's name can lose its meaning, and a macro can become undefined.
    x = Check.done("\\let\\let\\zz", "");
    Check.undefined(x, "let");
    x = Check.done("\\def\\a#1.{x}\\let\\a\\zz", "");
    Check.undefined(x, "a");
    Check.same("no text", x.macroTextLength(14, 0), -1);
    Check.same("no text", x.macroTextToken(14, 0, 0), -1);
  }

  private static void macroTexts() {
    TexMacroExpander x = table();
    int[] parameters = {2049, 6 * 128 + '.', 2050};
    int[] replacement = {2050, 1024 + 15, 2049, 6 * 128 + '!'};
    texts(x, 0, parameters);
    texts(x, 1, replacement);
    x = Check.done("\\def\\a{}", "");
    Check.same("an empty parameter text", x.macroTextLength(14, 0), 0);
    Check.same("an empty replacement", x.macroTextLength(14, 1), 0);
    Check.same("its token 0", x.macroTextToken(14, 0, 0), -1);
    Check.same("its token 0", x.macroTextToken(14, 1, 0), -1);
    // A full parameter text does not run over into the replacement.
    x = Check.done("\\def\\a 12345678{x}", "");
    Check.same("token 7", x.macroTextToken(14, 0, 7), 6 * 128 + '8');
    Check.same("token 8", x.macroTextToken(14, 0, 8), -1);
    x = Check.done("\\def\\a{123456789012345678901234}\\def\\b{x}", "");
    Check.same("token 23", x.macroTextToken(14, 1, 23), 6 * 128 + '4');
    Check.same("token 24", x.macroTextToken(14, 1, 24), -1);
    // A shorter text leaves nothing of a longer one behind.
    x = Check.done("\\def\\a#1.{xyz}\\def\\a{x}", "");
    Check.macro(x, "a", 0, "", "x");
    Check.same("token 0", x.macroTextToken(14, 0, 0), -1);
    Check.same("token 1", x.macroTextToken(14, 1, 1), -1);
  }

  private static void texts(TexMacroExpander x, int part, int[] due) {
    Check.same("length of part " + part, x.macroTextLength(14, part), due.length);
    for (int i = 0; i < due.length; i++) {
      Check.same("token " + i + " of part " + part, x.macroTextToken(14, part, i), due[i]);
    }
    int[] outside = {Integer.MIN_VALUE, -1, due.length, 8, 24, Integer.MAX_VALUE};
    for (int i : outside) {
      Check.same("token " + i + " of part " + part, x.macroTextToken(14, part, i), -1);
    }
  }

  private static void noTexts() {
    TexMacroExpander x = table();
    int[] noParts = {Integer.MIN_VALUE, -1, 2, 3, Integer.MAX_VALUE};
    for (int part : noParts) {
      Check.same("length of part " + part, x.macroTextLength(14, part), -1);
      Check.same("token of part " + part, x.macroTextToken(14, part, 0), -1);
    }
    for (int idx = 0; idx < 22; idx++) {
      if (idx != 14) {
        noText(x, idx);
      }
    }
    for (int idx : FAR) {
      noText(x, idx);
    }
  }

  private static void noText(TexMacroExpander x, int idx) {
    for (int part = -1; part <= 2; part++) {
      Check.same("length of " + idx + ", " + part, x.macroTextLength(idx, part), -1);
      Check.same("token of " + idx + ", " + part, x.macroTextToken(idx, part, 0), -1);
      Check.same("token -1 of " + idx + ", " + part, x.macroTextToken(idx, part, -1), -1);
    }
  }
}
