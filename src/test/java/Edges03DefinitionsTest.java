/** Promise 3, def, let and catcode: their edges, a method for each sentence. */
public final class Edges03DefinitionsTest {
  private static final int BAD_DEF = TexMacroExpander.E_BAD_DEF;
  private static final int TOO_LONG = TexMacroExpander.E_TOO_LONG;
  private static final int RUNAWAY = TexMacroExpander.E_RUNAWAY;
  private static final int BAD_CATCODE = TexMacroExpander.E_BAD_CATCODE;
  private static final String FULL = "123456789012345678901234";

  /** A char of each category that a token can have. */
  private static final String[] CHARS = {"{", "}", "#", " ", "a", "1", "?"};

  public static void main(String[] args) {
    targetMustBeAName();
    readUnexpanded();
    parameterTextEnds();
    markersInOrder();
    emptyTexts();
    replacementEnds();
    cat3InReplacement();
    ninthToken();
    twentyFifthToken();
    nothingIsSetByAnError();
    letTargets();
    letMeanings();
    catcodeFirstToken();
    catcodeSecondToken();
    Check.end();
  }

  /** 'The next token must be a cs, else E_BAD_DEF; it is the target'. */
  private static void targetMustBeAName() {
    String[] definitions = {"\\def", "\\gdef"};
    for (String def : definitions) {
      for (String c : CHARS) {
        Check.gives("z" + def + "\u0000" + c + "\\b{x}", BAD_DEF, "z");
        Check.gives("z" + def + "\u0000" + c, BAD_DEF, "z");
      }
      Check.gives("z" + def, RUNAWAY, "z");
      // Any name will do: a word, a symbol, a primitive, one that means a char, def itself.
      Check.done(def + "\\abcdefgh{x}\\abcdefgh", "x");
      Check.done(def + "\\1{x}\\1", "x");
      Check.done(def + "\\\\{x}\\\\", "x");
      Check.done(def + "\\fi{x}\\fi", "x");
      Check.done("\\let\\b{" + def + "\\b{x}\\b", "x");
      Check.done(def + def + "{x}" + def, "x");
    }
  }

  /** 'All tokens are read unexpanded'. */
  private static void readUnexpanded() {
    TexMacroExpander x = Check.done("\\def\\b{u}\\def\\a\\b{\\b\\b}\\def\\b{v}\\a\\b", "vv");
    Check.same("expansions", x.expansionsUsed(), 3);
    Check.macro(x, "a", 0, "\\b ", "\\b \\b ");
    Check.macro(Check.done("\\def\\a\\iffalse{\\else\\fi\\zz}", ""), "a", 0, "\\iffalse ", "\\else \\fi \\zz ");
    // A name that means a brace is no brace, neither in a text nor at its end.
    Check.macro(Check.done("\\let\\b{\\let\\e}\\def\\a\\b\\e{\\e\\b\\e}", ""), "a", 0, "\\b \\e ", "\\e \\b \\e ");
    // Nor is one that means a cat-3 char such a char.
    Check.macro(Check.done("\\let\\p#\\def\\a\\p1{\\p1}", ""), "a", 0, "\\p 1", "\\p 1");
  }

  /** 'tokens up to the first cat-1 char token (a cat-2 token first gives E_BAD_DEF)'. */
  private static void parameterTextEnds() {
    Check.macro(Check.done("\\def\\a..{}", ""), "a", 0, "..", "");
    Check.macro(Check.done("\\catcode<1\\def\\a..<}", ""), "a", 0, "..", "");
    Check.gives("\\def\\a}{}", BAD_DEF, "");
    Check.gives("\\def\\a..}{}", BAD_DEF, "");
    Check.gives("\\catcode>2\\def\\a..>{}", BAD_DEF, "");
    Check.gives("\\def\\a", RUNAWAY, "");
    Check.gives("\\def\\a..", RUNAWAY, "");
    Check.macro(Check.done("\\def\\1  . {}", ""), "1", 0, "  . ", "");
  }

  /** 'A cat-3 token must be followed by a char token whose char is '0'+k, with k = markers so far + 1'. */
  private static void markersInOrder() {
    StringBuilder all = new StringBuilder();
    for (int k = 1; k <= 8; k++) {
      all.append('#').append(k);
      Check.macro(Check.done("\\def\\a" + all + "{#" + k + "}", ""), "a", k, all.toString(), "#" + k);
      for (int digit = 0; digit <= 9; digit++) {
        if (digit != k) {
          String wrong = all.substring(0, all.length() - 1) + digit;
          Check.gives("\\def\\a" + wrong + "{}", BAD_DEF, "");
        }
      }
    }
    String[] wrong = {"#/", "#:", "#a", "# 1", "##", "##1", "#\\1", "#\\b", "#{", "#}", "#1#1", "#1#", "1#2"};
    for (String text : wrong) {
      Check.gives("\\def\\a" + text + "{}", BAD_DEF, "");
    }
    Check.gives("\\def\\a#", RUNAWAY, "");
    Check.gives("\\def\\a#1#", RUNAWAY, "");
    // The category of the digit is free, the categories 0 and 7 apart: those give no char token.
    for (int category = 1; category <= 6; category++) {
      TexMacroExpander x = Check.done("\\catcode1" + category + "\\def\\a #1{}", "");
      Check.macro(x, "a", 1, "#1", "");
    }
    Check.gives("\\catcode10\\def\\a#1b{}", BAD_DEF, "");
    Check.gives("\\catcode17\\def\\a#1b{}", BAD_DEF, "");
    // Any cat-3 char will do.
    Check.macro(Check.done("\\catcode!3\\def\\a!1#2{!1#2}", ""), "a", 2, "#1#2", "#1#2");
    Check.macro(Check.done("\\catcode#6\\def\\a#1{#1}", ""), "a", 0, "#1", "#1");
    Check.same("no marker", Check.done("\\catcode#6\\def\\a#1{}", "").macroTextLength(14, 0), 2);
  }

  private static void emptyTexts() {
    TexMacroExpander x = Check.done("\\def\\a{}\\gdef\\b{}[\\a\\b]", "[]");
    Check.same("meaning of a", State.meaning(x, 14), "2/0/0/0");
    Check.same("meaning of b", State.meaning(x, 15), "2/0/0/0");
    Check.same("an empty replacement", State.meaning(Check.done("\\def\\a.{}", ""), 14), "2/0/1,814/0");
    Check.same("an empty parameter text", State.meaning(Check.done("\\def\\a{.}", ""), 14), "2/0/0/1,814");
  }

  /** 'Replacement: tokens up to the matching cat-2 token, cat 1/2 nesting counted, outer braces not kept'. */
  private static void replacementEnds() {
    Check.macro(Check.done("\\def\\a{x}y", "y"), "a", 0, "", "x");
    Check.macro(Check.done("\\def\\a{{x}}y", "y"), "a", 0, "", "{x}");
    Check.macro(Check.done("\\def\\a{{}{{}}}y", "y"), "a", 0, "", "{}{{}}");
    Check.macro(Check.done("\\def\\a{" + "{".repeat(12) + "}".repeat(12) + "}y", "y"), "a", 0, "",
      "{".repeat(12) + "}".repeat(12));
    Check.macro(Check.done("\\catcode<1\\catcode>2\\def\\a<{>}y", "y"), "a", 0, "", "{>");
    Check.gives("\\def\\a{", RUNAWAY, "");
    Check.gives("\\def\\a{{}", RUNAWAY, "");
    Check.gives("\\def\\a{{x}", RUNAWAY, "");
    // The group that a definition opens and closes is none of run's groups.
    Check.same("depth", Check.done("\\def\\a{{{{{{{{{{}}}}}}}}}}", "").groupDepth(), 0);
  }

  /** 'a cat-3 token followed by a cat-3 token gives the first one; ... any other cat-3 use gives E_BAD_DEF'. */
  private static void cat3InReplacement() {
    Check.same("##", State.meaning(Check.done("\\def\\a{##}", ""), 14), "2/0/0/1,419");
    Check.same("####", State.meaning(Check.done("\\def\\a{####}", ""), 14), "2/0/0/2,419,419");
    Check.same("##1", State.meaning(Check.done("\\def\\a#1{##1}", ""), 14), "2/1/1,2049/2,419,817");
    Check.same("###1", State.meaning(Check.done("\\def\\a#1{###1}", ""), 14), "2/1/1,2049/2,419,2049");
    Check.same("!#", State.meaning(Check.done("\\catcode!3\\def\\a{!#}", ""), 14), "2/0/0/1,417");
    Check.same("#!", State.meaning(Check.done("\\catcode!3\\def\\a{#!}", ""), 14), "2/0/0/1,419");
    for (int count = 0; count <= 8; count++) {
      String parameters = "#1#2#3#4#5#6#7#8".substring(0, 2 * count);
      for (int digit = 0; digit <= 9; digit++) {
        TexMacroExpander x = Check.ran("\\def\\a" + parameters + "{#" + digit + "}");
        boolean fits = digit >= 1 && digit <= count;
        Check.same("#" + digit + " of " + count, x.status(), fits ? TexMacroExpander.S_DONE : BAD_DEF);
        Check.same("marker", x.macroTextToken(14, 1, 0), fits ? 2048 + digit : -1);
      }
    }
    String[] wrong = {"#/", "#:", "#a", "# 1", "#\\1", "#\\b", "#{}", "#}", "#1#}", "###}"};
    for (String text : wrong) {
      Check.gives("\\def\\a#1{" + text + "}", BAD_DEF, "");
    }
    Check.gives("\\def\\a{#", RUNAWAY, "");
    Check.gives("\\def\\a#1{#1#", RUNAWAY, "");
    for (int category = 1; category <= 6; category++) {
      TexMacroExpander x = Check.done("\\def\\b{\\def\\a##1}\\catcode1" + category + "\\b{#1}", "");
      int due = category == 3 ? 419 : 2049;
      Check.same("a digit of category " + category, State.meaning(x, 15), "2/1/1,2049/1," + due);
    }
    Check.gives("\\catcode10\\def\\a{#1b}", BAD_DEF, "");
  }

  /** 'E_TOO_LONG arises as soon as the 9th token of the parameter text is read, before anything after it'. */
  private static void ninthToken() {
    Check.macro(Check.done("\\def\\a 1234567{}", ""), "a", 0, "1234567", "");
    Check.macro(Check.done("\\def\\a 12345678{}", ""), "a", 0, "12345678", "");
    Check.macro(Check.done("\\def\\a#1#2#3#4#5#6#7#8{}", ""), "a", 8, "#1#2#3#4#5#6#7#8", "");
    Check.macro(Check.done("\\def\\a 1#12#23#34#4{}", ""), "a", 4, "1#12#23#34#4", "");
    String[] ninth = {"9", "a", " ", "\\b", "\\fi", "#1"};
    String[] after = {"", "{}", "}", "#", "#7", "\\", "\\abcdefghi", "\u0000"};
    for (String token : ninth) {
      for (String more : after) {
        String gap = token.length() > 1 && token.charAt(0) == '\\' && more.isEmpty() ? " " : "";
        TexMacroExpander x = Check.gives("\\def\\a 12345678" + token + gap + more, TOO_LONG, "");
        Check.undefined(x, "a");
      }
    }
    Check.gives("\\def\\a#1#2#3#4#5#6#7#8#9{}", TOO_LONG, "");
    Check.gives("\\def\\a#1#2#3#4#5#6#7#8.", TOO_LONG, "");
    Check.same("the name behind it is not read", Check.ran("\\def\\a 123456789\\b").nameCount(), 15);
    // These are no 9th tokens of the text.
    Check.gives("\\def\\a 12345678}", BAD_DEF, "");
    Check.gives("\\def\\a 12345678", RUNAWAY, "");
    Check.gives("\\def\\a 12345678\\", RUNAWAY, "");
    Check.gives("\\def\\a 12345678\\abcdefghi", TexMacroExpander.E_NAME_LONG, "");
  }

  /** 'or the 25th token of the replacement is read'. */
  private static void twentyFifthToken() {
    Check.macro(Check.done("\\def\\a{" + FULL.substring(1) + "}", ""), "a", 0, "", FULL.substring(1));
    Check.macro(Check.done("\\def\\a{" + FULL + "}", ""), "a", 0, "", FULL);
    Check.macro(Check.done("\\def\\a#1{" + "#1".repeat(24) + "}", ""), "a", 1, "#1", "#1".repeat(24));
    Check.macro(Check.done("\\def\\a{" + "{}".repeat(12) + "}", ""), "a", 0, "", "{}".repeat(12));
    Check.macro(Check.done("\\def\\a 12345678{" + FULL + "}", ""), "a", 0, "12345678", FULL);
    String[] last = {"5", "a", " ", "\\b", "\\fi", "#1", "##", "{"};
    String[] after = {"", "}", "}}", "#", "#7", "\\", "\\abcdefghi", "\u0000"};
    for (String token : last) {
      for (String more : after) {
        TexMacroExpander x = Check.gives("\\def\\a#1{" + FULL + token + more, TOO_LONG, "");
        Check.undefined(x, "a");
      }
    }
    Check.gives("\\def\\a{" + "{}".repeat(12) + "5", TOO_LONG, "");
    Check.gives("\\def\\a{{" + FULL.substring(1) + "}", TOO_LONG, "");
    Check.gives("\\def\\a#1{" + "#1".repeat(25), TOO_LONG, "");
    Check.gives("\\def\\a{" + "##".repeat(25), TOO_LONG, "");
    Check.same("the name behind it is not read", Check.ran("\\def\\a{" + FULL + "5\\b").nameCount(), 15);
    // These are no 25th tokens of the text.
    Check.gives("\\def\\a{" + FULL, RUNAWAY, "");
    Check.gives("\\def\\a{" + FULL + "\\", RUNAWAY, "");
    Check.gives("\\def\\a{" + FULL + "\\abcdefghi", TexMacroExpander.E_NAME_LONG, "");
  }

  /** 'Otherwise the target gets the macro': an error leaves it as it was. */
  private static void nothingIsSetByAnError() {
    String[] wrong = {"}", "#2", "#1{#2", "{#", "123456789", "{" + FULL + "5", "{", ".", "#"};
    String[] definitions = {"\\def", "\\gdef"};
    for (String def : definitions) {
      for (String text : wrong) {
        TexMacroExpander x = Check.ran("\\def\\a#1.{u#1}{" + def + "\\a " + text);
        Check.same("no success with " + text, x.status() != TexMacroExpander.S_DONE, true);
        Check.macro(x, "a", 1, "#1.", "u#1");
      }
    }
  }

  /** 'The next token must be a cs, else E_BAD_DEF'. */
  private static void letTargets() {
    String[] lets = {"\\let", "\\glet"};
    for (String let : lets) {
      for (String c : CHARS) {
        Check.gives("z" + let + "\u0000" + c + "\\b", BAD_DEF, "z");
        Check.gives("z" + let + "\u0000" + c, BAD_DEF, "z");
      }
      Check.gives("z" + let, RUNAWAY, "z");
      Check.gives("z" + let + "\\a", RUNAWAY, "z");
      Check.gives("z" + let + "\\fi", RUNAWAY, "z");
      Check.same("not changed", Check.ran(let + "\\fi").meaningKind(13), TexMacroExpander.M_PRIMITIVE);
      Check.same("its own name", Check.done(let + let + "!" + let, "!").expansionsUsed(), 0);
    }
  }

  /** 'a cs's current meaning (copied), or let-char of a character token'. */
  private static void letMeanings() {
    int[] tokens = {128 + '{', 256 + '}', 384 + '#', 512 + ' ', 640 + 'a', 768 + '1', 768 + '?'};
    for (int i = 0; i < CHARS.length; i++) {
      TexMacroExpander x = Check.done("\\let\\1" + CHARS[i], "");
      Check.same("let-char of " + CHARS[i], State.meaning(x, 14), "3/" + tokens[i] + "/-1/-1");
    }
    for (int p = 0; p < 14; p++) {
      if (p != 4 && p != 5) {
        TexMacroExpander x = Check.done("\\let\\1\\" + Check.name(new TexMacroExpander(1), p), "");
        Check.same("primitive " + p, State.meaning(x, 14), "1/" + p + "/-1/-1");
      }
    }
    Check.same("undefined", State.meaning(Check.done("\\let\\fi\\zz", ""), 13), "0/0/-1/-1");
    String longest = "\\def\\a#1#2#3#4#5#6#7#8{" + FULL.substring(1) + "#8}";
    TexMacroExpander x = Check.done(longest + "\\let\\b\\a\\let\\c\\b\\def\\a{}\\def\\b{}", "");
    Check.macro(x, "c", 8, "#1#2#3#4#5#6#7#8", FULL.substring(1) + "#8");
    Check.same("of a name that means a char", State.meaning(Check.done("\\let\\a!\\let\\b\\a\\let\\a?", ""), 15),
      "3/" + (768 + '!') + "/-1/-1");
    x = Check.done(longest + "\\let\\a\\a", "");
    Check.macro(x, "a", 8, "#1#2#3#4#5#6#7#8", FULL.substring(1) + "#8");
    // The source is not expanded, and no sign between the two is skipped.
    Check.same("expansions", Check.done("\\def\\a{x}\\let\\b\\a", "").expansionsUsed(), 0);
    Check.done("\\let\\a=b\\a", "b=");
    Check.done("\\let\\1 b\\1", "b ");
  }

  /** 'a character token's char, or, for a cs with a 1-char name, that char; any other first token is E_BAD_CATCODE'. */
  private static void catcodeFirstToken() {
    String[] commands = {"\\catcode", "\\gcatcode"};
    for (String command : commands) {
      for (int c = 0; c < 128; c++) {
        TexMacroExpander x = Check.done(command + "\\" + (char) c + "\u0000" + "7", "");
        Check.same("catcode of " + c, x.catcode(c), 7);
      }
      for (String c : CHARS) {
        TexMacroExpander x = Check.done(command + "\u0000" + c + "7", "");
        Check.same("catcode of " + c, x.catcode(c.charAt(0)), 7);
      }
      // Only the name's length counts, not its meaning.
      Check.same("a macro", Check.done("\\def\\a{b}" + command + "\\a7", "").catcode('a'), 7);
      Check.same("a let-char", Check.done("\\let\\a!" + command + "\\a7", "").catcode('a'), 7);
      String[] wrong = {"\\fi", "\\ab", "\\let", "\\abcdefgh"};
      String[] after = {"", "7", "\\", "\\abcdefghi", "\\q"};
      for (String name : wrong) {
        for (String more : after) {
          TexMacroExpander x = Check.gives("z" + command + name + more, BAD_CATCODE, "z");
          Check.same("the second token is not read", Check.index(x, "q"), -1);
        }
      }
      Check.gives("z" + command, RUNAWAY, "z");
    }
  }

  /** 'The next token must be a character token with char '0'..'7'. Otherwise E_BAD_CATCODE'. */
  private static void catcodeSecondToken() {
    String[] commands = {"\\catcode", "\\gcatcode"};
    for (String command : commands) {
      for (int c = 0; c < 128; c++) {
        boolean token = c != '\\' && c >= 32 && c != 127;
        if (token) {
          TexMacroExpander x = Check.ran(command + "?" + (char) c);
          boolean digit = c >= '0' && c <= '7';
          Check.same("second token " + (char) c, x.status(), digit ? TexMacroExpander.S_DONE : BAD_CATCODE);
          Check.same("catcode of ?", x.catcode('?'), digit ? c - '0' : 6);
        }
      }
      Check.gives(command + "?\\3", BAD_CATCODE, "");
      Check.gives(command + "?\\fi", BAD_CATCODE, "");
      Check.gives("\\let\\a3" + command + "?\\a", BAD_CATCODE, "");
      Check.gives("\\def\\a{3}" + command + "?\\a", BAD_CATCODE, "");
      Check.gives(command + "? 3", BAD_CATCODE, "");
      Check.gives(command + "?", RUNAWAY, "");
      Check.same("one digit", Check.done(command + "?34", "4").catcode('?'), 3);
      for (int category = 1; category <= 6; category++) {
        TexMacroExpander x = Check.done("\\catcode3" + category + command + "?3", "");
        Check.same("a digit of category " + category, x.catcode('?'), 3);
      }
    }
  }
}
