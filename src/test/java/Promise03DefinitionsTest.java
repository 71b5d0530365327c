/** Promise 3: def and gdef, let and glet, catcode and gcatcode. */
public final class Promise03DefinitionsTest {
  private static final int BAD_DEF = TexMacroExpander.E_BAD_DEF;
  private static final int TOO_LONG = TexMacroExpander.E_TOO_LONG;
  private static final int RUNAWAY = TexMacroExpander.E_RUNAWAY;
  private static final int BAD_CATCODE = TexMacroExpander.E_BAD_CATCODE;

  public static void main(String[] args) {
    definitions();
    badDefinitions();
    replacements();
    longTexts();
    lets();
    catcodes();
    runaways();
    Check.end();
  }

  private static void definitions() {
    Check.macro(Check.done("\\def\\a{}", ""), "a", 0, "", "");
    Check.macro(Check.done("\\gdef\\a{xy}", ""), "a", 0, "", "xy");
    Check.macro(Check.done("\\def\\a .#1#2,\\b{#2 #1\\b}", ""), "a", 2, ".#1#2,\\b ", "#2 #1\\b ");
    Check.macro(Check.done("\\def\\1 #1 {#1}", ""), "1", 1, " #1 ", "#1");
    Check.macro(Check.done("\\def\\def{x}\\def", "x"), "def", 0, "", "x");
    // All is read unexpanded, and a let-char is no brace.
    Check.macro(Check.done("\\let\\b{\\def\\x{u}\\def\\a\\x\\b{\\x\\fi\\b}", ""), "a", 0, "\\x \\b ",
      "\\x \\fi \\b ");
    Check.macro(Check.done("\\let\\d\\def\\d\\a{x}", ""), "a", 0, "", "x");
    Check.macro(Check.done("\\def\\a#1#2#3#4#5#6#7#8{#8}", ""), "a", 8, "#1#2#3#4#5#6#7#8", "#8");
    // The digit's category does not matter, only its char.
    Check.macro(Check.done("\\catcode 15\\def\\a#1{#1}", ""), "a", 1, "#1", "#1");
    Check.macro(Check.done("\\catcode 11\\def\\a#1{#1}", ""), "a", 1, "#1", "#1");
    Check.macro(Check.done("\\catcode!3\\def\\a!1#2{!2#1}", ""), "a", 2, "#1#2", "#2#1");
    Check.macro(Check.done("\\catcode<1\\catcode>2\\def\\a<{x>}", ""), "a", 0, "", "{x>");
  }

  private static void badDefinitions() {
    String[] bad = {"\\def a{x}", "\\def{", "\\def}", "\\def#", "\\gdef a{x}", "\\def\\a}", "\\def\\a x}",
      "\\def\\a#2{}", "\\def\\a#0{}", "\\def\\a#1#1{}", "\\def\\a#1#3{}", "\\def\\a#{}", "\\def\\a##{}",
      "\\def\\a#\\b{}", "\\def\\a#x{}", "\\def\\a{#}", "\\def\\a{#1}", "\\def\\a#1{#2}", "\\def\\a#1{#0}",
      "\\def\\a#1{#x}", "\\def\\a#1{#\\b}", "\\def\\a#1{#{}}", "\\def\\a#1{# 1}", "\\def\\a# 1{}"};
    for (String text : bad) {
      TexMacroExpander x = Check.gives("z" + text, BAD_DEF, "z");
      Check.same("no meaning after " + text, Check.index(x, "a") < 0 || x.meaningKind(14) == 0, true);
    }
    TexMacroExpander x = Check.gives("\\def\\a{x}\\def\\a#1{#2}", BAD_DEF, "");
    Check.macro(x, "a", 0, "", "x");
  }

  private static void replacements() {
    Check.macro(Check.done("\\def\\a{{x}{{}y}}", ""), "a", 0, "", "{x}{{}y}");
    TexMacroExpander x = Check.done("\\def\\a#1{###1##1}", "");
    Check.same("length", x.macroTextLength(14, 1), 4);
    Check.same("a single cat-3 token", x.macroTextToken(14, 1, 0), 3 * 128 + '#');
    Check.same("a marker", x.macroTextToken(14, 1, 1), 2049);
    Check.same("a single cat-3 token", x.macroTextToken(14, 1, 2), 3 * 128 + '#');
    Check.same("a digit", x.macroTextToken(14, 1, 3), 6 * 128 + '1');
    x = Check.done("\\catcode!3\\def\\a{#!!#}\\a", "#!");
    Check.same("the first one", x.macroTextToken(14, 1, 0), 3 * 128 + '#');
    Check.same("the first one", x.macroTextToken(14, 1, 1), 3 * 128 + '!');
    // A cat-3 digit behind a cat-3 token: the first of the two rules holds.
    x = Check.done("\\catcode!3\\let\\d\\def\\catcode 13\\d\\a{!1}", "");
    Check.same("a token", x.macroTextToken(Check.index(x, "a"), 1, 0), 3 * 128 + '!');
    // A brace that is a marker's digit does not count as a brace.
    Check.macro(Check.done("\\catcode 11\\def\\a#1{#1}x", "x"), "a", 1, "#1", "#1");
    Check.macro(Check.done("\\catcode 12\\def\\a#1{#1}x", "x"), "a", 1, "#1", "#1");
  }

  private static void longTexts() {
    Check.macro(Check.done("\\def\\a 12345678{}", ""), "a", 0, "12345678", "");
    TexMacroExpander x = Check.gives("\\def\\a 123456789{}", TOO_LONG, "");
    Check.undefined(x, "a");
    Check.macro(Check.done("\\def\\a 1234567#1{}", ""), "a", 1, "1234567#1", "");
    Check.gives("\\def\\a 12345678#1{}", TOO_LONG, "");
    Check.gives("\\def\\a#1#2#3#4#5#6#7#8#9{}", TOO_LONG, "");
    // The 9th token is enough: what follows is not looked at.
    Check.gives("\\def\\a 123456789", TOO_LONG, "");
    Check.gives("\\def\\a 123456789}", TOO_LONG, "");
    Check.gives("\\def\\a 12345678\\b", TOO_LONG, "");
    Check.gives("\\def\\a 12345678#1", TOO_LONG, "");
    Check.gives("\\def\\a 12345678}", BAD_DEF, "");
    Check.gives("\\def\\a 12345678", RUNAWAY, "");
    // A pair counts as one token, which is read when both its halves are.
    Check.gives("\\def\\a 12345678#2", BAD_DEF, "");

    String full = "123456789012345678901234";
    Check.macro(Check.done("\\def\\a{" + full + "}", ""), "a", 0, "", full);
    x = Check.gives("\\def\\a{" + full + "5}", TOO_LONG, "");
    Check.undefined(x, "a");
    Check.gives("\\def\\a{" + full + "5", TOO_LONG, "");
    Check.gives("\\def\\a{" + full + "{", TOO_LONG, "");
    Check.gives("\\def\\a{" + full + "##", TOO_LONG, "");
    Check.gives("\\def\\a{" + full, RUNAWAY, "");
    Check.gives("\\def\\a{" + full + "#1", BAD_DEF, "");
    Check.gives("\\def\\a{{" + full.substring(1) + "}}", TOO_LONG, "");
    Check.macro(Check.done("\\def\\a{{" + full.substring(2) + "}}", ""), "a", 0, "",
      "{" + full.substring(2) + "}");
    x = Check.done("\\def\\a{" + "##".repeat(24) + "}", "");
    Check.same("24 pairs", x.macroTextLength(14, 1), 24);
    Check.gives("\\def\\a{" + "##".repeat(25) + "}", TOO_LONG, "");
    Check.macro(Check.done("\\def\\a#1{" + "#1".repeat(24) + "}", ""), "a", 1, "#1", "#1".repeat(24));
  }

  private static void lets() {
    TexMacroExpander x = Check.done("\\let\\a\\fi\\let\\b\\zz\\let\\c{\\let\\d\\d\\glet\\e\\a", "");
    Check.same("of a primitive", x.meaningKind(14), TexMacroExpander.M_PRIMITIVE);
    Check.same("of a primitive", x.meaningValue(14), 13);
    Check.undefined(x, "b");
    Check.undefined(x, "zz");
    Check.same("of a char", x.meaningKind(Check.index(x, "c")), TexMacroExpander.M_LETCHAR);
    Check.same("of a char", x.meaningValue(Check.index(x, "c")), 128 + '{');
    Check.undefined(x, "d");
    Check.same("of a let primitive", x.meaningValue(Check.index(x, "e")), 13);
    // The meaning is copied: a later change of the source does not reach the target.
    x = Check.done("\\def\\a#1.{<#1>}\\let\\b\\a\\def\\a{y}\\b z.\\a", "<z>y");
    Check.macro(x, "b", 1, "#1.", "<#1>");
    Check.done("\\let\\a x\\let\\b\\a\\let\\a y\\a\\b", "yx");
    Check.done("\\def\\a{x}\\let\\a\\zz\\iftrue\\def\\a{y}\\fi\\a", "y");
    Check.gives("\\def\\a{x}\\let\\a\\zz\\a", TexMacroExpander.E_UNDEFINED, "");
    Check.done("\\let\\a=x\\a", "x=");
    Check.gives("\\let x\\a", BAD_DEF, "");
    Check.gives("\\glet{\\a", BAD_DEF, "");
    Check.gives("\\let x", BAD_DEF, "");
    Check.gives("\\let\\fi\\else\\iftrue\\fi\\fi", RUNAWAY, "");
  }

  private static void catcodes() {
    for (int category = 0; category <= 7; category++) {
      TexMacroExpander x = Check.done("\\catcode!" + category, "");
      Check.same("catcode", x.catcode('!'), category);
      x = Check.done("\\gcatcode!" + category, "");
      Check.same("catcode", x.catcode('!'), category);
    }
    Check.same("a 1-char name", Check.done("\\catcode\\a 6", "").catcode('a'), 6);
    Check.same("a 1-char name", Check.done("\\catcode\\{6", "").catcode('{'), 6);
    Check.same("a 1-char name", Check.done("\\catcode\\\\6", "").catcode('\\'), 6);
    Check.same("a 1-char name with a meaning", Check.done("\\let\\a b\\catcode\\a 6", "").catcode('a'), 6);
    Check.same("any category of char", Check.done("\\catcode}6", "").catcode('}'), 6);
    Check.same("a 1-char name", Check.done("\\catcode\\15", "").catcode('1'), 5);
    Check.same("any category of digit", Check.done("\\catcode 35\\catcode!3", "").catcode('!'), 3);
    Check.same("any category of digit", Check.done("\\catcode 31\\catcode!3", "").catcode('!'), 3);
    Check.same("from an argument", Check.done("\\def\\c#1{\\catcode#16}\\c\\ ", "").catcode(' '), 6);
    String[] bad = {"\\catcode!8", "\\catcode!9", "\\catcode!x", "\\catcode!/", "\\catcode!\\1",
      "\\catcode! 1", "\\catcode\\ab1", "\\catcode\\fi1", "\\gcatcode!8", "\\gcatcode\\ab1"};
    for (String text : bad) {
      TexMacroExpander x = Check.gives("z" + text, BAD_CATCODE, "z");
      Check.same("nothing changes", x.catcode('!'), 6);
    }
    // A bad first token is found before the second is read.
    TexMacroExpander x = Check.gives("\\catcode\\ab\\cd", BAD_CATCODE, "");
    Check.same("names", x.nameCount(), 15);
    Check.gives("\\catcode\\ab", BAD_CATCODE, "");
    Check.gives("\\catcode\\ab\\abcdefghi", BAD_CATCODE, "");
    // Nothing is expanded.
    Check.gives("\\def\\a{1}\\catcode!\\a", BAD_CATCODE, "");
  }

  private static void runaways() {
    String[] open = {"\\def", "\\gdef", "\\def\\a", "\\def\\a x", "\\def\\a#", "\\def\\a#1", "\\def\\a{",
      "\\def\\a{x", "\\def\\a{{x}", "\\def\\a#1{#", "\\def\\a{\\", "\\let", "\\glet", "\\let\\a", "\\catcode",
      "\\gcatcode", "\\catcode!", "\\catcode\\a", "\\catcode\\a "};
    for (String text : open) {
      Check.gives("z" + text, RUNAWAY, "z");
    }
  }
}
