/** Promise 3: macro expansion. */
public final class Promise03ExpansionTest {
  private static final int NO_MATCH = TexMacroExpander.E_NO_MATCH;
  private static final int RUNAWAY = TexMacroExpander.E_RUNAWAY;
  private static final int PENDING_FULL = TexMacroExpander.E_PENDING_FULL;

  public static void main(String[] args) {
    expansionsAreCounted();
    prefixes();
    undelimitedArguments();
    delimitedArguments();
    outerBraces();
    replacements();
    fullPending();
    longArguments();
    Check.end();
  }

  private static void expansionsAreCounted() {
    TexMacroExpander x = Check.fed(2, "\\def\\a{x}\\a\\a\\a");
    Check.same("run", x.run(), TexMacroExpander.E_EXPANSIONS);
    Check.same("output", Check.outputChars(x), "xx");
    Check.same("used", x.expansionsUsed(), 2);
    x = Check.fed(2, "\\def\\a{x}\\a\\a");
    Check.same("run", x.run(), TexMacroExpander.S_DONE);
    Check.same("used", x.expansionsUsed(), 2);
    // An expansion counts before its prefix is matched, and the limit is looked at before that.
    x = Check.gives("\\def\\a.{x}\\a!", NO_MATCH, "");
    Check.same("used", x.expansionsUsed(), 1);
    x = Check.fed(1, "\\def\\a.{x}\\a.\\a!");
    Check.same("run", x.run(), TexMacroExpander.E_EXPANSIONS);
    Check.same("used", x.expansionsUsed(), 1);
    x = Check.fed(1, "\\def\\a#1{x}\\a.\\a");
    Check.same("run", x.run(), TexMacroExpander.E_EXPANSIONS);
  }

  private static void prefixes() {
    Check.done("\\def\\a.,{x}\\a.,y", "xy");
    Check.gives("\\def\\a.,{x}\\a..", NO_MATCH, "");
    Check.gives("\\def\\a.,{x}\\a.", RUNAWAY, "");
    Check.gives("\\def\\a.,{x}\\a", RUNAWAY, "");
    Check.gives("\\def\\a.,{x}\\a!", NO_MATCH, "");
    Check.done("\\def\\a.#1{[#1]}\\a.yz", "[y]z");
    Check.gives("\\def\\a.#1{[#1]}\\a yz", NO_MATCH, "");
    Check.done("\\def\\1 .{x}\\1 .", "x");
    Check.gives("\\def\\1 .{x}\\1.", NO_MATCH, "");
    // Tokens are compared by their encoding: categories count, meanings do not.
    Check.gives("\\def\\a!{x}\\catcode!5\\a !", NO_MATCH, "");
    Check.gives("\\let\\b.\\def\\a.{x}\\a\\b", NO_MATCH, "");
    Check.gives("\\let\\b\\c\\def\\a\\b{x}\\a\\c", NO_MATCH, "");
    Check.done("\\def\\a\\b{x}\\a\\b", "x");
    Check.done("\\def\\b{y}\\def\\a\\b{x}\\a\\b", "x");
    Check.gives("\\def\\a.{x}\\a}", NO_MATCH, "");
  }

  private static void undelimitedArguments() {
    Check.done("\\def\\a#1{[#1]}\\a xy", "[x]y");
    Check.done("\\def\\a#1{[#1]}\\a{xy}z", "[xy]z");
    Check.done("\\def\\a#1{[#1]}\\a{}z", "[]z");
    Check.done("\\def\\a#1{[#1]}\\a{{x}}z", "[{x}]z");
    Check.done("\\def\\a#1{[#1]}\\a{x{y}{}}z", "[x{y}{}]z");
    Check.done("\\def\\1#1{[#1]}\\1  \u0000 x y", "[x] y");
    Check.done("\\def\\1#1#2{[#1|#2]}\\1 x  {y z}", "[x|y z]");
    Check.done("\\def\\a#1{[#1]}\\a{ x }", "[ x ]");
    Check.done("\\def\\a#1#2#3#4#5#6#7#8{#8#7#6#5#4#3#2#1}\\a 12345678", "87654321");
    Check.done("\\def\\a#1{[#1]}\\a#", "[#]");
    Check.done("\\def\\b{y}\\def\\a#1{[#1#1]}\\a\\b", "[yy]");
    Check.done("\\let\\o{\\let\\c}\\def\\a#1{[#1]}\\a\\o x\\c", "[{]x}");
    Check.gives("\\def\\a#1{[#1]}\\a}", NO_MATCH, "");
    Check.gives("\\def\\1#1{[#1]}{\\1 }", NO_MATCH, "{");
    Check.gives("\\def\\a#1{[#1]}\\a", RUNAWAY, "");
    Check.gives("\\def\\1#1{[#1]}\\1   ", RUNAWAY, "");
    Check.gives("\\def\\a#1{[#1]}\\a{x{y}", RUNAWAY, "");
    Check.gives("\\def\\a#1#2{[#1]}\\a x", RUNAWAY, "");
  }

  private static void delimitedArguments() {
    Check.done("\\def\\a#1.{[#1]}\\a xyz.w", "[xyz]w");
    Check.done("\\def\\a#1.{[#1]}\\a.w", "[]w");
    Check.done("\\def\\1#1.{[#1]}\\1 x .w", "[ x ]w");
    Check.done("\\def\\a#1.{[#1]}\\a x{.}y.w", "[x{.}y]w");
    Check.done("\\def\\a#1..{[#1]}\\a x.y..w", "[x.y]w");
    Check.done("\\def\\a#1..{[#1]}\\a x...w", "[x].w");
    Check.done("\\def\\a#1ab{[#1]}\\a aab.", "[a].");
    Check.done("\\def\\a#1aab{[#1]}\\a aaab.", "[a].");
    Check.done("\\def\\a#1abac{[#1]}\\a ababac.", "[ab].");
    Check.done("\\def\\a#1ab{[#1]}\\a a{b}ab.", "[a{b}].");
    Check.done("\\def\\a#1ab{[#1]}\\a{ab}a{ab}ab.", "[{ab}a{ab}].");
    Check.done("\\def\\a#1\\b{[#1]}\\a x\\b.", "[x].");
    Check.done("\\def\\a#1.#2,#3{[#1|#2|#3]}\\a x.y,z", "[x|y|z]");
    Check.done("\\def\\a#1#2.{[#1|#2]}\\a xyz.", "[x|yz]");
    Check.done("\\def\\a,#1.#2{[#1|#2]}\\a,x.{yz}", "[x|yz]");
    Check.done("\\def\\1#1 {[#1]}\\1xy z", "[xy]z");
    Check.gives("\\def\\a#1.{[#1]}\\a x", RUNAWAY, "");
    Check.gives("\\def\\a#1.{[#1]}\\a x{.", RUNAWAY, "");
    Check.gives("\\def\\a#1..{[#1]}\\a x.", RUNAWAY, "");
    Check.gives("\\def\\a#1.{[#1]}{\\a x}.", NO_MATCH, "{");
    Check.gives("\\def\\a#1.{[#1]}\\a{x}}.", NO_MATCH, "");
    Check.gives("\\def\\a#1.{[#1]}\\catcode.5\\a x.", RUNAWAY, "");
    // The look ahead stops at the first mismatch: the name behind it is not read.
    TexMacroExpander x = Check.gives("\\def\\a#1.;{[#1]}\\a x}\\b", NO_MATCH, "");
    Check.same("names", x.nameCount(), 15);
    x = Check.gives("\\def\\a#1.,;{[#1]}\\a .}\\b", NO_MATCH, "");
    Check.same("names", x.nameCount(), 15);
  }

  private static void outerBraces() {
    Check.done("\\def\\a#1.{[#1]}\\a{xy}.", "[xy]");
    Check.done("\\def\\a#1.{[#1]}\\a{}.", "[]");
    Check.done("\\def\\a#1.{[#1]}\\a{.}.", "[.]");
    Check.done("\\def\\a#1.{[#1]}\\a{{x}}.", "[{x}]");
    Check.done("\\def\\a#1.{[#1]}\\a{{x}{y}}.", "[{x}{y}]");
    Check.done("\\def\\a#1.{[#1]}\\a{x}{y}.", "[{x}{y}]");
    Check.done("\\def\\a#1.{[#1]}\\a{x}y.", "[{x}y]");
    Check.done("\\def\\a#1.{[#1]}\\a y{x}.", "[y{x}]");
    Check.done("\\def\\1#1.{[#1]}\\1 {x}.", "[ {x}]");
    Check.done("\\def\\a#1.#2,{[#1|#2]}\\a{x}.{y},", "[x|y]");
    Check.done("\\def\\a#1.#2,{[#1|#2]}\\a{x}.{y}{z},", "[x|{y}{z}]");
  }

  private static void replacements() {
    Check.done("\\def\\a#1{#1#1#1}\\a{xy}z", "xyxyxyz");
    Check.done("\\def\\a#1#2{#2#1#2}\\a xy", "yxy");
    Check.done("\\def\\a#1{}\\a xy", "y");
    Check.done("\\def\\a#1{\\b#1}\\def\\b#1{<#1>}\\a{xy}", "<x>y");
    Check.done("\\def\\a{\\b}\\def\\b#1{<#1>}\\a{xy}z", "<xy>z");
    Check.done("\\def\\a{x}\\def\\b{\\a y}\\b z", "xyz");
    Check.done("\\def\\a#1{##1}\\a x", "#1");
    Check.done("\\def\\a#1{\\def\\b##1{#1##1}}\\a x\\b y", "xy");
    // An argument's tokens are not looked through for markers again.
    Check.done("\\def\\a#1#2{#1#2}\\a{#2}x", "#2x");
    // A macro that is redefined by what it leaves behind.
    Check.done("\\def\\a{\\def\\a{y}x}\\a\\a", "xy");
  }

  private static void fullPending() {
    Check.done("\\def\\a#1{#1#1#1#1}\\a{" + "x".repeat(64) + "}", "x".repeat(256));
    Check.gives("\\def\\a#1{#1#1#1#1.}\\a{" + "x".repeat(64) + "}", PENDING_FULL, "");
    Check.gives("\\def\\a#1{#1#1#1#1}\\a{" + "x".repeat(65) + "}", PENDING_FULL, "");
    // What is in front of the rest of PENDING counts along with it.
    Check.done("\\def\\b{yz}\\def\\a#1{#1#1#1#1}\\a{\\b " + "x".repeat(62) + "}",
      ("yz" + "x".repeat(62)).repeat(4));
    Check.done("\\def\\b{1234}\\def\\a#1{\\b#1#1#1#1}\\a{" + "x".repeat(63) + "}", "1234" + "x".repeat(252));
    String text = "\\def\\b{12345}\\def\\a#1{\\b#1#1#1#1}\\a{";
    Check.gives(text + "x".repeat(63) + "}", PENDING_FULL, "");
    TexMacroExpander x = Check.ran(text + "x".repeat(63) + "}");
    Check.same("both expansions count", x.expansionsUsed(), 2);
    // Raw input that was not read yet does not count.
    Check.gives("\\def\\a#1{#1#1#1#1}\\a{" + "x".repeat(64) + "}yyyyyyyyyy", TexMacroExpander.E_OUTPUT_FULL,
      "x".repeat(256));
  }

  private static void longArguments() {
    // \a leaves \b and 4 * 60 tokens pending; \b's argument goes on into the raw input.
    String open = "\\def\\b#1.{}\\def\\a#1{\\b#1#1#1#1}\\a{" + "x".repeat(60) + "}";
    Check.done(open + "y".repeat(16) + ".z", "z");
    Check.gives(open + "y".repeat(17) + ".z", PENDING_FULL, "");
    // The lengths of all arguments are added up.
    open = "\\def\\b#1#2.{}\\def\\a#1{\\b#1#1#1#1}\\a{" + "x".repeat(60) + "}";
    Check.done(open + "y".repeat(16) + ".z", "z");
    Check.gives(open + "y".repeat(17) + ".z", PENDING_FULL, "");
    open = "\\def\\b#1.#2{}\\def\\a#1{\\b#1#1#1#1}\\a{" + "x".repeat(60) + "}";
    Check.done(open + "y".repeat(15) + ".zw", "w");
    Check.gives(open + "y".repeat(16) + ".zw", PENDING_FULL, "");
    Check.done(open + "y".repeat(16) + ".{}w", "w");
    // Outer braces that go do not count; those that stay do.
    open = "\\def\\b#1.#2.{}\\def\\a#1{\\b#1#1#1#1.}\\a{" + "x".repeat(60) + "}";
    Check.done(open + "{" + "y".repeat(16) + "}.z", "z");
    Check.gives(open + "{" + "y".repeat(17) + "}.z", PENDING_FULL, "");
    Check.done(open + "{" + "y".repeat(13) + "}w.z", "z");
    Check.gives(open + "{" + "y".repeat(14) + "}w.z", PENDING_FULL, "");
    Check.gives(open + "{" + "y".repeat(16) + "}w.z", PENDING_FULL, "");
    open = "\\def\\b#1.#2{}\\def\\a#1{\\b#1#1#1#1.}\\a{" + "x".repeat(60) + "}";
    Check.done(open + "{" + "y".repeat(16) + "}z", "z");
    Check.gives(open + "{" + "y".repeat(17) + "}z", PENDING_FULL, "");
    open = "\\def\\b#1.#2.#3{#3#2}\\def\\a#1{\\b{#1#1#1#1}.}\\a{" + "x".repeat(60) + "}";
    Check.done(open + "{" + "y".repeat(8) + "}.{" + "w".repeat(8) + "}z",
      "w".repeat(8) + "y".repeat(8) + "z");
    Check.gives(open + "{" + "y".repeat(8) + "}.{" + "w".repeat(9) + "}z", PENDING_FULL, "");
    // The error comes as soon as the lengths are above 256, before the input ends.
    open = "\\def\\b#1.{}\\def\\a#1{\\b#1#1#1#1}\\a{" + "x".repeat(60) + "}";
    Check.gives(open + "y".repeat(16), RUNAWAY, "");
    Check.gives(open + "y".repeat(17), PENDING_FULL, "");
    open = "\\def\\b#1.#2.{}\\def\\a#1{\\b#1#1#1#1.}\\a{" + "x".repeat(60) + "}";
    Check.gives(open + "{" + "y".repeat(16), RUNAWAY, "");
    Check.gives(open + "{" + "y".repeat(17), PENDING_FULL, "");
  }
}
