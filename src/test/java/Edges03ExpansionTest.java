/** Promise 3, macro expansion: its edges, a method for each sentence. */
public final class Edges03ExpansionTest {
  private static final int NO_MATCH = TexMacroExpander.E_NO_MATCH;
  private static final int RUNAWAY = TexMacroExpander.E_RUNAWAY;
  private static final int PENDING_FULL = TexMacroExpander.E_PENDING_FULL;

  public static void main(String[] args) {
    limitReached();
    limitComesFirst();
    prefixes();
    emptyDelimiter();
    nonEmptyDelimiter();
    stopsAtTheFirstMismatch();
    bracesInDelimitedArguments();
    outerBracesGo();
    emptyArguments();
    arguments256();
    argumentSums();
    fullArgumentsAndOtherErrors();
    pending256();
    markersAreReplaced();
    Check.end();
  }

  /** 'if expansions used equals the limit, E_EXPANSIONS; else expansions used +1'. */
  private static void limitReached() {
    int[] limits = {1, 2, 3, 99, 100};
    for (int limit : limits) {
      for (int calls = limit - 1; calls <= limit + 1; calls++) {
        TexMacroExpander x = Check.fed(limit, "\\def\\a{x}" + "\\a".repeat(calls) + "1");
        boolean fits = calls <= limit;
        int used = fits ? calls : limit;
        Check.same("run", x.run(), fits ? TexMacroExpander.S_DONE : TexMacroExpander.E_EXPANSIONS);
        Check.same("used", x.expansionsUsed(), used);
        Check.same("output", Check.outputChars(x), "x".repeat(used) + (fits ? "1" : ""));
      }
    }
    // Only macros count: no primitive and no let-char does.
    TexMacroExpander x = Check.fed(1, "\\let\\c!\\c\\c\\iftrue\\c\\fi\\iffalse\\else\\ifx\\c!\\c\\fi\\fi{\\endgroup");
    Check.same("run", x.run(), TexMacroExpander.S_DONE);
    Check.same("used", x.expansionsUsed(), 0);
    // Nor does a macro that is not expanded.
    x = Check.fed(1, "\\def\\a{x}\\let\\b\\a\\ifx\\a\\b\\iffalse\\a\\fi\\fi\\def\\c{\\a}");
    Check.same("run", x.run(), TexMacroExpander.S_DONE);
    Check.same("used", x.expansionsUsed(), 0);
  }

  /** The limit is looked at, and the expansion counted, before a token is matched. */
  private static void limitComesFirst() {
    String[] calls = {"\\b!", "\\b", "\\b\\", "\\b\\abcdefghi"};
    for (String call : calls) {
      TexMacroExpander x = Check.fed(1, "\\def\\a{}\\def\\b.{}\\a" + call);
      Check.same("run", x.run(), TexMacroExpander.E_EXPANSIONS);
      Check.same("used", x.expansionsUsed(), 1);
      x = Check.fed(2, "\\def\\a{}\\def\\b.{}\\a" + call);
      Check.same("no success", x.run() > TexMacroExpander.S_DONE, true);
      Check.same("another error", x.status() != TexMacroExpander.E_EXPANSIONS, true);
      Check.same("used", x.expansionsUsed(), 2);
    }
  }

  /** 'The tokens of the parameter text before marker 1 (all of them, if there are no markers) must equal ...'. */
  private static void prefixes() {
    Check.done("\\def\\a{x}\\a.", "x.");
    Check.done("\\def\\a.{x}\\a..", "x.");
    Check.done("\\def\\a 12345678{x}\\a 123456789", "x9");
    Check.done("\\def\\a 1234567#1{[#1]}\\a 123456789", "[8]9");
    for (int length = 0; length < 8; length++) {
      String part = "12345678".substring(0, length);
      Check.gives("\\def\\a 12345678{x}\\a " + part, RUNAWAY, "");
      Check.gives("\\def\\a 12345678{x}\\a " + part + "!", NO_MATCH, "");
      Check.gives("\\def\\a 12345678{x}\\a " + part + "}", NO_MATCH, "");
      Check.gives("\\def\\a 12345678{x}\\a " + part + "{", NO_MATCH, "");
      // What stands behind the wrong token is not read.
      Check.gives("\\def\\a 12345678{x}\\a " + part + "!\\abcdefghi", NO_MATCH, "");
    }
    // Equal is by encoding: the same char in another category differs, and so does a name that means it.
    Check.gives("\\def\\a!{x}\\catcode!5\\a !", NO_MATCH, "");
    Check.gives("\\def\\a!{x}\\let\\b!\\a\\b", NO_MATCH, "");
    Check.gives("\\def\\a\\b{x}\\let\\c\\b\\a\\c", NO_MATCH, "");
    Check.done("\\def\\a\\b{x}\\def\\b{y}\\a\\b", "x");
    // No space is dropped in front of a prefix.
    Check.gives("\\def\\1.{x}\\1 .", NO_MATCH, "");
    Check.gives("\\def\\1.#1{x}\\1 .y", NO_MATCH, "");
  }

  /** 'Empty delimiter: cat-4 tokens are dropped; a cat-1 token starts a balanced group ...'. */
  private static void emptyDelimiter() {
    String def = "\\def\\1#1{[#1]}";
    Check.done(def + "\\1xy", "[x]y");
    Check.done(def + "\\1 xy", "[x]y");
    Check.done(def + "\\1     xy", "[x]y");
    Check.done(def + "\\1 \u0000 xy", "[x]y");
    Check.done(def + "\\1  {xy}z", "[xy]z");
    Check.done(def + "\\1x y", "[x] y");
    Check.done(def + "\\1{ x }y", "[ x ]y");
    Check.done(def + "\\1{}y", "[]y");
    Check.done(def + "\\1{{}}y", "[{}]y");
    Check.done(def + "\\1{{x}{y}}z", "[{x}{y}]z");
    Check.done(def + "\\1#y", "[#]y");
    Check.done("\\catcode<1\\catcode>2" + def + "\\1<x}\\1{y>z", "[x][y]z");
    Check.done("\\def\\2{  x}" + def + "\\1\\2", "[  x]");
    Check.done("\\catcode!4" + def + "\\1 ! !xy", "[x]y");
    // A cat-2 token gives E_NO_MATCH, also behind spaces; the end of input gives E_RUNAWAY.
    Check.gives(def + "\\1}", NO_MATCH, "");
    Check.gives(def + "{\\1  }x", NO_MATCH, "{");
    Check.gives("\\catcode>2" + def + "{\\1>", NO_MATCH, "{");
    Check.gives(def + "\\1", RUNAWAY, "");
    Check.gives(def + "\\1   ", RUNAWAY, "");
    Check.gives(def + "\\1{", RUNAWAY, "");
    Check.gives(def + "\\1{x{y}", RUNAWAY, "");
    // A name that means a brace or a space is a single token like any other.
    Check.done("\\let\\e}" + def + "{\\1\\e x", "{[}]x");
    Check.done("\\let\\b{" + def + "\\1\\b x", "[{]x");
    Check.done("\\let\\2 " + def + "\\1\\2x", "[ ]x");
    // Between two markers the delimiter is empty, behind the last one too.
    Check.done("\\def\\1#1#2#3{[#3#2#1]}\\1 x {yz} {}w", "[yzx]w");
    Check.done("\\def\\1#1#2#3#4#5#6#7#8{#8#7#6#5#4#3#2#1}\\1abcdefghi", "hgfedcbai");
  }

  /** 'Non-empty delimiter: repeatedly, at brace depth 0 compare the next tokens with the delimiter one by one'. */
  private static void nonEmptyDelimiter() {
    Check.done("\\def\\a#1.{[#1]}\\a xy.z", "[xy]z");
    Check.done("\\def\\a#1.{[#1]}\\a xy..z", "[xy].z");
    Check.done("\\def\\1#1.{[#1]}\\1  x .z", "[  x ]z");
    Check.done("\\def\\a#1.,;{[#1]}\\a x.,y.,;z", "[x.,y]z");
    Check.done("\\def\\a#1..,{[#1]}\\a ...,z", "[.]z");
    Check.done("\\def\\a#1.,.;{[#1]}\\a .,.,.;z", "[.,]z");
    Check.done("\\def\\a#11234567{[#1]}\\a 1231234567z", "[123]z");
    Check.done("\\def\\a#1.#2,{[#1|#2]}\\a x,y.z.w,v", "[x,y|z.w]v");
    Check.done("\\def\\a#1\\b{[#1]}\\a xy\\b z", "[xy]z");
    Check.done("\\def\\1#1 {[#1]}\\1xy z", "[xy]z");
    Check.done("\\def\\a#1.{[#1]}\\a#.", "[#]");
    // The delimiter may stand partly in PENDING and partly in the raw input.
    Check.done("\\def\\a#1.,{[#1]}\\def\\b{\\a x.}\\b,z", "[x]z");
    Check.done("\\def\\a#1.,{[#1]}\\def\\b{\\a x.}\\b.,z", "[x.]z");
    Check.gives("\\def\\a#1.{[#1]}\\a xy", RUNAWAY, "");
    Check.gives("\\def\\a#1.{[#1]}\\a", RUNAWAY, "");
    Check.gives("\\def\\a#1.,{[#1]}\\a x.", RUNAWAY, "");
    Check.gives("\\def\\a#1.,{[#1]}\\a x.y", RUNAWAY, "");
    Check.gives("\\def\\a#1.#2,{[#1]}\\a x.y", RUNAWAY, "");
    Check.gives("\\def\\a#1!{[#1]}\\catcode!5\\a x!", RUNAWAY, "");
    Check.gives("\\def\\a#1.{[#1]}\\let\\b.\\a x\\b", RUNAWAY, "");
  }

  /** 'stopping at the first mismatch': no token behind it is read. */
  private static void stopsAtTheFirstMismatch() {
    String[] texts = {"\\a}\\q", "\\a x}\\q", "\\a.}\\q", "\\a.,}\\q", "\\a..}\\q"};
    for (String text : texts) {
      TexMacroExpander x = Check.gives("\\def\\a#1.,;{}{" + text, NO_MATCH, "{");
      Check.same("names", x.nameCount(), 15);
    }
    // Inside of braces nothing is compared.
    Check.done("\\def\\a#1.,{[#1]}\\a{.,}x{.}.,", "[{.,}x{.}]");
    Check.done("\\def\\a#1.,{[#1]}\\a.{,}.,", "[.{,}]");
    Check.gives("\\def\\a#1.{[#1]}\\a{x.", RUNAWAY, "");
    // A full match takes no token behind the delimiter.
    TexMacroExpander x = Check.done("\\def\\a#1.,{\\catcode!5}\\a x.,!", "!");
    Check.same("category", x.outputToken(0), 5 * 128 + '!');
  }

  /** 'cat 1: depth+1; cat 2 at depth 0: E_NO_MATCH, else depth-1'. */
  private static void bracesInDelimitedArguments() {
    Check.done("\\def\\a#1.{[#1]}\\a x{y{z}}{}.w", "[x{y{z}}{}]w");
    Check.done("\\def\\a#1.{}\\a x" + "{".repeat(20) + "." + "}".repeat(20) + ".y", "y");
    String[] closes = {"\\a}.", "\\a x}.", "\\a{x}}.", "\\a{}{}}.", "\\a x>."};
    for (String text : closes) {
      TexMacroExpander x = Check.gives("\\catcode>2\\def\\a#1.{}{" + text, NO_MATCH, "{");
      Check.same("the group stays open", x.groupDepth(), 1);
    }
    Check.gives("\\def\\a#1.#2.{}{\\a x.y}.", NO_MATCH, "{");
    // A name that means a brace is none.
    Check.done("\\let\\b{\\let\\e}\\def\\a#1.{}\\a\\e\\b.x", "x");
    Check.done("\\let\\b{\\def\\a#1.{}\\a{\\b}.x", "x");
  }

  /** 'If the argument then is one balanced group, its outer braces go'. */
  private static void outerBracesGo() {
    String def = "\\def\\a#1.{[#1]}\\a";
    Check.done(def + "{x}.", "[x]");
    Check.done(def + "{}.", "[]");
    Check.done(def + "{{}}.", "[{}]");
    Check.done(def + "{x{y}z}.", "[x{y}z]");
    Check.done(def + "{.}.", "[.]");
    Check.done(def + "{x}{y}.", "[{x}{y}]");
    Check.done(def + "{}{}.", "[{}{}]");
    Check.done(def + "{x}y.", "[{x}y]");
    Check.done(def + " x{y}.", "[x{y}]");
    Check.done("\\def\\1#1.{[#1]}\\1 {x}.", "[ {x}]");
    Check.done("\\def\\1#1.{[#1]}\\1{x} .", "[{x} ]");
    Check.done("\\def\\a#1.#2,#3{[#1|#2|#3]}\\a{x}.{y}z,{{w}}", "[x|{y}z|{w}]");
    Check.done("\\catcode<1\\catcode>2\\def\\a#1.{[#1]}\\a<x}.\\a{y>.", "[x][y]");
  }

  private static void emptyArguments() {
    Check.done("\\def\\a#1{[#1]}\\a{}", "[]");
    Check.done("\\def\\a#1.{[#1]}\\a.", "[]");
    Check.done("\\def\\a#1.{[#1]}\\a{}.", "[]");
    Check.done("\\def\\a#1.#2.{[#1|#2]}\\a..x", "[|]x");
    Check.done("\\def\\a#1.#2.{#1#2}\\a..x", "x");
    Check.done("\\def\\a#1#2{[#1|#2]}\\a{}{}x", "[|]x");
  }

  /** \a leaves \b and 240 tokens pending; what \b reads behind them is raw. */
  private static String pending240(String parameters, String replacement) {
    return "\\def\\b" + parameters + "{" + replacement + "}\\def\\a#1{\\b#1#1#1#1}\\a{" + "x".repeat(60) + "}";
  }

  /** 'Argument lengths summing above 256 give E_PENDING_FULL': one argument of 255, 256 and 257. */
  private static void arguments256() {
    String open = pending240("#1.", "");
    Check.done(open + "y".repeat(15) + ".z", "z");
    Check.done(open + "y".repeat(16) + ".z", "z");
    Check.gives(open + "y".repeat(17) + ".z", PENDING_FULL, "");
    Check.gives(open + "y".repeat(50) + ".z", PENDING_FULL, "");
    open = pending240("#1.", "#1");
    Check.done(open + "y".repeat(16) + ".", "x".repeat(240) + "y".repeat(16));
    Check.gives(open + "y".repeat(17) + ".", PENDING_FULL, "");
    Check.same("the expansion counts", Check.ran(open + "y".repeat(17) + ".").expansionsUsed(), 2);
    // Braces inside count, outer ones that go do not.
    open = pending240("#1.", "");
    Check.done(open + "{" + "y".repeat(14) + "}.z", "z");
    Check.gives(open + "{" + "y".repeat(15) + "}.z", PENDING_FULL, "");
    open = "\\def\\b#1.{}\\def\\a#1{\\b{#1#1#1#1}}\\a{" + "x".repeat(60) + "}";
    Check.done(open + ".z", "z");
    Check.done(open + "y".repeat(14) + ".z", "z");
    Check.gives(open + "y".repeat(15) + ".z", PENDING_FULL, "");
  }

  /** The same with several arguments. */
  private static void argumentSums() {
    Check.done(pending240("#1#2.", "") + "y".repeat(16) + ".z", "z");
    Check.gives(pending240("#1#2.", "") + "y".repeat(17) + ".z", PENDING_FULL, "");
    Check.done(pending240("#1.#2", "") + ".{" + "y".repeat(16) + "}z", "z");
    Check.gives(pending240("#1.#2", "") + ".{" + "y".repeat(17) + "}z", PENDING_FULL, "");
    Check.done(pending240("#1.#2", "") + "y".repeat(15) + ".yz", "z");
    Check.gives(pending240("#1.#2", "") + "y".repeat(16) + ".yz", PENDING_FULL, "");
    Check.done(pending240("#1.#2", "") + "y".repeat(16) + ".{}z", "z");
    Check.done(pending240("#1.#2.", "") + "y".repeat(16) + "..z", "z");
    Check.gives(pending240("#1.#2.", "") + "y".repeat(16) + ".w.z", PENDING_FULL, "");
    Check.done(pending240("#1.#2.", "") + ".{" + "y".repeat(16) + "}.z", "z");
    Check.gives(pending240("#1.#2.", "") + ".{" + "y".repeat(17) + "}.z", PENDING_FULL, "");
    Check.done(pending240("#1.#2.", "") + ".{" + "y".repeat(13) + "}w.z", "z");
    Check.gives(pending240("#1.#2.", "") + ".{" + "y".repeat(14) + "}w.z", PENDING_FULL, "");
    // The braces that go do not count, however many arguments lose them.
    String two = "\\def\\b#1.#2.{}\\def\\a#1{\\b{#1#1#1#1}.}\\a{" + "x".repeat(60) + "}";
    Check.done(two + "{" + "y".repeat(16) + "}.z", "z");
    Check.gives(two + "{" + "y".repeat(17) + "}.z", PENDING_FULL, "");
    Check.done(two + "y".repeat(16) + ".z", "z");
    Check.gives(two + "y".repeat(17) + ".z", PENDING_FULL, "");
    String four = "\\def\\b#1.#2.#3.#4.{}\\def\\a#1{\\b{#1#1#1#1}.}\\a{" + "x".repeat(60) + "}{}.{yyyy}.";
    Check.done(four + "{" + "y".repeat(12) + "}.z", "z");
    Check.gives(four + "{" + "y".repeat(13) + "}.z", PENDING_FULL, "");
    Check.done(four + "y".repeat(12) + ".z", "z");
    Check.gives(four + "y".repeat(13) + ".z", PENDING_FULL, "");
    // An empty argument adds nothing and takes nothing off.
    String first = "\\def\\b#1.#2.{}\\def\\a#1{\\b.#1#1#1#1}\\a{" + "x".repeat(60) + "}";
    Check.done(first + "y".repeat(16) + ".z", "z");
    Check.gives(first + "y".repeat(17) + ".z", PENDING_FULL, "");
    Check.done(pending240("#1#2#3#4#5#6#7.", "") + "y".repeat(16) + ".z", "z");
    Check.gives(pending240("#1#2#3#4#5#6#7.", "") + "y".repeat(17) + ".z", PENDING_FULL, "");
    Check.done(pending240("#1#2#3#4#5#6#7#8", "") + "z", "x".repeat(232) + "z");
  }

  /** With 256 tokens in the arguments, what is no 257th token gives its own error. */
  private static void fullArgumentsAndOtherErrors() {
    String[] calls = {pending240("#1.", "") + "y".repeat(16), pending240("#1.#2", "") + "y".repeat(16) + ".",
      pending240("#1.#2.", "") + "y".repeat(16) + ".", pending240("#1.#2", "") + ".{" + "y".repeat(16)};
    for (String call : calls) {
      boolean inBraces = call.contains("{y");
      Check.gives(call, RUNAWAY, "");
      Check.gives(call + "\\", RUNAWAY, "");
      Check.gives(call + "\\abcdefghi", TexMacroExpander.E_NAME_LONG, "");
      Check.gives(call + "}", inBraces ? TexMacroExpander.S_DONE : NO_MATCH, "");
      Check.gives(call + "w", PENDING_FULL, "");
    }
    Check.gives(pending240("#1.#2", "") + "y".repeat(16) + ".   ", RUNAWAY, "");
    Check.gives(pending240("#1.#2", "") + "y".repeat(16) + ".{", RUNAWAY, "");
    Check.gives(pending240("#1..#2", "") + "y".repeat(16) + ".", RUNAWAY, "");
  }

  /** 'PENDING above 256 tokens gives E_PENDING_FULL'. */
  private static void pending256() {
    String four = "\\def\\a#1{#1#1#1#1}";
    Check.done(four + "\\a{" + "x".repeat(63) + "}", "x".repeat(252));
    Check.done(four + "\\a{" + "x".repeat(64) + "}", "x".repeat(256));
    Check.gives(four + "\\a{" + "x".repeat(65) + "}", PENDING_FULL, "");
    Check.done("\\def\\a#1{#1#1#1#1.}\\a{" + "x".repeat(63) + "}", "x".repeat(252) + ".");
    Check.gives("\\def\\a#1{#1#1#1#1.}\\a{" + "x".repeat(64) + "}", PENDING_FULL, "");
    Check.gives("\\def\\a#1{.#1#1#1#1}\\a{" + "x".repeat(64) + "}", PENDING_FULL, "");
    Check.gives("\\def\\a#1#2{#1#1#1#1#2}\\a{" + "x".repeat(64) + "}y", PENDING_FULL, "");
    Check.done("\\def\\a#1#2{#1#1#1#1#2}\\a{" + "x".repeat(64) + "}{}", "x".repeat(256));
    // 24 times an argument of 10 and of 11.
    String often = "\\def\\a#1{" + "#1".repeat(24) + "}\\a{";
    Check.done(often + "x".repeat(10) + "}", "x".repeat(240));
    Check.gives(often + "x".repeat(11) + "}", PENDING_FULL, "");
    // What is still pending behind the macro counts along; the macro itself does not.
    String behind = "\\def\\a#1{\\b#1#1#1#1}\\def\\b";
    Check.done(behind + "{1234}\\a{" + "x".repeat(63) + "}", "1234" + "x".repeat(252));
    Check.gives(behind + "{12345}\\a{" + "x".repeat(63) + "}", PENDING_FULL, "");
    Check.done(behind + "#1{1234#1}\\a{" + "x".repeat(63) + "}", "1234" + "x".repeat(252));
    Check.gives(behind + "#1{12345#1}\\a{" + "x".repeat(63) + "}", PENDING_FULL, "");
    Check.done(behind + "{}\\a{" + "x".repeat(63) + "}", "x".repeat(252));
    TexMacroExpander x = Check.ran(behind + "{12345}\\a{" + "x".repeat(63) + "}");
    Check.same("the expansion counts", x.expansionsUsed(), 2);
    // The raw input does not count.
    Check.gives(four + "\\a{" + "x".repeat(64) + "}" + "y".repeat(100), TexMacroExpander.E_OUTPUT_FULL, "x".repeat(256));
  }

  /** 'The replacement, with each marker k replaced by argument k, is put in front of PENDING'. */
  private static void markersAreReplaced() {
    Check.done("\\def\\a#1#2#3#4#5#6#7#8{#8#1#7#2#6#3#5#4}\\a 12345678", "81726354");
    Check.done("\\def\\a#1{#1#1}\\a{xy}z", "xyxyz");
    Check.done("\\def\\a#1#2{#2}\\a{xy}{zw}", "zw");
    Check.done("\\def\\a{\\b z}\\def\\b{xy}\\a w", "xyzw");
    Check.done("\\def\\a#1{##1}\\a x", "#1");
    Check.done("\\def\\a#1#2{#1#2}\\a{#2}{#1}", "#2#1");
  }
}
