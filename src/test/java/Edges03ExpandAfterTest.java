/**
 * Promise 3, expandafter and begingroup: their edges, a method for each sentence. No input reaches the two by
 * their own names, so they are tried under the short names \xa and \bg.
 */
public final class Edges03ExpandAfterTest {
  private static final int RUNAWAY = TexMacroExpander.E_RUNAWAY;
  private static final String BRACKETS = "\\def\\a#1{[#1]}";

  public static void main(String[] args) {
    unreachableByTheirNames();
    takesTwoTokens();
    expandsOnce();
    conditionalsDoTheirWholeWork();
    putsBackWhatIsNotExpandable();
    expandsItself();
    errorsOfTheSecondToken();
    fullPending();
    begingroup();
    Check.end();
  }

  private static TexMacroExpander fed(int limit, String text) {
    TexMacroExpander x = ShortNames.expander(limit);
    for (int i = 0; i < text.length(); i++) {
      Check.same("feed", x.feed(text.charAt(i)), true);
    }
    return x;
  }

  private static TexMacroExpander gives(String text, int status, String output) {
    TexMacroExpander x = fed(100, text);
    Check.same("run of " + text, x.run(), status);
    Check.same("output of " + text, Check.outputChars(x), output);
    return x;
  }

  private static TexMacroExpander done(String text, String output) {
    return gives(text, TexMacroExpander.S_DONE, output);
  }

  private static void unreachableByTheirNames() {
    Check.gives("x\\expandafter", TexMacroExpander.E_NAME_LONG, "x");
    Check.gives("x\\begingroup", TexMacroExpander.E_NAME_LONG, "x");
    Check.gives("x\\let\\y\\expandafter", TexMacroExpander.E_NAME_LONG, "x");
    Check.gives("x\\let\\y\\begingroup", TexMacroExpander.E_NAME_LONG, "x");
  }

  /** 'Take t1, then t2 (unexpanded)'; 'E_RUNAWAY also arises whenever input ends ...: expandafter'. */
  private static void takesTwoTokens() {
    gives("z\\xa", RUNAWAY, "z");
    gives("z\\xa x", RUNAWAY, "z");
    gives("z\\xa\\zz", RUNAWAY, "z");
    gives("z\\xa\\", RUNAWAY, "z");
    gives("z\\xa x\\", RUNAWAY, "z");
    gives("z\\xa\\abcdefghi x", TexMacroExpander.E_NAME_LONG, "z");
    gives("z\\xa x\\abcdefghi", TexMacroExpander.E_NAME_LONG, "z");
    TexMacroExpander x = gives("z\\xa\\q", RUNAWAY, "z");
    Check.same("names", x.nameCount(), 15);
    // t1 may be any token.
    done("\\def\\b{x}{\\xa}\\b", "{}x");
    done("\\def\\b{x}\\xa{\\b", "{x");
    done("\\let\\1\\xa\\def\\b{x}\\1 \\b", " x");
    done("\\def\\b{x}\\xa#\\b", "#x");
    // Both are fixed when they are taken.
    x = done("\\def\\c{\\catcode!5}\\xa\\c!!", "!!");
    Check.same("category of t2", x.outputToken(0), 6 * 128 + '!');
    Check.same("category of what follows", x.outputToken(1), 5 * 128 + '!');
  }

  /** 'If t2 is expandable (meaning macro, ...), expand it once, then put t1 in front of PENDING'. */
  private static void expandsOnce() {
    TexMacroExpander x = done(BRACKETS + "\\def\\b{\\c y}\\def\\c{uv}\\xa\\a\\b", "[uv]y");
    Check.same("expansions", x.expansionsUsed(), 3);
    done(BRACKETS + "\\def\\b#1{#1y}\\xa\\a\\b{uv}w", "[u]vyw");
    done(BRACKETS + "\\def\\b#1.{#1y}\\xa\\a\\b uv.w", "[u]vyw");
    done(BRACKETS + "\\def\\b{}\\xa\\a\\b xy", "[x]y");
    done(BRACKETS + "\\def\\b{uv}\\let\\c\\b\\xa\\a\\c", "[u]v");
    x = fed(1, "\\def\\b{x}\\xa y\\b");
    Check.same("run", x.run(), TexMacroExpander.S_DONE);
    x = fed(1, "\\def\\b{x}\\b\\xa y\\b");
    Check.same("run", x.run(), TexMacroExpander.E_EXPANSIONS);
    Check.same("used", x.expansionsUsed(), 1);
    Check.same("t1 is not put out", Check.outputChars(x), "x");
  }

  /** 'or primitives 9..13 (conditionals do their whole work as below)'. */
  private static void conditionalsDoTheirWholeWork() {
    TexMacroExpander x = done(BRACKETS + "\\xa\\a\\iftrue uv", "[u]v");
    Check.same("conditionals", x.condDepth(), 1);
    x = done(BRACKETS + "\\xa\\a\\iffalse u\\else vw", "[v]w");
    Check.same("conditionals", x.condDepth(), 1);
    x = done(BRACKETS + "\\xa\\a\\iffalse u\\fi vw", "[v]w");
    Check.same("conditionals", x.condDepth(), 0);
    x = done(BRACKETS + "\\xa\\a\\ifx uuvw", "[v]w");
    Check.same("conditionals", x.condDepth(), 1);
    x = done(BRACKETS + "\\xa\\a\\ifx uvvw\\fi xy", "[x]y");
    Check.same("conditionals", x.condDepth(), 0);
    x = done(BRACKETS + "\\iftrue\\xa\\a\\else u\\iftrue\\fi\\fi vw", "[v]w");
    Check.same("conditionals", x.condDepth(), 0);
    x = done(BRACKETS + "\\iftrue\\xa\\a\\fi vw", "[v]w");
    Check.same("conditionals", x.condDepth(), 0);
  }

  /** 'otherwise put t2 then t1 in front (t1 first)'. */
  private static void putsBackWhatIsNotExpandable() {
    done("\\xa uv", "uv");
    done("\\xa uvw", "uvw");
    done(BRACKETS + "\\xa\\a uv", "[u]v");
    done("\\let\\c d\\xa u\\c", "ud");
    gives("\\xa u\\zz", TexMacroExpander.E_UNDEFINED, "u");
    String[] primitives = {"\\def", "\\gdef", "\\let", "\\glet", "\\bg", "\\endgroup", "\\catcode", "\\gcatcode"};
    for (String primitive : primitives) {
      // \a eats the primitive as it is, and it does nothing.
      TexMacroExpander x = done("\\def\\a#1{}{\\xa\\a" + primitive + "\\iftrue\\fi v", "{v");
      Check.same("depth", x.groupDepth(), 1);
      Check.same("expansions", x.expansionsUsed(), 1);
    }
    done("\\xa{}", "{}");
    done("{\\xa}x", "{}x");
  }

  /** 'If t2 is expandable (meaning ... expandafter)'. */
  private static void expandsItself() {
    TexMacroExpander x = done(BRACKETS + "\\def\\b{uv}\\xa\\a\\xa w\\b", "[w]uv");
    Check.same("expansions", x.expansionsUsed(), 2);
    done(BRACKETS + "\\def\\b{\\c y}\\def\\c{uv}\\xa\\xa\\xa\\a\\b", "[u]vy");
    done("\\xa 1\\xa 2\\xa 3\\xa 45", "12345");
    gives("\\xa 1\\xa", RUNAWAY, "");
    gives("\\xa 1\\xa 2", RUNAWAY, "");
    gives("\\xa 1\\xa 2\\xa", RUNAWAY, "");
    gives("\\xa\\xa\\xa", RUNAWAY, "");
    // As many as the input can hold.
    done("\\let\\1\\xa" + "\\1x".repeat(82) + "y", "x".repeat(82) + "y");
    gives("\\let\\1\\xa" + "\\1x".repeat(82), RUNAWAY, "");
    done("\\let\\1\\xa" + "\\1".repeat(15) + "xy", "xy");
  }

  private static void errorsOfTheSecondToken() {
    gives("\\xa u\\fi", TexMacroExpander.E_EXTRA_COND, "");
    gives("\\xa u\\else", TexMacroExpander.E_EXTRA_COND, "");
    gives("\\iftrue".repeat(8) + "\\xa u\\iftrue", TexMacroExpander.E_COND_DEEP, "");
    gives("\\xa u\\iffalse", RUNAWAY, "");
    gives("\\xa u\\ifx v", RUNAWAY, "");
    gives("\\def\\b.{}\\xa u\\b!", TexMacroExpander.E_NO_MATCH, "");
    gives("\\def\\b.{}\\xa u\\b", RUNAWAY, "");
    gives("\\def\\b#1{#1#1#1#1}\\xa u\\b{" + "x".repeat(65) + "}", TexMacroExpander.E_PENDING_FULL, "");
  }

  /** 'PENDING above 256 tokens gives E_PENDING_FULL', also when it is t1 that makes it so long. */
  private static void fullPending() {
    String four = "\\def\\b#1{#1#1#1#1}\\def\\c#1{#1#1#1#1.}\\def\\d#1{#1#1#1#1...}";
    done(four + "\\xa u\\b{" + "x".repeat(63) + "}", "u" + "x".repeat(252));
    done(four + "\\xa u\\d{" + "x".repeat(63) + "}", "u" + "x".repeat(252) + "...");
    gives(four + "\\xa u\\b{" + "x".repeat(64) + "}", TexMacroExpander.E_PENDING_FULL, "");
    done(four + "\\xa u\\xa v\\c{" + "x".repeat(63) + "}", "uv" + "x".repeat(252) + ".");
    gives(four + "\\xa u\\xa v\\d{" + "x".repeat(63) + "}", TexMacroExpander.E_PENDING_FULL, "");
  }

  /** 'begingroup/endgroup open/close a group with nothing output', 'may close each other'. */
  private static void begingroup() {
    for (int depth = 0; depth <= 8; depth++) {
      Check.same("depth", done("\\bg".repeat(depth), "").groupDepth(), depth);
    }
    Check.same("depth", gives("\\bg".repeat(9), TexMacroExpander.E_GROUP_DEEP, "").groupDepth(), 8);
    Check.same("depth", gives("{{{{{{{{\\bg", TexMacroExpander.E_GROUP_DEEP, "{{{{{{{{").groupDepth(), 8);
    Check.same("depth", gives("\\bg".repeat(8) + "{", TexMacroExpander.E_GROUP_DEEP, "").groupDepth(), 8);
    done("\\let\\a x\\bg\\let\\a y\\a\\endgroup\\a", "yx");
    done("\\let\\a x\\bg\\let\\a y\\a}\\a", "y}x");
    done("\\let\\a x{\\let\\a y\\a\\endgroup\\a", "{yx");
    gives("\\bg}}", TexMacroExpander.E_EXTRA_END, "}");
    gives("\\bg\\endgroup\\endgroup", TexMacroExpander.E_EXTRA_END, "");
  }
}
