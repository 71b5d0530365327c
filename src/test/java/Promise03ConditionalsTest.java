/** Promise 3: conditionals. */
public final class Promise03ConditionalsTest {
  private static final int RUNAWAY = TexMacroExpander.E_RUNAWAY;
  private static final int EXTRA = TexMacroExpander.E_EXTRA_COND;
  private static final int DEEP = TexMacroExpander.E_COND_DEEP;

  public static void main(String[] args) {
    branches();
    skips();
    ifx();
    deepOnes();
    extraOnes();
    runaways();
    Check.end();
  }

  private static void branches() {
    Check.done("\\iftrue a\\else b\\fi c", "ac");
    Check.done("\\iffalse a\\else b\\fi c", "bc");
    Check.done("\\iftrue a\\fi c", "ac");
    Check.done("\\iffalse a\\fi c", "c");
    Check.done("\\iftrue\\iffalse a\\else b\\fi\\else c\\fi d", "bd");
    Check.done("\\let\\t\\iftrue\\let\\e\\else\\let\\f\\fi\\t a\\e b\\f c", "ac");
    Check.done("\\def\\a{\\iftrue x}\\a y\\else z\\fi", "xy");
    depth("\\iftrue", 1);
    depth("\\iftrue\\iftrue a\\fi", 1);
    depth("\\iffalse a\\else b", 1);
    depth("\\iffalse a\\fi", 0);
    depth("\\iftrue a\\else b\\fi", 0);
    depth("\\iffalse a\\else b\\fi", 0);
    // Groups and conditionals know nothing of each other.
    Check.done("{\\iftrue}\\fi\\iftrue{\\fi}", "{}{}");
  }

  private static void depth(String text, int due) {
    TexMacroExpander x = Check.ran(text);
    Check.same("status after " + text, x.status(), TexMacroExpander.S_DONE);
    Check.same("conditionals after " + text, x.condDepth(), due);
  }

  private static void skips() {
    Check.done("\\iffalse\\iftrue a\\else b\\fi c\\else d\\fi e", "de");
    Check.done("\\iffalse\\iffalse\\ifx\\fi\\fi\\fi e", "e");
    Check.done("\\iffalse\\ifx a\\else\\fi b\\fi e", "e");
    Check.done("\\iftrue x\\else\\iffalse a\\else b\\fi c\\fi d", "xd");
    // A second 'else' does not end a skip that seeks 'fi' alone.
    Check.done("\\iftrue x\\else a\\else b\\fi d", "xd");
    // Braces, undefined names and definitions are dropped.
    TexMacroExpander x = Check.done("\\iffalse{{}\\zz\\def\\a#9\\fi e", "e");
    Check.same("depth", x.groupDepth(), 0);
    Check.undefined(x, "a");
    Check.undefined(x, "zz");
    // A macro is not expanded; what counts is the token's own meaning.
    Check.done("\\def\\a{\\fi}\\iffalse\\a b\\fi e", "e");
    Check.done("\\let\\f\\fi\\iffalse b\\f e", "e");
    Check.done("\\let\\f\\fi\\let\\fi x\\iffalse b\\fi\\f e", "e");
    Check.done("\\let\\i\\ifx\\iffalse\\i b\\fi c\\fi e", "e");
    Check.done("\\let\\e\\else\\iffalse b\\e c\\fi", "c");
    // What is pending is skipped before the raw input.
    Check.done("\\def\\a{\\iffalse b}\\a c\\else d\\fi", "d");
  }

  private static void ifx() {
    same("ab", false);
    same("aa", true);
    same("{{", true);
    same("{}", false);
    same("\\zz\\yy", true);
    same("\\zz\\fi", false);
    same("\\zz\\def", false);
    same("\\def\\zz", false);
    same("\\zz a", false);
    same("\\def\\def", true);
    same("\\def\\gdef", false);
    same("\\fi\\fi", true);
    same("\\else\\fi", false);
    same("a\\fi", false);
    differs("\\let\\a b", "\\a b", true);
    differs("\\let\\a b", "b\\a", true);
    differs("\\let\\a b", "\\a c", false);
    differs("\\let\\a!\\catcode!5", "\\a!", false);
    differs("\\let\\a\\fi", "\\a\\fi", true);
    differs("\\let\\a\\zz", "\\a\\yy", true);
    differs("\\def\\a{x}\\def\\b{x}", "\\a\\b", true);
    differs("\\def\\a{x}\\def\\b{y}", "\\a\\b", false);
    differs("\\def\\a{x}\\def\\b{xx}", "\\a\\b", false);
    differs("\\def\\a{}\\def\\b{x}", "\\a\\b", false);
    differs("\\def\\a{x}\\let\\b x", "\\a\\b", false);
    differs("\\def\\a#1.{x}\\def\\b#1.{x}", "\\a\\b", true);
    differs("\\def\\a#1.{x}\\def\\b#1,{x}", "\\a\\b", false);
    differs("\\def\\a#1.{x}\\def\\b#1{x}", "\\a\\b", false);
    differs("\\def\\a#1{x}\\def\\b{x}", "\\a\\b", false);
    differs("\\def\\a.{x}\\def\\b{x}", "\\a\\b", false);
    differs("\\def\\a.x{}\\def\\b.{x}", "\\a\\b", false);
    differs("\\def\\a#1#2{#1}\\def\\b#1#2{#2}", "\\a\\b", false);
    differs("\\def\\a{\\c}\\def\\b{\\d}", "\\a\\b", false);
    differs("\\def\\a{}", "\\a\\zz", false);
    differs("\\def\\a{}", "\\a\\def", false);
    differs("\\def\\a#1{}", "\\a\\gdef", false);
    // What was read or assigned before leaves no trace in a meaning.
    differs("\\def\\b{x}\\def\\c{yz}\\def\\a{x}", "\\a\\b", true);
    differs("\\def\\b.{x}\\def\\c,,{x}\\def\\a.{x}", "\\a\\b", true);
    differs("\\def\\a{xy}\\let\\b\\a\\def\\b{x}\\def\\a{x}", "\\a\\b", true);
    differs("\\def\\a#1xyz{uvw}\\def\\a{x}\\def\\b{x}", "\\a\\b", true);
    differs("\\def\\a#1xyz{uvw}\\let\\a\\zz", "\\a\\yy", true);
    differs("\\def\\a#1xyz{uvw}\\let\\a x", "\\a x", true);
    differs("\\def\\a#1xyz{uvw}\\let\\a\\fi", "\\a\\fi", true);
  }

  private static void same(String two, boolean due) {
    differs("", two, due);
  }

  private static void differs(String before, String two, boolean due) {
    Check.done(before + "\\ifx " + two + " T\\else F\\fi", due ? trueBranch(two) : "F");
  }

  /** The space in front of T is dropped behind a control word, and put out behind a char. */
  private static String trueBranch(String two) {
    return two.matches(".*\\\\[a-z]+") ? "T" : " T";
  }

  private static void deepOnes() {
    depth("\\iftrue".repeat(8), 8);
    TexMacroExpander x = Check.gives("\\iftrue".repeat(9), DEEP, "");
    Check.same("conditionals", x.condDepth(), 8);
    String eight = "\\iftrue".repeat(8);
    Check.gives(eight + "\\ifx aa", DEEP, "");
    depth(eight + "\\iffalse\\fi", 8);
    depth(eight + "\\ifx ab\\fi", 8);
    x = Check.gives(eight + " x\\iffalse y\\else z\\fi", DEEP, "x");
    Check.same("conditionals", x.condDepth(), 8);
    depth(eight + "\\fi\\iftrue", 8);
    // The nesting of what is skipped has no bound of its own.
    Check.done("\\iffalse" + "\\ifx".repeat(20) + "\\fi".repeat(20) + "\\else x\\fi", "x");
  }

  private static void extraOnes() {
    TexMacroExpander none = Check.gives("a\\fi", EXTRA, "a");
    Check.same("conditionals", none.condDepth(), 0);
    Check.gives("a\\else b\\fi", EXTRA, "a");
    Check.gives("\\iftrue\\fi\\fi", EXTRA, "");
    TexMacroExpander x = Check.gives("\\iffalse\\else a\\else b\\fi", EXTRA, "a");
    Check.same("conditionals", x.condDepth(), 1);
    x = Check.gives("\\iftrue\\iffalse\\else a\\else b\\fi", EXTRA, "a");
    Check.same("conditionals", x.condDepth(), 2);
    Check.done("\\iftrue\\iffalse\\else a\\fi\\else b\\fi", "a");
  }

  private static void runaways() {
    String[] open = {"\\iffalse", "\\iffalse x", "\\iffalse\\iftrue\\fi", "\\iffalse\\iftrue\\else\\fi", "\\ifx",
      "\\ifx a", "\\ifx ab", "\\ifx\\", "\\iffalse\\"};
    for (String text : open) {
      TexMacroExpander x = Check.gives("z" + text, RUNAWAY, "z");
      Check.same("conditionals after " + text, x.condDepth(), 0);
    }
    TexMacroExpander x = Check.gives("\\iftrue a\\else b", RUNAWAY, "a");
    Check.same("not popped", x.condDepth(), 1);
    x = Check.gives("\\iftrue a\\else\\iftrue\\fi", RUNAWAY, "a");
    Check.same("not popped", x.condDepth(), 1);
    Check.gives("\\ifx\\abcdefghi\\", TexMacroExpander.E_NAME_LONG, "");
    Check.gives("\\iffalse\\abcdefghi\\", TexMacroExpander.E_NAME_LONG, "");
  }
}
