/** Promise 3, conditionals: their edges, a method for each sentence. */
public final class Edges03ConditionalsTest {
  private static final int EXTRA = TexMacroExpander.E_EXTRA_COND;
  private static final int DEEP = TexMacroExpander.E_COND_DEEP;
  private static final int RUNAWAY = TexMacroExpander.E_RUNAWAY;
  private static final String EIGHT = "\\iftrue".repeat(8);

  public static void main(String[] args) {
    eightEntries();
    skipComesBeforeThePush();
    iftrue();
    ifx();
    iffalse();
    elseOnAnEmptyStack();
    elseOnElse();
    elseOnIf();
    fi();
    nestingInSkips();
    elseInSkips();
    skipsReadUnexpanded();
    skipsDropAllElse();
    skipsEnd();
    Check.end();
  }

  private static void ends(String text, int status, String output, int conditionals) {
    TexMacroExpander x = Check.gives(text, status, output);
    Check.same("conditionals after " + text, x.condDepth(), conditionals);
  }

  private static void done(String text, String output, int conditionals) {
    ends(text, TexMacroExpander.S_DONE, output, conditionals);
  }

  /** 'The conditional stack holds at most 8 entries. A push onto 8 entries gives E_COND_DEEP'. */
  private static void eightEntries() {
    for (int count = 0; count <= 8; count++) {
      done("\\iftrue".repeat(count), "", count);
      done("\\iffalse\\else".repeat(count), "", count);
      done("\\ifx aa".repeat(count), "", count);
    }
    String[] eights = {EIGHT, "\\iffalse\\else".repeat(8), "\\ifx aa".repeat(8)};
    for (String eight : eights) {
      ends(eight + "\\iftrue", DEEP, "", 8);
      ends(eight + "\\iftrue x", DEEP, "", 8);
      ends(eight + "\\ifx aa x", DEEP, "", 8);
      ends(eight + "\\iffalse\\else x", DEEP, "", 8);
      ends(eight + "\\ifx ab\\else x", DEEP, "", 8);
      done(eight + "\\fi\\iftrue", "", 8);
      done(eight + "\\fi".repeat(8), "", 0);
    }
  }

  /** A conditional that pushes nothing goes well on 8 entries. */
  private static void skipComesBeforeThePush() {
    done(EIGHT + "\\iffalse x\\fi", "", 8);
    done(EIGHT + "\\ifx ab x\\fi", "", 8);
    done(EIGHT + "\\iffalse\\iftrue\\else\\fi\\fi", "", 8);
    ends(EIGHT + "\\iffalse x", RUNAWAY, "", 8);
    ends(EIGHT + "\\ifx", RUNAWAY, "", 8);
    ends(EIGHT + "\\ifx a", RUNAWAY, "", 8);
    // The names in the skipped branch were read before the push failed.
    Check.same("names", Check.gives(EIGHT + "\\iffalse\\q\\else", DEEP, "").nameCount(), 15);
  }

  /** 'iftrue: push IF'. */
  private static void iftrue() {
    done("\\iftrue x", "x", 1);
    done("\\iftrue x\\fi y", "xy", 0);
    done("\\iftrue x\\else y\\fi z", "xz", 0);
    done("\\let\\t\\iftrue\\t x\\fi", "x", 0);
  }

  /** 'ifx: take two tokens unexpanded; true iff their meanings are equal; then act as iftrue or iffalse'. */
  private static void ifx() {
    done("\\ifx aax\\else y\\fi z", "xz", 0);
    done("\\ifx abx\\else y\\fi z", "yz", 0);
    done("\\ifx abx\\fi z", "z", 0);
    done("\\ifx aax", "x", 1);
    done("\\ifx abx\\else y", "y", 1);
    ends("\\ifx aax\\else y\\fi\\else", EXTRA, "x", 0);
    ends("\\ifx abx\\else y\\else", EXTRA, "y", 1);
    // Each of the two may be any token, also a conditional, a brace or a space.
    done("\\ifx\\fi\\fi x\\fi", "x", 0);
    done("\\ifx\\else\\else x\\fi", "x", 0);
    done("\\ifx\\ifx\\ifx x\\fi", "x", 0);
    done("\\ifx\\fi\\else x\\else y\\fi", "y", 0);
    done("\\ifx{{x\\fi", "x", 0);
    done("\\ifx}}x\\fi", "x", 0);
    done("\\let\\1\\ifx\\1  x\\fi", "x", 0);
    done("\\ifx##x\\fi", "x", 0);
    Check.same("no group", Check.ran("\\ifx{{x\\fi").groupDepth(), 0);
    TexMacroExpander x = Check.done("\\def\\a{u}\\def\\b{u}\\ifx\\a\\b x\\fi", "x");
    Check.same("not expanded", x.expansionsUsed(), 0);
    ends("\\ifx", RUNAWAY, "", 0);
    ends("\\ifx a", RUNAWAY, "", 0);
    ends("\\ifx ab", RUNAWAY, "", 0);
  }

  /** 'iffalse: SKIP to else-or-fi; ending on else pushes ELSE, ending on fi does nothing more'. */
  private static void iffalse() {
    done("\\iffalse x\\fi y", "y", 0);
    done("\\iffalse x\\else y", "y", 1);
    done("\\iffalse x\\else y\\fi z", "yz", 0);
    done("\\iffalse\\fi", "", 0);
    done("\\iffalse\\else\\fi", "", 0);
    ends("\\iffalse\\fi\\fi", EXTRA, "", 0);
    ends("\\iffalse\\else\\fi\\fi", EXTRA, "", 0);
    ends("\\iffalse", RUNAWAY, "", 0);
  }

  /** 'else: empty stack gives E_EXTRA_COND'. */
  private static void elseOnAnEmptyStack() {
    ends("\\else", EXTRA, "", 0);
    ends("x\\else y\\fi", EXTRA, "x", 0);
    ends("\\iftrue\\fi\\else", EXTRA, "", 0);
    ends("\\iffalse\\fi\\else\\fi", EXTRA, "", 0);
    ends("\\let\\e\\else\\e", EXTRA, "", 0);
    // Nothing is skipped first.
    Check.same("names", Check.gives("\\else\\q", EXTRA, "").nameCount(), 14);
  }

  /** 'or top ELSE gives E_EXTRA_COND'. */
  private static void elseOnElse() {
    ends("\\iffalse\\else x\\else y\\fi", EXTRA, "x", 1);
    ends("\\ifx ab\\else x\\else y\\fi", EXTRA, "x", 1);
    ends("\\iftrue\\iffalse\\else x\\else", EXTRA, "x", 2);
    ends("\\iffalse\\else\\iftrue\\fi\\else", EXTRA, "", 1);
    ends("\\iffalse\\else\\iftrue\\else\\fi\\else", EXTRA, "", 1);
    // The top counts, not what is below it.
    done("\\iffalse\\else\\iftrue x\\else y\\fi z\\fi", "xz", 0);
    done("\\iftrue\\iffalse\\else x\\fi\\else y\\fi z", "xz", 0);
  }

  /** 'otherwise SKIP to fi, then pop'. */
  private static void elseOnIf() {
    done("\\iftrue\\else x\\fi y", "y", 0);
    done("\\iftrue\\iftrue\\else x\\fi y", "y", 1);
    done(EIGHT + "\\else x\\fi y", "y", 7);
    ends("\\iftrue\\else x", RUNAWAY, "", 1);
    ends("\\iftrue\\else\\iftrue\\fi", RUNAWAY, "", 1);
  }

  /** 'fi: empty stack gives E_EXTRA_COND; otherwise pop'. */
  private static void fi() {
    ends("\\fi", EXTRA, "", 0);
    ends("x\\fi y", EXTRA, "x", 0);
    ends("\\iftrue\\fi\\fi", EXTRA, "", 0);
    ends("\\let\\f\\fi\\f", EXTRA, "", 0);
    done("\\iftrue\\iftrue\\fi", "", 1);
    done("\\iftrue\\iffalse\\else\\fi", "", 1);
    done("\\iffalse\\else\\fi", "", 0);
  }

  /** 'primitives 9..11 raise the nesting by 1; fi at nesting 0 ends the skip, otherwise lowers it by 1'. */
  private static void nestingInSkips() {
    String[] ifs = {"\\iftrue", "\\iffalse", "\\ifx", "\\i"};
    for (String open : ifs) {
      for (int depth = 1; depth <= 12; depth++) {
        String nested = open.repeat(depth) + " u" + "\\fi".repeat(depth);
        done("\\let\\i\\ifx\\iffalse" + nested + " v\\fi w", "w", 0);
        done("\\let\\i\\ifx\\iffalse" + nested + " v\\else w\\fi", "w", 0);
        done("\\let\\i\\ifx\\iftrue\\else" + nested + " v\\fi w", "w", 0);
        ends("\\let\\i\\ifx\\iffalse" + nested, RUNAWAY, "", 0);
      }
    }
    done("\\iffalse\\iftrue\\fi\\iffalse\\fi\\ifx\\fi u\\fi w", "w", 0);
    // No other primitive raises it.
    done("\\iffalse\\def\\gdef\\let\\glet\\endgroup\\catcode\\gcatcode\\fi w", "w", 0);
  }

  /** 'else at nesting 0 ends the skip only when seeking else-or-fi'. */
  private static void elseInSkips() {
    done("\\iffalse u\\else v\\fi", "v", 0);
    done("\\iffalse\\iftrue\\else u\\fi\\else v\\fi", "v", 0);
    done("\\iffalse\\iftrue\\else\\else u\\fi\\else v\\fi", "v", 0);
    done("\\iffalse\\iftrue\\iftrue\\else\\fi\\else\\fi\\else v\\fi", "v", 0);
    done("\\iftrue u\\else v\\else w\\fi x", "ux", 0);
    done("\\iftrue u\\else\\iftrue\\else v\\fi\\else w\\fi x", "ux", 0);
  }

  /** 'SKIP reads tokens unexpanded and acts by their meaning'. */
  private static void skipsReadUnexpanded() {
    TexMacroExpander x = Check.done("\\def\\f{\\fi}\\iffalse\\f u\\fi v", "v");
    Check.same("expansions", x.expansionsUsed(), 0);
    done("\\let\\f\\fi\\iffalse u\\f v", "v", 0);
    done("\\let\\e\\else\\iffalse u\\e v\\fi", "v", 0);
    done("\\let\\fi!\\iffalse\\fi\\else\\fi", "!", 1);
    done("\\let\\f\\fi\\let\\else!\\iffalse\\else\\f v", "v", 0);
    done("\\let\\iftrue!\\iffalse\\iftrue\\fi v", "v", 0);
    done("{\\let\\fi!\\iffalse\\fi\\else\\endgroup\\fi", "{", 0);
  }

  /** 'all other tokens are dropped'. */
  private static void skipsDropAllElse() {
    TexMacroExpander before = Check.done("\\let\\q!\\def\\m{x}\\iffalse\\zz\\fi", "");
    TexMacroExpander after = Check.done("\\let\\q!\\def\\m{x}\\iffalse\\zz\\def\\q{u}\\let\\m v\\catcode!5{{}}}\\q\\m#a1 "
      + "\\endgroup\\fi", "");
    Check.same("state", State.work(after), State.work(before));
    Check.same("expansions", after.expansionsUsed(), 0);
  }

  /** Input that ends, and errors of the tokeniser, in a skip. */
  private static void skipsEnd() {
    String[] opens = {"\\iffalse", "\\iffalse u", "\\iffalse\\iftrue\\fi", "\\iffalse\\iftrue\\else", "\\ifx ab",
      "\\iftrue\\else", "\\iftrue\\else\\else", "\\iftrue\\else\\iftrue\\fi"};
    for (String open : opens) {
      int conditionals = open.startsWith("\\iftrue") ? 1 : 0;
      ends(open, RUNAWAY, "", conditionals);
      ends(open + "\\", RUNAWAY, "", conditionals);
      ends(open + "\\abcdefghi\\fi", TexMacroExpander.E_NAME_LONG, "", conditionals);
      ends(open + Promise03RunTest.namesFrom('A', 19) + "\\fi", TexMacroExpander.E_NAME_FULL, "", conditionals);
    }
  }
}
