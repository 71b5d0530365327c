/** Promise 1: construction and starting state. */
public final class Promise01ConstructionTest {
  private static final String[] PRIMITIVES = {"def", "gdef", "let", "glet", "expandafter", "begingroup",
    "endgroup", "catcode", "gcatcode", "iftrue", "iffalse", "ifx", "else", "fi"};

  public static void main(String[] args) {
    startingState();
    catcodes();
    names();
    limit(Integer.MIN_VALUE, 1);
    limit(-1, 1);
    limit(0, 1);
    limit(1, 1);
    limit(2, 2);
    limit(50, 50);
    limit(99, 99);
    limit(100, 100);
    limit(101, 100);
    limit(Integer.MAX_VALUE, 100);
    Check.end();
  }

  private static void startingState() {
    TexMacroExpander x = new TexMacroExpander(10);
    Check.same("status", x.status(), TexMacroExpander.S_FRESH);
    Check.same("expansionsUsed", x.expansionsUsed(), 0);
    Check.same("outputLength", x.outputLength(), 0);
    Check.same("groupDepth", x.groupDepth(), 0);
    Check.same("condDepth", x.condDepth(), 0);
    Check.same("run with no chars held", x.run(), TexMacroExpander.S_DONE);
    Check.same("outputLength after it", x.outputLength(), 0);
  }

  private static void catcodes() {
    TexMacroExpander x = new TexMacroExpander(10);
    for (int c = 0; c < 128; c++) {
      int due = c == 92 ? 0 : c == 123 ? 1 : c == 125 ? 2 : c == 35 ? 3 : c == 32 ? 4
        : c >= 65 && c <= 90 || c >= 97 && c <= 122 ? 5 : c <= 31 || c == 127 ? 7 : 6;
      Check.same("catcode " + c, x.catcode(c), due);
    }
  }

  private static void names() {
    TexMacroExpander x = new TexMacroExpander(10);
    Check.same("nameCount", x.nameCount(), 14);
    for (int i = 0; i < PRIMITIVES.length; i++) {
      Check.same("nameLength " + i, x.nameLength(i), PRIMITIVES[i].length());
      Check.same("name " + i, Check.name(x, i), PRIMITIVES[i]);
      Check.same("meaningKind " + i, x.meaningKind(i), TexMacroExpander.M_PRIMITIVE);
      Check.same("meaningValue " + i, x.meaningValue(i), i);
    }
  }

  /** A macro that calls itself for ever uses all expansions that the limit allows. */
  private static void limit(int asked, int due) {
    TexMacroExpander x = Check.fed(asked, "\\def\\a{\\a}\\a");
    Check.same("run with limit " + asked, x.run(), TexMacroExpander.E_EXPANSIONS);
    Check.same("expansions with limit " + asked, x.expansionsUsed(), due);
  }
}
