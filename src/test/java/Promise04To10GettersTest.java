/** Promises 4 to 10: status, expansionsUsed, output, catcode, groupDepth, condDepth, nameCount. */
public final class Promise04To10GettersTest {
  private static final int[] FAR = {Integer.MIN_VALUE, -129, -128, -2, -1};

  public static void main(String[] args) {
    status();
    expansionsUsed();
    output();
    catcode();
    depths();
    nameCount();
    Check.end();
  }

  private static void status() {
    TexMacroExpander x = Check.fed(10, "a");
    Check.same("status before run", x.status(), TexMacroExpander.S_FRESH);
    Check.same("status before run", x.status(), TexMacroExpander.S_FRESH);
    Check.same("run", x.run(), TexMacroExpander.S_DONE);
    Check.same("status after run", x.status(), TexMacroExpander.S_DONE);
    x = Check.fed(10, "}");
    Check.same("status before run", x.status(), TexMacroExpander.S_FRESH);
    Check.same("run", x.run(), TexMacroExpander.E_EXTRA_END);
    Check.same("status after run", x.status(), TexMacroExpander.E_EXTRA_END);
    Check.same("status asked again", x.status(), TexMacroExpander.E_EXTRA_END);
  }

  private static void expansionsUsed() {
    TexMacroExpander x = Check.fed(3, "\\def\\a#1{#1}\\a{\\a{\\a b}}");
    Check.same("before run", x.expansionsUsed(), 0);
    x.run();
    Check.same("after run", x.expansionsUsed(), 3);
    Check.same("asked again", x.expansionsUsed(), 3);
    Check.same("none", Check.done("a\\iftrue b\\fi\\let\\c d\\c", "abd").expansionsUsed(), 0);
    x = Check.fed(3, "\\def\\a{\\a}\\a");
    x.run();
    Check.same("never above the limit", x.expansionsUsed(), 3);
  }

  private static void output() {
    TexMacroExpander x = Check.fed(10, "ab");
    Check.same("before run", x.outputLength(), 0);
    Check.same("before run", x.outputToken(0), -1);
    x.run();
    Check.same("after run", x.outputLength(), 2);
    Check.same("token 0", x.outputToken(0), 5 * 128 + 'a');
    Check.same("token 1", x.outputToken(1), 5 * 128 + 'b');
    Check.same("token 2", x.outputToken(2), -1);
    Check.same("token 255", x.outputToken(255), -1);
    Check.same("token 256", x.outputToken(256), -1);
    Check.same("the greatest index", x.outputToken(Integer.MAX_VALUE), -1);
    for (int i : FAR) {
      Check.same("token " + i, x.outputToken(i), -1);
    }
    x = Check.ran("a".repeat(256));
    Check.same("full output", x.outputLength(), 256);
    Check.same("its last token", x.outputToken(255), 5 * 128 + 'a');
    Check.same("behind it", x.outputToken(256), -1);
  }

  private static void catcode() {
    TexMacroExpander x = Check.fed(10, "\\catcode!5");
    Check.same("before run", x.catcode('!'), 6);
    x.run();
    Check.same("after run", x.catcode('!'), 5);
    Check.same("of char 127", x.catcode(127), 7);
    Check.same("of char 0", x.catcode(0), 7);
    Check.same("of 128", x.catcode(128), -1);
    Check.same("of the greatest", x.catcode(Integer.MAX_VALUE), -1);
    for (int c : FAR) {
      Check.same("of " + c, x.catcode(c), -1);
    }
  }

  private static void depths() {
    TexMacroExpander x = Check.fed(10, "{{\\iftrue{\\iftrue}\\iftrue");
    Check.same("groups before run", x.groupDepth(), 0);
    Check.same("conditionals before run", x.condDepth(), 0);
    x.run();
    Check.same("groups after run", x.groupDepth(), 2);
    Check.same("conditionals after run", x.condDepth(), 3);
    Check.same("groups asked again", x.groupDepth(), 2);
    Check.same("conditionals asked again", x.condDepth(), 3);
    Check.same("no group", Check.ran("{}").groupDepth(), 0);
    Check.same("no conditional", Check.ran("\\iftrue\\fi").condDepth(), 0);
  }

  private static void nameCount() {
    TexMacroExpander x = Check.fed(10, "\\let\\a\\b\\let\\a\\fi\\let\\b\\c");
    Check.same("before run", x.nameCount(), 14);
    x.run();
    Check.same("after run", x.nameCount(), 17);
    Check.same("asked again", x.nameCount(), 17);
  }
}
