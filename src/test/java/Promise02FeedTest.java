/** Promise 2: feed. */
public final class Promise02FeedTest {
  public static void main(String[] args) {
    wrongChars();
    fullInput();
    afterRun();
    nothingElseChanges();
    Check.end();
  }

  private static void wrongChars() {
    TexMacroExpander x = new TexMacroExpander(10);
    int[] wrong = {-1, 128, 129, 1000, Integer.MIN_VALUE, Integer.MAX_VALUE};
    for (int c : wrong) {
      Check.same("feed " + c, x.feed(c), false);
    }
    Check.same("feed 0", x.feed(0), true);
    Check.same("feed 127", x.feed(127), true);
    Check.same("feed x", x.feed('x'), true);
    Check.same("run", x.run(), TexMacroExpander.S_DONE);
    Check.same("output", Check.outputChars(x), "x");
  }

  private static void fullInput() {
    TexMacroExpander x = Check.fed(10, "a".repeat(255));
    Check.same("feed of the 256th char", x.feed('b'), true);
    Check.same("feed of the 257th char", x.feed('c'), false);
    Check.same("feed of the 257th char again", x.feed('c'), false);
    Check.same("run", x.run(), TexMacroExpander.S_DONE);
    Check.same("output", Check.outputChars(x), "a".repeat(255) + "b");
  }

  private static void afterRun() {
    TexMacroExpander x = Check.fed(10, "a");
    x.run();
    Check.same("feed after run", x.feed('b'), false);
    Check.same("run again", x.run(), TexMacroExpander.S_DONE);
    Check.same("output", Check.outputChars(x), "a");
    TexMacroExpander stopped = Check.ran("\\a");
    Check.same("feed after an error", stopped.feed('b'), false);
    TexMacroExpander empty = new TexMacroExpander(10);
    empty.run();
    Check.same("feed after a run over nothing", empty.feed('b'), false);
  }

  private static void nothingElseChanges() {
    TexMacroExpander x = Check.fed(10, "\\def\\a{b}\\iftrue{\\a");
    Check.same("status", x.status(), TexMacroExpander.S_FRESH);
    Check.same("outputLength", x.outputLength(), 0);
    Check.same("nameCount", x.nameCount(), 14);
    Check.same("groupDepth", x.groupDepth(), 0);
    Check.same("condDepth", x.condDepth(), 0);
    Check.same("expansionsUsed", x.expansionsUsed(), 0);
    Check.same("run", x.run(), TexMacroExpander.S_DONE);
    Check.same("output", Check.outputChars(x), "{b");
  }
}
