/** The edges that promise 2 names, a method for each sentence. */
public final class Edges02FeedTest {
  /** None of these is a char, though the low bits of some would be one. */
  private static final int[] NO_CHARS = {-1, -2, -128, -129, 'a' - 128, 'a' - 256, 'a' - 65536, Integer.MIN_VALUE,
    Integer.MIN_VALUE + 'a', 128, 129, 'a' + 128, 255, 256, 'a' + 256, 'a' + 65536, Integer.MAX_VALUE};

  public static void main(String[] args) {
    everyCharIsTaken();
    noCharIsRefused();
    fullInputRefuses();
    refusedCallsTakeNoRoom();
    refusedAfterRun();
    acceptingChangesNothingElse();
    Check.end();
  }

  /** 'feed(c) appends char c to the input and answers true'. */
  private static void everyCharIsTaken() {
    for (int c = 0; c < 128; c++) {
      Check.same("feed " + c, new TexMacroExpander(1).feed(c), true);
    }
    Check.done("abc", "abc");
    Check.done("cba", "cba");
  }

  /** 'It is refused (answers false, nothing changes) if c < 0 or c > 127'. */
  private static void noCharIsRefused() {
    TexMacroExpander x = Check.fed(1, "a");
    String before = State.of(x);
    for (int c : NO_CHARS) {
      Check.same("feed " + c, x.feed(c), false);
      Check.same("state after feed " + c, State.of(x), before);
    }
    Check.same("feed b", x.feed('b'), true);
    Check.same("run", x.run(), TexMacroExpander.S_DONE);
    Check.same("output", Check.outputChars(x), "ab");
  }

  /** 'or if 256 chars are already held'. */
  private static void fullInputRefuses() {
    TexMacroExpander x = new TexMacroExpander(1);
    for (int i = 0; i < 256; i++) {
      Check.same("feed of char " + i, x.feed(i < 255 ? 'a' : 'b'), true);
    }
    String before = State.of(x);
    for (int c = 0; c < 128; c++) {
      Check.same("feed of a 257th char", x.feed(c), false);
    }
    Check.same("feed of no char", x.feed(-1), false);
    Check.same("feed of no char", x.feed(128), false);
    Check.same("state", State.of(x), before);
    Check.same("run", x.run(), TexMacroExpander.S_DONE);
    Check.same("output", Check.outputChars(x), "a".repeat(255) + "b");
  }

  private static void refusedCallsTakeNoRoom() {
    TexMacroExpander x = new TexMacroExpander(1);
    for (int i = 0; i < 256; i++) {
      Check.same("feed of no char", x.feed(128 + i), false);
      Check.same("feed of char " + i, x.feed('a'), true);
    }
    Check.same("run", x.run(), TexMacroExpander.S_DONE);
    Check.same("output", Check.outputChars(x), "a".repeat(256));
  }

  /** 'It is refused if run was called'. */
  private static void refusedAfterRun() {
    String[] texts = {"", "a", "{", "\\def\\a{x}\\a", "\\", "\\zz", "}", "a".repeat(256)};
    for (String text : texts) {
      TexMacroExpander x = Check.ran(text);
      String before = State.of(x);
      Check.same("feed after run", x.feed('b'), false);
      Check.same("feed after run", x.feed(0), false);
      Check.same("feed after run", x.feed(127), false);
      Check.same("feed of no char after run", x.feed(-1), false);
      Check.same("feed of no char after run", x.feed(128), false);
      Check.same("state after " + text, State.of(x), before);
      x.run();
      Check.same("state after another run over " + text, State.of(x), before);
    }
  }

  /** 'Accepting a char changes nothing besides the held input'. */
  private static void acceptingChangesNothingElse() {
    String text = "\\catcode!5{\\gdef\\a{x}\\iftrue\\a\\zz}}\\";
    TexMacroExpander x = new TexMacroExpander(1);
    String before = State.of(x);
    for (int i = 0; i < text.length(); i++) {
      Check.same("feed", x.feed(text.charAt(i)), true);
      Check.same("state after feed " + i, State.of(x), before);
    }
  }
}
