/** Promise 3: what run answers, its later calls, each error, and what stays after it; and the main loop's edges. */
public final class Edges03RunTest {
  /** Has done some of everything: output, global and local assignments, names, a group, a conditional, an expansion. */
  private static final String BEFORE = "a\\gdef\\c{d}\\c\\let\\z\\z\\def\\m#1.{}{\\let\\e f\\catcode!5\\iftrue\\e";
  private static final String FOUR_TIMES = "\\def\\q#1{#1#1#1#1}";
  private static final int LIMIT = 3;

  public static void main(String[] args) {
    runEndsWithAStatus();
    laterCallsChangeNothing();
    undefinedStays();
    runawayStays();
    nameErrorsStay();
    definitionErrorsStay();
    expansionErrorsStay();
    groupErrorsStay();
    conditionalErrorsStay();
    fullOutputStays();
    readNamesStay();
    outputOf256();
    charactersInTheMainLoop();
    Check.end();
  }

  /** A text for each status that run can end with, by its number. */
  private static String[] textForEachStatus() {
    String[] texts = new String[18];
    texts[TexMacroExpander.S_DONE] = "ab";
    texts[TexMacroExpander.E_UNDEFINED] = "\\zz";
    texts[TexMacroExpander.E_RUNAWAY] = "\\def\\a{";
    texts[TexMacroExpander.E_NAME_LONG] = "\\abcdefghi";
    texts[TexMacroExpander.E_NAME_FULL] = "\\iffalse" + Promise03RunTest.namesFrom('a', 19) + "\\fi";
    texts[TexMacroExpander.E_BAD_DEF] = "\\def a";
    texts[TexMacroExpander.E_TOO_LONG] = "\\def\\a 123456789{}";
    texts[TexMacroExpander.E_NO_MATCH] = "\\def\\a.{}\\a!";
    texts[TexMacroExpander.E_EXTRA_END] = "}";
    texts[TexMacroExpander.E_GROUP_DEEP] = "{{{{{{{{{";
    texts[TexMacroExpander.E_SAVE_FULL] = Edges03GroupsTest.saves(32) + "\\x~6";
    texts[TexMacroExpander.E_COND_DEEP] = "\\iftrue".repeat(9);
    texts[TexMacroExpander.E_EXTRA_COND] = "\\fi";
    texts[TexMacroExpander.E_BAD_CATCODE] = "\\catcode!8";
    texts[TexMacroExpander.E_OUTPUT_FULL] = FOUR_TIMES + "\\q{" + "x".repeat(64) + "}y";
    texts[TexMacroExpander.E_PENDING_FULL] = FOUR_TIMES + "\\q{" + "x".repeat(65) + "}";
    texts[TexMacroExpander.E_EXPANSIONS] = "\\def\\a{\\a}\\a";
    return texts;
  }

  /** 'answers the resulting status (the same value status() gives from then on). That status is never S_FRESH'. */
  private static void runEndsWithAStatus() {
    String[] texts = textForEachStatus();
    for (int status = 1; status < texts.length; status++) {
      TexMacroExpander x = Check.fed(100, texts[status]);
      Check.same("status before run", x.status(), TexMacroExpander.S_FRESH);
      Check.same("run of " + texts[status], x.run(), status);
      Check.same("status after " + texts[status], x.status(), status);
    }
    Check.same("run over nothing", new TexMacroExpander(1).run(), TexMacroExpander.S_DONE);
    Check.same("run over ignored chars", Check.fed(1, "\u0000\u007f").run(), TexMacroExpander.S_DONE);
  }

  /** 'Every later call changes nothing and answers the status'. */
  private static void laterCallsChangeNothing() {
    String[] texts = textForEachStatus();
    for (int status = 1; status < texts.length; status++) {
      // What stands behind the error would be seen if a later call went on with it.
      String more = status == TexMacroExpander.S_DONE || texts[status].length() > 240 ? "" : "}b\\y";
      TexMacroExpander x = Check.fed(100, texts[status] + more);
      x.run();
      String before = State.of(x);
      for (int i = 0; i < 3; i++) {
        Check.same("run again", x.run(), x.status());
        Check.same("state after another run of " + texts[status], State.of(x), before);
      }
    }
  }

  /** 'An error stops run at once; everything done before it stays'. */
  private static void stays(String before, String error, int status, int moreExpansions) {
    TexMacroExpander x = Check.fed(LIMIT, before);
    Check.same("run of " + before, x.run(), TexMacroExpander.S_DONE);
    String[] behind = {"", "y", "\\endgroup"};
    for (String more : behind) {
      TexMacroExpander y = Check.fed(LIMIT, before + error + more);
      Check.same("run of " + error + more, y.run(), status);
      Check.same("state after " + error + more, State.work(y), State.work(x));
      Check.same("expansions after " + error, y.expansionsUsed(), x.expansionsUsed() + moreExpansions);
    }
  }

  /** As stays, for an error that comes only where the input ends. */
  private static void staysAtTheEnd(String before, String error, int moreExpansions) {
    TexMacroExpander x = Check.fed(LIMIT, before);
    Check.same("run of " + before, x.run(), TexMacroExpander.S_DONE);
    TexMacroExpander y = Check.fed(LIMIT, before + error);
    Check.same("run of " + error, y.run(), TexMacroExpander.E_RUNAWAY);
    Check.same("state after " + error, State.work(y), State.work(x));
    Check.same("expansions after " + error, y.expansionsUsed(), x.expansionsUsed() + moreExpansions);
  }

  private static void undefinedStays() {
    TexMacroExpander x = Check.done(BEFORE, "ad{f");
    Check.same("groups", x.groupDepth(), 1);
    Check.same("conditionals", x.condDepth(), 1);
    Check.same("expansions", x.expansionsUsed(), 1);
    stays(BEFORE, "\\z ", TexMacroExpander.E_UNDEFINED, 0);
  }

  private static void runawayStays() {
    String[] errors = {"\\", "\\def", "\\def\\e", "\\gdef\\c{", "\\def\\e#", "\\def\\e{#", "\\let", "\\let\\e",
      "\\glet\\c", "\\catcode", "\\catcode?", "\\gcatcode?", "\\ifx", "\\ifx a", "\\iffalse",
      "\\iffalse\\iftrue\\fi", "\\else", "\\else\\iftrue\\fi"};
    for (String error : errors) {
      staysAtTheEnd(BEFORE, error, 0);
    }
    staysAtTheEnd(BEFORE + "\\ifx aa", "\\", 0);
    staysAtTheEnd(BEFORE, "\\m", 1);
    staysAtTheEnd(BEFORE, "\\m x", 1);
    staysAtTheEnd(BEFORE, "\\m{x.", 1);
    staysAtTheEnd(BEFORE + "\\def\\p#1{}", "\\p", 1);
    staysAtTheEnd(BEFORE + "\\def\\p#1{}", "\\p{", 1);
    staysAtTheEnd(BEFORE + "\\def\\p,.{}", "\\p", 1);
    staysAtTheEnd(BEFORE + "\\def\\p,.{}", "\\p,", 1);
  }

  private static void nameErrorsStay() {
    stays(BEFORE, "\\abcdefghi ", TexMacroExpander.E_NAME_LONG, 0);
    String full = BEFORE + "\\iffalse" + Promise03RunTest.namesFrom('A', 14) + "\\fi";
    stays(full, "\\O ", TexMacroExpander.E_NAME_FULL, 0);
  }

  private static void definitionErrorsStay() {
    String[] bad = {"\\def e", "\\gdef{", "\\def\\e}", "\\def\\e#2", "\\def\\e{#1", "\\gdef\\c#1{#2", "\\let e",
      "\\glet#"};
    for (String error : bad) {
      stays(BEFORE, error, TexMacroExpander.E_BAD_DEF, 0);
    }
    String full = "123456789012345678901234";
    stays(BEFORE, "\\def\\e 123456789", TexMacroExpander.E_TOO_LONG, 0);
    stays(BEFORE, "\\gdef\\c{" + full + "5", TexMacroExpander.E_TOO_LONG, 0);
    String[] badCatcodes = {"\\catcode\\fi ", "\\catcode?8", "\\gcatcode?8", "\\catcode?\\e "};
    for (String error : badCatcodes) {
      stays(BEFORE, error, TexMacroExpander.E_BAD_CATCODE, 0);
    }
  }

  private static void expansionErrorsStay() {
    stays(BEFORE, "\\m}", TexMacroExpander.E_NO_MATCH, 1);
    stays(BEFORE + "\\def\\p,.{}", "\\p,,", TexMacroExpander.E_NO_MATCH, 1);
    stays(BEFORE + "\\def\\p#1{}", "\\p}", TexMacroExpander.E_NO_MATCH, 1);
    stays(BEFORE + FOUR_TIMES, "\\q{" + "x".repeat(65) + "}", TexMacroExpander.E_PENDING_FULL, 1);
    stays(BEFORE + "\\c\\c", "\\c ", TexMacroExpander.E_EXPANSIONS, 0);
  }

  private static void groupErrorsStay() {
    stays(BEFORE + "}", "}", TexMacroExpander.E_EXTRA_END, 0);
    stays(BEFORE + "}", "\\endgroup ", TexMacroExpander.E_EXTRA_END, 0);
    stays(BEFORE + "{{{{{{{", "{", TexMacroExpander.E_GROUP_DEEP, 0);
    stays(Edges03GroupsTest.saves(32), "\\x~5", TexMacroExpander.E_SAVE_FULL, 0);
    stays(Edges03GroupsTest.saves(32), "\\let\\x a", TexMacroExpander.E_SAVE_FULL, 0);
    stays(Edges03GroupsTest.saves(32), "\\def\\x{a}", TexMacroExpander.E_SAVE_FULL, 0);
  }

  private static void conditionalErrorsStay() {
    stays(BEFORE + "\\iftrue".repeat(7), "\\iftrue ", TexMacroExpander.E_COND_DEEP, 0);
    stays(BEFORE + "\\iftrue".repeat(7), "\\ifx aa", TexMacroExpander.E_COND_DEEP, 0);
    stays(BEFORE + "\\iftrue".repeat(7), "\\iffalse\\else ", TexMacroExpander.E_COND_DEEP, 0);
    stays(BEFORE + "\\fi", "\\fi ", TexMacroExpander.E_EXTRA_COND, 0);
    stays(BEFORE + "\\fi", "\\else ", TexMacroExpander.E_EXTRA_COND, 0);
    stays(BEFORE + "\\iffalse\\else", "\\else ", TexMacroExpander.E_EXTRA_COND, 0);
  }

  private static void fullOutputStays() {
    String full = BEFORE + FOUR_TIMES + "\\q{" + "x".repeat(63) + "}";
    Check.same("output", Check.ran(full).outputLength(), 256);
    stays(full, "w", TexMacroExpander.E_OUTPUT_FULL, 0);
    stays(full, "\\e ", TexMacroExpander.E_OUTPUT_FULL, 0);
  }

  /** A name that was read before the error is in the table, also when it was read for what failed. */
  private static void readNamesStay() {
    Check.same("names", Check.gives("\\u", TexMacroExpander.E_UNDEFINED, "").nameCount(), 15);
    Check.same("names", Check.gives("\\def\\u\\v}\\w", TexMacroExpander.E_BAD_DEF, "").nameCount(), 16);
    Check.same("names", Check.gives("\\let\\u", TexMacroExpander.E_RUNAWAY, "").nameCount(), 15);
    Check.same("names", Check.gives("\\catcode\\u\\v\\w", TexMacroExpander.E_BAD_CATCODE, "").nameCount(), 16);
    Check.same("names", Check.gives("\\iffalse\\u\\v", TexMacroExpander.E_RUNAWAY, "").nameCount(), 16);
    Check.same("names", Check.gives("\\def\\u.{}\\u\\v\\w", TexMacroExpander.E_NO_MATCH, "").nameCount(), 16);
  }

  /** 'OUTPUT holds 256 tokens; appending to a full one gives E_OUTPUT_FULL'. */
  private static void outputOf256() {
    String fill = FOUR_TIMES + "\\let\\b{\\let\\e}\\q{" + "x".repeat(62) + "}";
    String due = "x".repeat(248);
    Check.done(fill + "1234567", due + "1234567");
    Check.done(fill + "12345678", due + "12345678");
    TexMacroExpander x = Check.gives(fill + "123456789", TexMacroExpander.E_OUTPUT_FULL, due + "12345678");
    Check.same("length", x.outputLength(), 256);
    Check.same("the last token", x.outputToken(255), 6 * 128 + '8');
    Check.same("behind it", x.outputToken(256), -1);
    String[] chars = {"a", "1", " ", "#", "{", "\\b"};
    for (String c : chars) {
      Check.gives(fill + "12345678" + c, TexMacroExpander.E_OUTPUT_FULL, due + "12345678");
    }
    // What puts nothing out goes well with a full OUTPUT.
    Check.done(fill + "12345678\u0000\\iftrue\\fi\\let\\u1", due + "12345678");
    // 'open a group, then append it', 'close a group, then append it'.
    Check.same("open", Check.ran(fill + "12345678{").groupDepth(), 1);
    Check.same("open", Check.ran(fill + "12345678\\b").groupDepth(), 1);
    x = Check.gives(fill + "{1234567}", TexMacroExpander.E_OUTPUT_FULL, due + "{1234567");
    Check.same("closed", x.groupDepth(), 0);
    x = Check.gives(fill + "{1234567\\e", TexMacroExpander.E_OUTPUT_FULL, due + "{1234567");
    Check.same("closed", x.groupDepth(), 0);
    // The group's own error comes first.
    Check.gives(fill + "12345678}", TexMacroExpander.E_EXTRA_END, due + "12345678");
    Check.gives(fill + "{{{{{{{{{", TexMacroExpander.E_GROUP_DEEP, due + "{{{{{{{{");
  }

  /** 'Cats 3..6: append', 'let-char acts exactly as that char token', 'undefined gives E_UNDEFINED'. */
  private static void charactersInTheMainLoop() {
    for (int category = 1; category <= 6; category++) {
      TexMacroExpander x = Check.done("{{\\catcode!" + category + "!", "{{!");
      TexMacroExpander y = Check.done("{{\\catcode!" + category + "\\let\\1!\\1", "{{!");
      int depth = category == 1 ? 3 : category == 2 ? 1 : 2;
      Check.same("token", x.outputToken(2), category * 128 + '!');
      Check.same("token", y.outputToken(2), category * 128 + '!');
      Check.same("depth", x.groupDepth(), depth);
      Check.same("depth", y.groupDepth(), depth);
    }
    Check.gives("a\\b", TexMacroExpander.E_UNDEFINED, "a");
    Check.gives("{\\def\\b{x}\\b}\\b", TexMacroExpander.E_UNDEFINED, "{x}");
    Check.gives("\\let\\b\\c\\b", TexMacroExpander.E_UNDEFINED, "");
  }
}
