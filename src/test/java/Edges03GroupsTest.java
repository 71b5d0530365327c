/** Promise 3, groups and assignments: its edges, a method for each sentence. */
public final class Edges03GroupsTest {
  private static final String ITEMS = "!\"$%&'()*+,-./:;<=>?@[]^_`|ABCDE";

  public static void main(String[] args) {
    openAtDepth8();
    closeAtDepth0();
    groupsAreOfOneKind();
    everySavedItemComesBack();
    localAtDepth0();
    savedOnceALevel();
    thirtyTwoSaves();
    savesOverAllLevels();
    noSaveNeeded();
    fullSavesComeLast();
    globalReachesAllLevels();
    namesCreatedInside();
    Check.end();
  }

  /** Opens a group and sets the catcodes of so many chars in it; \x is a short name of catcode. */
  static String saves(int count) {
    return "\\let\\x\\catcode{" + changes(0, count);
  }

  /** Sets the catcodes of chars to 6: of most of them to what they are, which needs a save all the same. */
  private static String changes(int from, int to) {
    StringBuilder text = new StringBuilder();
    for (int i = from; i < to; i++) {
      char c = ITEMS.charAt(i);
      text.append(c >= 'A' && c <= 'Z' ? "\\x " : "\\x").append(c).append('6');
    }
    return text.toString();
  }

  /** 'Open: if the depth is 8, E_GROUP_DEEP; else depth+1'. */
  private static void openAtDepth8() {
    for (int depth = 0; depth <= 8; depth++) {
      Check.same("depth", Check.done("{".repeat(depth), "{".repeat(depth)).groupDepth(), depth);
    }
    String eight = "\\let\\b{{{{{{{{{";
    String[] nine = {"{", "\\b", "{{", "{}"};
    for (String more : nine) {
      TexMacroExpander x = Check.gives(eight + more, TexMacroExpander.E_GROUP_DEEP, "{{{{{{{{");
      Check.same("depth", x.groupDepth(), 8);
    }
    Check.same("depth", Check.done(eight + "}\\b", "{{{{{{{{}{").groupDepth(), 8);
    Check.same("depth", Check.done("\\let\\b{" + "\\b".repeat(8), "{{{{{{{{").groupDepth(), 8);
    // An argument's braces open no group.
    Check.done("\\def\\a#1{}\\a{{{{{{{{{{}}}}}}}}}}", "");
  }

  /** 'Close: at depth 0, E_EXTRA_END'. */
  private static void closeAtDepth0() {
    String[] closes = {"}", "\\e", "\\endgroup", "\\g"};
    for (String close : closes) {
      String text = "\\let\\e}\\let\\g\\endgroup ";
      TexMacroExpander x = Check.gives(text + "a" + close, TexMacroExpander.E_EXTRA_END, "a");
      Check.same("depth", x.groupDepth(), 0);
      x = Check.gives(text + "{a}" + close, TexMacroExpander.E_EXTRA_END, "{a}");
      Check.same("depth", x.groupDepth(), 0);
      Check.same("depth", Check.ran(text + "{a" + close).groupDepth(), 0);
      Check.same("depth", Check.ran(text + "{{a" + close).groupDepth(), 1);
    }
  }

  /** 'Braces and begingroup/endgroup are one kind and may close each other'; endgroup puts nothing out. */
  private static void groupsAreOfOneKind() {
    Check.done("\\let\\a x{\\let\\a y\\a\\endgroup\\a", "{yx");
    Check.done("\\catcode<1\\catcode>2\\let\\a x{\\let\\a y\\a>\\a<\\let\\a z\\a}\\a", "{y>x<z}x");
  }

  /** 'each item saved at this level gets back its saved value, then depth-1'. */
  private static void everySavedItemComesBack() {
    TexMacroExpander before = Check.done("\\let\\x\\catcode{}", "{}");
    TexMacroExpander after = Check.done(saves(32) + "}", "{}");
    Check.same("state", State.work(after), State.work(before));
    // All that a meaning holds comes back: kind, value and both texts.
    String[] meanings = {"\\let\\a\\zz", "\\let\\a\\fi", "\\let\\a?", "\\def\\a{}", "\\def\\a 1#1#2345{67#2#1{}8}",
      "\\def\\a#1#2#3#4#5#6#7#8{123456789012345678901234}"};
    for (String one : meanings) {
      for (String other : meanings) {
        TexMacroExpander alone = Check.done("\\iffalse\\a\\zz\\fi" + one + "{}", "{}");
        TexMacroExpander changed = Check.done("\\iffalse\\a\\zz\\fi" + one + "{" + other + "}", "{}");
        Check.same("after " + one + " and " + other, State.work(changed), State.work(alone));
      }
    }
    // What is read behind the close is read with the catcodes that are back.
    Check.same("category", Check.done("{\\catcode!5!}!", "{!}!").outputToken(3), 6 * 128 + '!');
    Check.done("{\\catcode!7!a!}!", "{a}!");
    Check.done("{\\catcode!2!!", "{!!");
  }

  /** 'At depth 0 a local assignment just sets the current value'. */
  private static void localAtDepth0() {
    String eight = "\\def\\y#1#2#3#4#5#6#7#8{\\x#16\\x#26\\x#36\\x#46\\x#56\\x#66\\x#76\\x#86}";
    String all = "\\y!\"$%&'()\\y*+,-./:;\\y<=>?@[]^\\y_`|ABCDE";
    // 32 items at depth 0 take no save, so there is room for all 32 in the group.
    String text = "\\let\\x\\catcode" + eight + all + "{" + all;
    Check.same("status", Check.ran(text).status(), TexMacroExpander.S_DONE);
    TexMacroExpander x = Check.ran(text + "\\x~5");
    Check.same("status", x.status(), TexMacroExpander.E_SAVE_FULL);
    x = Check.done("\\let\\a x{}\\let\\a y\\catcode!5{}\\a", "{}{}y");
    Check.same("catcode", x.catcode('!'), 5);
    Check.done("{}\\let\\a x{\\let\\a y}\\let\\a z{}\\a", "{}{}{}z");
  }

  /** 'first saves the item's current value at the current level unless it is already saved at this level'. */
  private static void savedOnceALevel() {
    Check.done("\\let\\a0{\\let\\a1\\let\\a2\\let\\a3\\a}\\a", "{3}0");
    Check.done("\\let\\a0{\\let\\a1{\\let\\a2\\let\\a3\\a}\\a}\\a", "{{3}1}0");
    Check.done("\\let\\a0{{\\let\\a1\\a}\\let\\a2{\\let\\a3\\a}\\a}\\a", "{{1}{3}2}0");
    Check.done("\\let\\a0{\\let\\b1\\let\\a2\\let\\b3\\let\\a4\\a}\\a", "{4}0");
    String text = "\\let\\a0";
    StringBuilder back = new StringBuilder();
    for (int depth = 1; depth <= 8; depth++) {
      text += "{\\let\\a" + depth;
      back.append('}').append(8 - depth);
    }
    Check.done(text + "}\\a".repeat(8), "{".repeat(8) + back);
  }

  /** 'if a save is needed and 32 saves exist over all open levels, E_SAVE_FULL and nothing changes'. */
  private static void thirtyTwoSaves() {
    Check.same("31 saves", Check.ran(saves(31)).status(), TexMacroExpander.S_DONE);
    Check.same("32 saves", Check.ran(saves(32)).status(), TexMacroExpander.S_DONE);
    String[] more = {"\\x~5", "\\let\\x\\fi", "\\def\\x{}", "\\let\\fi\\x", "\\x\\\u00000", "\\x\\\u007f0"};
    for (String assignment : more) {
      TexMacroExpander one = Check.ran(saves(31) + assignment);
      Check.same("32nd: " + assignment, one.status(), TexMacroExpander.S_DONE);
      TexMacroExpander before = Check.ran("\\iffalse\\\u0000\\\u007f\\fi" + saves(32));
      TexMacroExpander after = Check.ran("\\iffalse\\\u0000\\\u007f\\fi" + saves(32) + assignment);
      Check.same("33rd: " + assignment, after.status(), TexMacroExpander.E_SAVE_FULL);
      Check.same("nothing changes", State.work(after), State.work(before));
    }
  }

  private static void savesOverAllLevels() {
    StringBuilder text = new StringBuilder("\\let\\x\\catcode");
    for (int level = 0; level < 8; level++) {
      text.append('{').append(changes(level * 4, level * 4 + 4));
    }
    Check.same("4 saves in 8 levels", Check.ran(text.toString()).status(), TexMacroExpander.S_DONE);
    Check.same("one more", Check.ran(text + "\\x~6").status(), TexMacroExpander.E_SAVE_FULL);
    // An item of an outer level needs a save of its own at this one.
    Check.same("an outer item", Check.ran(text + "\\x!6").status(), TexMacroExpander.E_SAVE_FULL);
    Check.same("an item of this level", Check.ran(text + "\\x E6").status(), TexMacroExpander.S_DONE);
    // A level that closes takes its saves along.
    Check.same("room again", Check.ran(text + "}" + changes(0, 4)).status(), TexMacroExpander.S_DONE);
    Check.same("full again", Check.ran(text + "}" + changes(0, 5)).status(), TexMacroExpander.E_SAVE_FULL);
    Check.same("an empty level", Check.ran(saves(32) + "{}").status(), TexMacroExpander.S_DONE);
    Check.same("a level inside", Check.ran(saves(31) + "{\\x~6}{\\x~6}\\x~6").status(), TexMacroExpander.S_DONE);
  }

  private static void noSaveNeeded() {
    TexMacroExpander x = Check.ran(saves(32) + "\\x!1\\x|2\\x E3");
    Check.same("saved already", x.status(), TexMacroExpander.S_DONE);
    Check.same("changed", x.catcode('!'), 1);
    Check.same("changed", x.catcode('|'), 2);
    Check.same("changed", x.catcode('E'), 3);
    x = Check.ran(saves(32) + "\\gdef\\y{u}\\glet\\z v\\gcatcode~3");
    Check.same("global", x.status(), TexMacroExpander.S_DONE);
    Check.macro(x, "y", 0, "", "u");
    Check.same("changed", x.meaningValue(Check.index(x, "z")), 5 * 128 + 'v');
    Check.same("changed", x.catcode('~'), 3);
    x = Check.ran(saves(32) + "}\\x~3\\let\\y!\\def\\z{}");
    Check.same("at depth 0", x.status(), TexMacroExpander.S_DONE);
  }

  /** The assignment is the last step of def, let and catcode: what is wrong with its tokens comes first. */
  private static void fullSavesComeLast() {
    Check.same("def", Check.ran(saves(32) + "\\def\\y{#1}").status(), TexMacroExpander.E_BAD_DEF);
    Check.same("def", Check.ran(saves(32) + "\\def\\y{").status(), TexMacroExpander.E_RUNAWAY);
    Check.same("def", Check.ran(saves(32) + "\\def\\y 123456789").status(), TexMacroExpander.E_TOO_LONG);
    Check.same("let", Check.ran(saves(32) + "\\let\\y").status(), TexMacroExpander.E_RUNAWAY);
    Check.same("catcode", Check.ran(saves(32) + "\\x~8").status(), TexMacroExpander.E_BAD_CATCODE);
    Check.same("catcode", Check.ran(saves(32) + "\\x~").status(), TexMacroExpander.E_RUNAWAY);
  }

  /** 'A GLOBAL assignment sets the current value and every saved value of the item at all levels'. */
  private static void globalReachesAllLevels() {
    StringBuilder meanings = new StringBuilder("\\let\\a0\\let\\b0");
    StringBuilder catcodes = new StringBuilder();
    for (int depth = 1; depth <= 8; depth++) {
      meanings.append("{\\let\\a").append(depth);
      catcodes.append("{\\catcode\\!").append(depth % 8);
    }
    String closes = "}\\a".repeat(8);
    Check.done(meanings + "\\gdef\\a{g}\\a" + closes, "{".repeat(8) + "g" + "}g".repeat(8));
    Check.done(meanings + "\\glet\\a g\\a" + closes, "{".repeat(8) + "g" + "}g".repeat(8));
    Check.done(meanings + "\\glet\\b g" + closes + "\\b", "{".repeat(8) + "}7}6}5}4}3}2}1}0g");
    for (int open = 0; open <= 8; open++) {
      TexMacroExpander x = Check.ran(catcodes + "\\gcatcode\\!3" + "}".repeat(8 - open));
      Check.same("status", x.status(), TexMacroExpander.S_DONE);
      Check.same("catcode at depth " + open, x.catcode('!'), 3);
    }
    // In the middle: outer levels get the value, and inner ones that come later save it.
    Check.done("\\let\\a0{\\let\\a1{\\glet\\a2{\\let\\a3\\a}\\a}\\a}\\a", "{{{3}2}2}2");
    Check.done("\\let\\a0{\\let\\a1\\glet\\a2\\let\\a3\\a}\\a", "{3}2");
    Check.done("\\let\\a0{\\glet\\a1\\glet\\a2\\a}\\a", "{2}2");
    Check.done("\\let\\a0\\glet\\a1{\\a}\\a", "{1}1");
    // No other item is reached, be it saved before or after this one.
    Check.done("\\let\\a0\\let\\b0\\let\\c0{\\let\\a1\\let\\b1\\let\\c1\\glet\\b2}\\a\\b\\c", "{}020");
    TexMacroExpander x = Check.done("{\\catcode!1\\catcode?1\\catcode/1\\gcatcode?3}", "{}");
    Check.same("catcode of !", x.catcode('!'), 6);
    Check.same("catcode of ?", x.catcode('?'), 3);
    Check.same("catcode of /", x.catcode('/'), 6);
    // A name and a char are two items, also where their numbers meet.
    x = Check.done("{\\catcode\\\u00001\\let\\def a\\glet\\def b}", "{}");
    Check.same("catcode of char 0", x.catcode(0), 7);
    Check.same("meaning of name 0", x.meaningValue(0), 5 * 128 + 'b');
  }

  /** 'Names created inside the group are undefined after the close unless globally assigned inside it'. */
  private static void namesCreatedInside() {
    TexMacroExpander x = Check.done("{\\def\\a{x}\\let\\b y\\let\\c\\d\\gdef\\e{u}\\glet\\f v{\\def\\g{}\\gdef\\h{w}}}", "{{}}");
    Check.same("names", x.nameCount(), 22);
    String[] local = {"a", "b", "c", "d", "g"};
    for (String name : local) {
      Check.same("meaning of " + name, State.meaning(x, Check.index(x, name)), "0/0/-1/-1");
    }
    Check.macro(x, "e", 0, "", "u");
    Check.same("meaning of f", State.meaning(x, Check.index(x, "f")), "3/" + (5 * 128 + 'v') + "/-1/-1");
    Check.macro(x, "h", 0, "", "w");
    // A global one, then a local one: the global one is what comes back.
    Check.macro(Check.done("{\\gdef\\a{x}\\def\\a{y}}", "{}"), "a", 0, "", "x");
    Check.macro(Check.done("{\\def\\a{y}\\gdef\\a{x}}", "{}"), "a", 0, "", "x");
  }
}
