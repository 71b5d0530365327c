/** Promise 3, the tokeniser: its edges, a method for each sentence. */
public final class Edges03TokeniserTest {
  private static final int RUNAWAY = TexMacroExpander.E_RUNAWAY;
  private static final int LONG = TexMacroExpander.E_NAME_LONG;
  private static final int FULL = TexMacroExpander.E_NAME_FULL;

  /** Places where a step is in the middle of reading tokens. */
  private static final String[] PLACES = {"", "\\def", "\\gdef", "\\def\\a", "\\def\\a.", "\\def\\a#", "\\def\\a{",
    "\\def\\a{.", "\\def\\a#1{#", "\\let", "\\glet\\a", "\\catcode", "\\gcatcode!", "\\ifx", "\\ifx a", "\\iffalse",
    "\\iffalse a", "\\iffalse\\iftrue", "\\iftrue\\else", "\\def\\a.,{}\\a", "\\def\\a.,{}\\a.", "\\def\\a#1{}\\a",
    "\\def\\a#1{}\\a{", "\\def\\a#1{}\\a{{}", "\\def\\a#1#2{}\\a.", "\\def\\a#1.{}\\a", "\\def\\a#1.,{}\\a.",
    "\\def\\a#1.{}\\a{.", "\\def\\a#1.#2,{}\\a.", "\\def\\1#1{}\\1 "};

  public static void main(String[] args) {
    pendingComesFirst();
    categoryWhenFirstExamined();
    ignoredChars();
    noCharBehindAnEscape();
    controlWords();
    controlSymbols();
    namesOf8And9();
    longBeforeLookup();
    exactNames();
    thirtyTwoNames();
    noRawInputLeft();
    inputEndsWhereATokenIsNeeded();
    Check.end();
  }

  /** 'Tokens are taken first from the PENDING list (front first), and only when it is empty from the raw input'. */
  private static void pendingComesFirst() {
    Check.done("\\def\\a{xyz}\\a w", "xyzw");
    Check.done("\\def\\a{x\\b z}\\def\\b{uv}\\a w", "xuvzw");
    Check.done("\\def\\a{\\b}\\def\\b#1#2{#2#1}\\a xyz", "yxz");
    Check.done("\\def\\a{\\b x}\\def\\b#1#2{#2#1}\\a yz", "yxz");
  }

  /** 'A token is produced when first examined and is fixed from then on'. */
  private static void categoryWhenFirstExamined() {
    category("\\catcode!5!", 5);
    category("\\def\\a#1{\\catcode!5#1}\\a!", 6);
    category("\\def\\a#1.{\\catcode!5#1}\\a!.", 6);
    category("\\def\\a{\\catcode!5}\\a!", 5);
    category("\\def\\a{!}\\catcode!5\\a", 6);
    category("\\let\\a!\\catcode!5\\a", 6);
    category("\\def\\a.{\\catcode!5}\\a.!", 5);
    category("\\def\\a#1.,{\\catcode!#1}\\a5.,!", 5);
    category("\\iffalse\\else\\catcode!5\\fi !", 5);
    // A name, too: what follows it is read only when it is needed.
    Check.done("\\def\\a{\\catcode!5}\\def\\b!{u}\\def\\b{v}\\a\\b", "v");
    Check.done("\\catcode!5\\def\\a!{x}\\def\\a{y}\\a!\\catcode\\!6\\a!", "xy!");
  }

  private static void category(String text, int due) {
    TexMacroExpander x = Check.done(text, "!");
    Check.same("category after " + text, x.outputToken(0), due * 128 + '!');
  }

  /** 'cat 7: the char is dropped; reading goes on'. */
  private static void ignoredChars() {
    for (int c = 0; c < 128; c++) {
      boolean ignored = c < 32 || c == 127;
      if (ignored) {
        Check.done((char) c + "a" + (char) c + (char) c + "b" + (char) c, "ab");
      }
    }
    Check.done("\u0001".repeat(256), "");
    Check.done("\u0001".repeat(255) + "a", "a");
    Check.done("a!b\\catcode!7!!c!", "a!bc");
    Check.done("\\catcode\\\u00016\u0001", "\u0001");
  }

  /** 'cat 0: if no char follows, error E_RUNAWAY'. */
  private static void noCharBehindAnEscape() {
    Check.gives("\\", RUNAWAY, "");
    Check.gives("ab\\", RUNAWAY, "ab");
    Check.gives("a".repeat(255) + "\\", RUNAWAY, "a".repeat(255));
    Check.gives("\\catcode!0a!", RUNAWAY, "a");
    for (String place : PLACES) {
      Check.same("after " + place, Check.ran(place + "\\").status(), RUNAWAY);
    }
    // A char of any category is one that follows.
    String[] chars = {"a", "1", " ", "{", "}", "#", "\\", "\u0000", "\u007f"};
    for (String c : chars) {
      TexMacroExpander x = Check.gives("\\" + c, TexMacroExpander.E_UNDEFINED, "");
      Check.same("the name", Check.name(x, 14), c);
    }
  }

  /** 'the name is n and all directly following chars of cat 5; then all directly following chars of cat 4 ... dropped'. */
  private static void controlWords() {
    Check.done("\\let\\ab!\\ab1", "!1");
    Check.done("\\let\\ab!\\ab 1", "!1");
    Check.done("\\let\\ab!\\ab     1 2", "!1 2");
    Check.done("\\let\\ab!\\ab{ }", "!{ }");
    Check.done("\\let\\ab!\\ab\u0001 1", "! 1");
    Check.done("\\let\\a!\\a\u0001b", "!b");
    Check.done("\\let\\ab!\\ab \u0001 1", "! 1");
    Check.done("\\let\\ab!\\ab ", "!");
    Check.done("\\let\\ab!\\ab", "!");
    Check.done("\\let\\ab?\\catcode!4\\ab! !1!", "?1!");
    Check.done("\\let\\ab?\\catcode a6\\let\\a!\\a b", "! b");
    Check.done("\\let\\a?\\catcode!5\\let\\!a!+\\!a!\\a", "+?");
    // Spaces up to the very last char that can be held.
    Check.gives("\\zz" + " ".repeat(253), TexMacroExpander.E_UNDEFINED, "");
    Check.done("\\let\\a!\\a" + " ".repeat(247), "!");
  }

  /** 'Otherwise the name is the single char n, and nothing is dropped'. */
  private static void controlSymbols() {
    Check.done("\\let\\1!\\1 2", "! 2");
    Check.done("\\let\\1!\\12", "!2");
    Check.done("\\let\\1!\\1a", "!a");
    Check.done("\\let\\ !\\  1", "! 1");
    Check.done("\\let\\\\!\\\\ 1", "! 1");
    Check.done("\\let\\\u0000!\\\u0000 1", "! 1");
    Check.done("\\catcode a6\\let\\a!\\a 1\\ab", "! 1!b");
  }

  /** 'A name longer than 8 chars gives E_NAME_LONG'. */
  private static void namesOf8And9() {
    for (int length = 1; length <= 8; length++) {
      String name = "ABCDEFGH".substring(0, length);
      TexMacroExpander x = Check.done("\\let\\" + name + "!\\" + name, "!");
      Check.same("the name", Check.name(x, 14), name);
      Check.same("its length", x.nameLength(14), length);
    }
    String[] tooLong = {"ABCDEFGHI", "ABCDEFGHIJ", "A".repeat(16), "A".repeat(200), "endgroups", "gcatcodes"};
    for (String name : tooLong) {
      TexMacroExpander x = Check.gives("x\\" + name + "y", LONG, "x");
      Check.same("names", x.nameCount(), 14);
      x = Check.gives("x\\" + name + "  y", LONG, "x");
      Check.same("names", x.nameCount(), 14);
    }
    Check.gives("\\" + "A".repeat(255), LONG, "");
    // The 9th char has to be one of the name.
    Check.gives("\\ABCDEFGH1", TexMacroExpander.E_UNDEFINED, "");
    Check.gives("\\ABCDEFGH I", TexMacroExpander.E_UNDEFINED, "");
    Check.gives("\\ABCDEFGH\\I", TexMacroExpander.E_UNDEFINED, "");
    Check.done("\\catcode I6\\let\\ABCDEFGH!\\ABCDEFGHI", "!I");
    Check.gives("\\catcode1 5\\ABCDEFGH1", TexMacroExpander.E_BAD_CATCODE, "");
    Check.gives("\\catcode15\\ABCDEFGH1", LONG, "");
    for (String place : PLACES) {
      TexMacroExpander before = Check.ran(place);
      TexMacroExpander x = Check.ran(place + wordBreak(place) + "\\abcdefghi");
      Check.same("after " + place, x.status(), LONG);
      Check.same("names after " + place, x.nameCount(), before.nameCount());
    }
  }

  private static String wordBreak(String place) {
    return place.isEmpty() || place.endsWith(" ") ? "" : "\u0000";
  }

  /** 'This test comes before the lookup and has no exceptions'. */
  private static void longBeforeLookup() {
    String[] names = {"expandafter", "begingroup"};
    for (String name : names) {
      Check.gives("x\\" + name + " y", LONG, "x");
      for (String place : PLACES) {
        Check.same("after " + place, Check.ran(place + "\\" + name).status(), LONG);
      }
    }
    TexMacroExpander x = new TexMacroExpander(1);
    Check.same("nameLength(4)", x.nameLength(4), 11);
    Check.same("nameLength(5)", x.nameLength(5), 10);
    Check.gives("\\iffalse" + Promise03RunTest.namesFrom('A', 18) + "\\abcdefghi", LONG, "");
  }

  /** 'A name is looked up by exact char string; if absent it is appended to the name table with meaning undefined'. */
  private static void exactNames() {
    String[] others = {"d", "de", "deff", "Def", "DEF", "ed", "f", "fit", "expand", "begin", "gcatcod", "endgrou", "abc"};
    for (String name : others) {
      TexMacroExpander x = Check.gives("\\" + name, TexMacroExpander.E_UNDEFINED, "");
      Check.same("names", x.nameCount(), 15);
      Check.same("the name", Check.name(x, 14), name);
      Check.same("its meaning", State.meaning(x, 14), "0/0/-1/-1");
    }
    TexMacroExpander x = Check.done("\\let\\a1\\let\\ab2\\let\\b3\\let\\A4\\let\\aa5\\a\\ab\\b\\A\\aa", "12345");
    Check.same("names", x.nameCount(), 19);
    x = Check.done("\\iffalse\\abcdefgh\\abcdefgi\\bbcdefgh\\abcdefg\\abcdefgh\\fi", "");
    Check.same("names", x.nameCount(), 18);
    // The names 'a' as a control word and as a control symbol are one.
    x = Check.done("\\let\\a!\\catcode a6\\a", "!");
    Check.same("names", x.nameCount(), 15);
  }

  /** 'if the table already holds 32 names, E_NAME_FULL'. */
  private static void thirtyTwoNames() {
    String names = "\\iffalse" + Promise03RunTest.namesFrom('A', 17);
    TexMacroExpander x = Check.done(names + "\\fi", "");
    Check.same("names", x.nameCount(), 31);
    x = Check.done(names + "\\R\\fi", "");
    Check.same("names", x.nameCount(), 32);
    Check.same("the last name", Check.name(x, 31), "R");
    x = Check.gives(names + "\\R\\S\\fi", FULL, "");
    Check.same("names", x.nameCount(), 32);
    Check.same("no name 32", x.nameLength(32), -1);
    // A name of the table is found also when it is full.
    x = Check.done(names + "\\R\\A\\R\\def\\fi\\let\\R!\\R", "!");
    Check.same("names", x.nameCount(), 32);
    x = Check.gives(names + "\\R\\fi\\s", FULL, "");
    Check.same("names", x.nameCount(), 32);
    Check.gives(names + "\\R\\fi\\let\\s!", FULL, "");
    Check.gives(names + "\\R\\fi\\let\\R\\s", FULL, "");
    Check.gives(names + "\\R\\fi\\def\\R{\\s}", FULL, "");
    Check.gives(names + "\\R\\fi\\ifx\\R\\s", FULL, "");
    // A group that closes takes no name from the table.
    Check.gives("{" + names + "\\R\\fi}\\s", FULL, "{}");
  }

  /** 'No raw input left: no token (end of input)'. */
  private static void noRawInputLeft() {
    Check.done("", "");
    Check.done("\u0000", "");
    Check.done("\\iftrue ", "");
    Check.done("{", "{");
    Check.done("\\def\\a{}\\a", "");
    Check.done("\\def\\a{\\b}\\def\\b{}\\a", "");
  }

  /** 'E_RUNAWAY also arises whenever input ends while a step needs another token'. */
  private static void inputEndsWhereATokenIsNeeded() {
    for (String place : PLACES) {
      int due = place.isEmpty() ? TexMacroExpander.S_DONE : RUNAWAY;
      Check.same("after " + place, Check.ran(place).status(), due);
      Check.same("after " + place, Check.ran(place + "\u0000").status(), due);
    }
    // The same from inside of a macro: the end of PENDING is not the end of input.
    Check.gives("\\def\\a{\\def}\\a", RUNAWAY, "");
    Check.done("\\def\\a{\\def}\\a\\b{x}\\b", "x");
    Check.gives("\\def\\a{\\let\\b}\\a", RUNAWAY, "");
    Check.done("\\def\\a{\\let\\b}\\a x\\b", "x");
    Check.gives("\\def\\a{\\catcode!}\\a", RUNAWAY, "");
    Check.done("\\def\\a{\\catcode!}\\a7!x", "x");
    Check.gives("\\def\\a{\\ifx u}\\a", RUNAWAY, "");
    Check.done("\\def\\a{\\ifx u}\\a ux\\fi", "x");
    Check.gives("\\def\\a{\\iffalse}\\a", RUNAWAY, "");
    Check.gives("\\def\\a{\\b}\\def\\b#1{}\\a", RUNAWAY, "");
    Check.gives("\\def\\a{\\b x}\\def\\b#1.{}\\a", RUNAWAY, "");
    Check.gives("\\def\\a{\\b.}\\def\\b.,{}\\a", RUNAWAY, "");
  }
}
