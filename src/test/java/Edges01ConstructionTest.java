/** The edges that promise 1 names, a method for each sentence. */
public final class Edges01ConstructionTest {
  public static void main(String[] args) {
    everyIntIsAccepted();
    belowOneBecomesOne();
    insideStays();
    aboveHundredBecomesHundred();
    nothingIsThereAtFirst();
    catcodeRanges();
    startingNames();
    namesAreFourteenOfThirtyTwo();
    tokenEncodings();
    equalMeanings();
    Check.end();
  }

  /** 'accepts every int'. */
  private static void everyIntIsAccepted() {
    int[] limits = {Integer.MIN_VALUE, Integer.MIN_VALUE + 1, -1000000, -1, 0, 1, 100, 101, 65537, 1 << 30,
      Integer.MAX_VALUE - 1, Integer.MAX_VALUE};
    String due = State.of(new TexMacroExpander(50));
    for (int limit : limits) {
      Check.same("state with limit " + limit, State.of(new TexMacroExpander(limit)), due);
    }
  }

  /** 'a value below 1 becomes 1 (so Integer.MIN_VALUE gives 1)'. */
  private static void belowOneBecomesOne() {
    allows(0, 1);
    allows(-1, 1);
    allows(-100, 1);
    allows(Integer.MIN_VALUE, 1);
    allows(Integer.MIN_VALUE + 1, 1);
  }

  /** 'The expansion limit is expansionLimit'. */
  private static void insideStays() {
    allows(1, 1);
    allows(2, 2);
    allows(50, 50);
    allows(99, 99);
    allows(100, 100);
  }

  /** 'a value above 100 becomes 100 (so Integer.MAX_VALUE gives 100)'. */
  private static void aboveHundredBecomesHundred() {
    allows(101, 100);
    allows(256, 100);
    allows(Integer.MAX_VALUE - 1, 100);
    allows(Integer.MAX_VALUE, 100);
  }

  /** Just as many expansions as are due go well, and one more does not. */
  private static void allows(int limit, int due) {
    TexMacroExpander x = Check.fed(limit, "\\def\\a{x}" + "\\a".repeat(due));
    Check.same("run with limit " + limit, x.run(), TexMacroExpander.S_DONE);
    Check.same("expansions with limit " + limit, x.expansionsUsed(), due);
    Check.same("output with limit " + limit, x.outputLength(), due);
    x = Check.fed(limit, "\\def\\a{x}" + "\\a".repeat(due + 1));
    Check.same("run too far with limit " + limit, x.run(), TexMacroExpander.E_EXPANSIONS);
    Check.same("expansions with limit " + limit, x.expansionsUsed(), due);
    Check.same("output with limit " + limit, x.outputLength(), due);
  }

  /** 'no characters are held; run has not been called; ... are 0'. */
  private static void nothingIsThereAtFirst() {
    TexMacroExpander x = new TexMacroExpander(1);
    Check.same("status", x.status(), TexMacroExpander.S_FRESH);
    Check.same("expansionsUsed", x.expansionsUsed(), 0);
    Check.same("outputLength", x.outputLength(), 0);
    Check.same("outputToken(0)", x.outputToken(0), -1);
    Check.same("groupDepth", x.groupDepth(), 0);
    Check.same("condDepth", x.condDepth(), 0);
    for (int i = 0; i < 256; i++) {
      Check.same("room for char " + i, x.feed('a'), true);
    }
    x = new TexMacroExpander(1);
    Check.same("run over nothing", x.run(), TexMacroExpander.S_DONE);
    Check.same("outputLength", x.outputLength(), 0);
  }

  /** The catcode table: the chars on both sides of each of its borders. */
  private static void catcodeRanges() {
    TexMacroExpander x = new TexMacroExpander(1);
    int[][] due = {{0, 7}, {1, 7}, {30, 7}, {31, 7}, {32, 4}, {33, 6}, {34, 6}, {35, 3}, {36, 6}, {47, 6}, {48, 6},
      {57, 6}, {58, 6}, {63, 6}, {64, 6}, {65, 5}, {66, 5}, {89, 5}, {90, 5}, {91, 6}, {92, 0}, {93, 6}, {94, 6},
      {96, 6}, {97, 5}, {98, 5}, {121, 5}, {122, 5}, {123, 1}, {124, 6}, {125, 2}, {126, 6}, {127, 7}};
    for (int[] pair : due) {
      Check.same("catcode " + pair[0], x.catcode(pair[0]), pair[1]);
    }
    int[] count = new int[8];
    for (int c = 0; c < 128; c++) {
      count[x.catcode(c)]++;
    }
    int[] dueCount = {1, 1, 1, 1, 1, 52, 38, 33};
    for (int category = 0; category < 8; category++) {
      Check.same("chars of category " + category, count[category], dueCount[category]);
    }
  }

  /** 'entries 0..13 being ..., each with meaning M_PRIMITIVE and value p = its index'. */
  private static void startingNames() {
    String[] due = {"def", "gdef", "let", "glet", "expandafter", "begingroup", "endgroup", "catcode", "gcatcode",
      "iftrue", "iffalse", "ifx", "else", "fi"};
    int[] lengths = {3, 4, 3, 4, 11, 10, 8, 7, 8, 6, 7, 3, 4, 2};
    TexMacroExpander x = new TexMacroExpander(1);
    for (int idx = 0; idx < 14; idx++) {
      Check.same("name " + idx, Check.name(x, idx), due[idx]);
      Check.same("length of name " + idx, x.nameLength(idx), lengths[idx]);
      Check.same("behind name " + idx, x.nameChar(idx, lengths[idx]), -1);
      Check.same("meaning of name " + idx, State.meaning(x, idx), "1/" + idx + "/-1/-1");
    }
  }

  /** 'Name table (room for 32 entries): nameCount() is 14'. */
  private static void namesAreFourteenOfThirtyTwo() {
    TexMacroExpander x = new TexMacroExpander(1);
    Check.same("nameCount", x.nameCount(), 14);
    Check.same("no name 14", x.nameLength(14), -1);
    Check.same("no meaning of name 14", x.meaningKind(14), -1);
    Check.same("room for 18 more", Check.ran("\\iffalse" + Promise03RunTest.namesFrom('A', 18)).nameCount(), 32);
  }

  /** 'A character token is encoded cat*128+ch (cat in 1..6)', 'cs token is 1024+n', 'marker 2048+k'. */
  private static void tokenEncodings() {
    int[] chars = {0, 1, 31, 32, '!', 'A', 'z', '~', 127};
    for (int category = 1; category <= 6; category++) {
      for (int c : chars) {
        // The group keeps a cat-2 char from being one too many.
        TexMacroExpander x = Check.ran("{\\catcode\\" + (char) c + (isLetter(c) ? " " : "") + category + (char) c);
        Check.same("status", x.status(), TexMacroExpander.S_DONE);
        Check.same("token of char " + c, x.outputToken(1), category * 128 + c);
      }
    }
    TexMacroExpander x = Check.done("\\def\\a#1#2#3#4#5#6#7#8{#8#1\\def\\fi\\a}", "");
    int[] due = {2056, 2049, 1024, 1037, 1038};
    for (int i = 0; i < due.length; i++) {
      Check.same("token " + i, x.macroTextToken(14, 1, i), due[i]);
    }
  }

  private static boolean isLetter(int c) {
    return c >= 'A' && c <= 'Z' || c >= 'a' && c <= 'z';
  }

  /** 'Two meanings are equal iff they are of the same kind and: ...'. */
  private static void equalMeanings() {
    equal("", "\\zz\\yy", true);
    equal("", "\\def\\def", true);
    equal("", "\\def\\let", false);
    equal("", "\\zz\\def", false);
    equal("", "\\fi\\else", false);
    equal("\\let\\a\\fi", "\\a\\fi", true);
    equal("\\let\\a!", "\\a\\b", false);
    equal("\\let\\a!\\let\\b!", "\\a\\b", true);
    equal("\\let\\a!\\let\\b?", "\\a\\b", false);
    equal("\\let\\a!\\catcode!5\\let\\b !", "\\a\\b", false);
    equal("\\def\\a{!}\\let\\b!", "\\a\\b", false);
    equal("\\def\\a{}\\def\\b{}", "\\a\\b", true);
    equal("\\def\\a{}", "\\a\\b", false);
    // The last token of each text, the lengths and the counts.
    equal("\\def\\a 12345678{}\\def\\b 12345678{}", "\\a\\b", true);
    equal("\\def\\a 12345678{}\\def\\b 12345679{}", "\\a\\b", false);
    equal("\\def\\a 12345678{}\\def\\b 1234567{}", "\\a\\b", false);
    String full = "12345678901234567890123";
    equal("\\def\\a{" + full + "4}\\def\\b{" + full + "4}", "\\a\\b", true);
    equal("\\def\\a{" + full + "4}\\def\\b{" + full + "5}", "\\a\\b", false);
    equal("\\def\\a{" + full + "4}\\def\\b{" + full + "}", "\\a\\b", false);
    equal("\\def\\a#1{}\\def\\b#1#2{}", "\\a\\b", false);
    equal("\\def\\a#1.{}\\def\\b.#1{}", "\\a\\b", false);
    // What a name meant before, or what was defined in between, plays no part.
    equal("\\def\\a{x}\\def\\c 12#1{yz}\\def\\b{x}", "\\a\\b", true);
    equal("\\def\\a 12#1{yz}\\def\\a{x}\\def\\b{x}", "\\a\\b", true);
    equal("\\def\\a 12#1{yz}\\let\\a!", "\\a!", true);
    equal("\\def\\a 12#1{yz}\\let\\a\\c", "\\a\\d", true);
    // Equal is what the tokens are, not what they mean.
    equal("\\let\\c\\fi\\def\\a{\\c}\\def\\b{\\fi}", "\\a\\b", false);
  }

  private static void equal(String before, String two, boolean due) {
    Check.done(before + "\\ifx" + two + "\\iftrue T\\fi\\else F\\fi", due ? "T" : "F");
  }
}
