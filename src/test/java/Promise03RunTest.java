/** Promise 3: run, its tokeniser and its main loop. */
public final class Promise03RunTest {
  public static void main(String[] args) {
    runOnce();
    characters();
    names();
    longNames();
    fullNameTable();
    lazyCategories();
    mainLoop();
    fullOutput();
    Check.end();
  }

  private static void runOnce() {
    TexMacroExpander x = Check.fed(10, "a{b\\gdef\\c{d}\\c\\iftrue\\zz e");
    Check.same("run", x.run(), TexMacroExpander.E_UNDEFINED);
    for (int i = 0; i < 3; i++) {
      Check.same("output stays", Check.outputChars(x), "a{bd");
      Check.same("depth stays", x.groupDepth(), 1);
      Check.same("conditionals stay", x.condDepth(), 1);
      Check.same("expansions stay", x.expansionsUsed(), 1);
      Check.same("names stay", x.nameCount(), 16);
      Check.macro(x, "c", 0, "", "d");
      Check.same("run again", x.run(), TexMacroExpander.E_UNDEFINED);
      Check.same("status", x.status(), TexMacroExpander.E_UNDEFINED);
    }
  }

  private static void characters() {
    TexMacroExpander x = Check.done("a\u0000Z\u001f1\u007f #{}~", "aZ1 #{}~");
    int[] due = {5 * 128 + 'a', 5 * 128 + 'Z', 6 * 128 + '1', 4 * 128 + ' ', 3 * 128 + '#',
      128 + '{', 2 * 128 + '}', 6 * 128 + '~'};
    for (int i = 0; i < due.length; i++) {
      Check.same("outputToken " + i, x.outputToken(i), due[i]);
    }
  }

  private static void names() {
    Check.done("\\def\\a{x}\\a   b", "xb");
    Check.done("\\def\\a{x}\\a\u0000 b", "x b");
    Check.done("\\def\\ab{x}\\def\\a{y}\\ab\\a\\a b", "xyyb");
    Check.done("\\def\\1{x}\\1  b", "x  b");
    Check.done("\\def\\1{x}\\12", "x2");
    Check.done("\\def\\ {x}\\  b", "x b");
    Check.done("\\def\\{{x}\\{b", "xb");
    Check.done("\\def\\\\{x}\\\\\\\\b", "xxb");
    Check.done("\\def\\\u0000{x}\\\u0000b", "xb");
    Check.gives("ab\\", TexMacroExpander.E_RUNAWAY, "ab");
    TexMacroExpander x = Check.gives("\\A\\a", TexMacroExpander.E_UNDEFINED, "");
    Check.same("names are added when read", x.nameCount(), 15);
    Check.same("the name added", Check.name(x, 14), "A");
    // A full input that ends in a name, in a name's spaces, or in the escape.
    Check.gives("x".repeat(252) + "\\abc", TexMacroExpander.E_UNDEFINED, "x".repeat(252));
    Check.gives("x".repeat(246) + "\\abcdefgh ", TexMacroExpander.E_UNDEFINED, "x".repeat(246));
    Check.gives("x".repeat(255) + "\\", TexMacroExpander.E_RUNAWAY, "x".repeat(255));
    // What was never fed is no part of a name, even if char 0 is a letter.
    x = Check.gives("\\catcode\\\u00005\\ab", TexMacroExpander.E_UNDEFINED, "");
    Check.same("the name added", Check.name(x, 15), "ab");
    Check.done("\\catcode`5\\def\\a`b{x}\\a`b  c", "xc");
    Check.done("\\catcode!4\\def\\a{x}\\a ! !b", "xb");
    Check.done("\\catcode!0!def!a{x}\\a!a", "xx");
  }

  private static void longNames() {
    TexMacroExpander x = Check.gives("\\abcdefgh", TexMacroExpander.E_UNDEFINED, "");
    Check.same("a name of 8", Check.name(x, 14), "abcdefgh");
    x = Check.gives("x\\abcdefghi", TexMacroExpander.E_NAME_LONG, "x");
    Check.same("a name of 9 is not added", x.nameCount(), 14);
    Check.gives("\\expandafter", TexMacroExpander.E_NAME_LONG, "");
    Check.gives("\\begingroup", TexMacroExpander.E_NAME_LONG, "");
    Check.gives("\\let\\x\\expandafter", TexMacroExpander.E_NAME_LONG, "");
    Check.gives("\\iffalse\\begingroup\\fi", TexMacroExpander.E_NAME_LONG, "");
    Check.gives("\\def\\a{\\begingroup}", TexMacroExpander.E_NAME_LONG, "");
    String names = namesFrom('a', 18);
    Check.gives("\\iffalse" + names + "\\abcdefghi", TexMacroExpander.E_NAME_LONG, "");
  }

  private static void fullNameTable() {
    String names = namesFrom('a', 18);
    TexMacroExpander x = Check.done("\\iffalse" + names + "\\fi x", "x");
    Check.same("names", x.nameCount(), 32);
    Check.same("the last name", Check.name(x, 31), "r");
    Check.same("its meaning", x.meaningKind(31), TexMacroExpander.M_UNDEFINED);
    x = Check.gives("\\iffalse" + names + "\\s\\fi x", TexMacroExpander.E_NAME_FULL, "");
    Check.same("names", x.nameCount(), 32);
    Check.done("\\iffalse" + names + "\\r\\fi\\def\\a{y}\\a", "y");
  }

  private static void lazyCategories() {
    categories("a\\catcode a6a", "aa", 5, 6);
    // Tokens of a macro text and of an argument keep the category they were read with.
    categories("\\def\\b{a}\\catcode a6\\b a", "aa", 5, 6);
    categories("\\def\\m#1.{\\catcode!5#1!}\\m!.!", "!!!", 6, 6, 5);
    // What stands behind an argument, a prefix or a name is not read before it is needed.
    categories("\\def\\c#1{\\catcode!#1}\\c5!", "!", 5);
    categories("\\def\\c#1.{\\catcode!#1}\\c5.!", "!", 5);
    categories("\\def\\c/{\\catcode!5}\\c/!", "!", 5);
    categories("\\def\\c{\\catcode!4}\\c!x", "!x", 4, 5);
    categories("\\catcode!3!\\catcode!6!", "!!", 3, 6);
    Check.done("\\def\\x{y}\\catcode x6\\xb", "yb");
    Check.done("\\catcode!7a!b\\catcode c7c", "ab");
  }

  private static void categories(String text, String output, int... categories) {
    TexMacroExpander x = Check.done(text, output);
    for (int i = 0; i < categories.length; i++) {
      Check.same("category " + i + " after " + text, x.outputToken(i) / 128, categories[i]);
    }
  }

  private static void mainLoop() {
    Check.gives("a\\zz b", TexMacroExpander.E_UNDEFINED, "a");
    TexMacroExpander x = Check.done("\\let\\a=\\a", "=");
    Check.same("a let-char gives its char token", x.outputToken(0), 6 * 128 + '=');
    categories("\\let\\b{\\let\\e}\\b x\\e", "{x}", 1, 5, 2);
    categories("\\let\\p#\\p#", "##", 3, 3);
    categories("\\let\\1 x\\1", "x ", 5, 4);
    x = Check.done("\\let\\b{\\b\\b", "{{");
    Check.same("depth", x.groupDepth(), 2);
    x = Check.done("\\let\\b{\\let\\e}\\b\\b\\e", "{{}");
    Check.same("depth", x.groupDepth(), 1);
    Check.gives("\\let\\e}\\e", TexMacroExpander.E_EXTRA_END, "");
  }

  private static void fullOutput() {
    Check.done("a".repeat(256), "a".repeat(256));
    String fill = "\\def\\a#1{#1#1#1#1}\\a{" + "x".repeat(63) + "}";
    Check.done(fill + "abcd", "x".repeat(252) + "abcd");
    Check.gives(fill + "abcde", TexMacroExpander.E_OUTPUT_FULL, "x".repeat(252) + "abcd");
    TexMacroExpander x = Check.gives(fill + "abcd{", TexMacroExpander.E_OUTPUT_FULL,
      "x".repeat(252) + "abcd");
    Check.same("the group is open all the same", x.groupDepth(), 1);
    x = Check.gives("{\\catcode!5" + fill + "abc}", TexMacroExpander.E_OUTPUT_FULL,
      "{" + "x".repeat(252) + "abc");
    Check.same("the group is closed all the same", x.groupDepth(), 0);
    Check.same("its catcode is back", x.catcode('!'), 6);
  }

  static String namesFrom(char first, int count) {
    StringBuilder names = new StringBuilder();
    for (int i = 0; i < count; i++) {
      names.append('\\').append((char) (first + i));
    }
    return names.toString();
  }
}
