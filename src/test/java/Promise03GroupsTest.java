/** Promise 3: groups and assignments. */
public final class Promise03GroupsTest {
  public static void main(String[] args) {
    depths();
    localMeanings();
    globalMeanings();
    catcodes();
    namesMadeInside();
    fullSaves();
    Check.end();
  }

  private static void depths() {
    TexMacroExpander x = Check.done("{{{{{{{{", "{{{{{{{{");
    Check.same("depth", x.groupDepth(), 8);
    x = Check.gives("{{{{{{{{{", TexMacroExpander.E_GROUP_DEEP, "{{{{{{{{");
    Check.same("depth", x.groupDepth(), 8);
    x = Check.done("{{{{{{{{}{", "{{{{{{{{}{");
    Check.same("depth", x.groupDepth(), 8);
    x = Check.gives("a}b", TexMacroExpander.E_EXTRA_END, "a");
    Check.same("depth", x.groupDepth(), 0);
    Check.gives("{}}", TexMacroExpander.E_EXTRA_END, "{}");
    Check.gives("a\\endgroup", TexMacroExpander.E_EXTRA_END, "a");
    x = Check.done("{{a\\endgroup b}", "{{ab}");
    Check.same("depth", x.groupDepth(), 0);
    x = Check.done("\\let\\e\\endgroup{{a\\e", "{{a");
    Check.same("depth", x.groupDepth(), 1);
  }

  private static void localMeanings() {
    Check.done("\\def\\a{x}{\\def\\a{y}\\a}\\a", "{y}x");
    Check.done("\\def\\a{x}{\\def\\a{y}\\def\\a{z}\\a}\\a", "{z}x");
    Check.done("\\def\\a{x}{\\def\\a{y}{\\def\\a{z}\\a}\\a}\\a", "{{z}y}x");
    Check.done("\\def\\a{x}{{\\def\\a{z}\\a}\\a}\\a", "{{z}x}x");
    Check.done("\\def\\a{x}{\\let\\a b\\a\\endgroup\\a", "{bx");
    Check.done("\\def\\a{x}\\let\\e}{\\let\\a b\\a\\e\\a", "{b}x");
    Check.done("{\\let\\fi\\iftrue\\fi}\\fi", "{}");
    TexMacroExpander x = Check.done("\\def\\a#1.{[#1]}{\\def\\a{y}}", "{}");
    Check.macro(x, "a", 1, "#1.", "[#1]");
    x = Check.done("\\let\\a!{\\def\\a{y}}", "{}");
    Check.same("kind", x.meaningKind(14), TexMacroExpander.M_LETCHAR);
    Check.same("value", x.meaningValue(14), 6 * 128 + '!');
    x = Check.done("{\\def\\a{y}", "{");
    Check.macro(x, "a", 0, "", "y");
    // Each group that closes has its own saves: the second one starts anew.
    Check.done("\\def\\a{x}{\\def\\a{y}}{\\def\\a{z}}\\a", "{}{}x");
  }

  private static void globalMeanings() {
    Check.done("\\def\\a{x}{\\gdef\\a{y}\\a}\\a", "{y}y");
    Check.done("\\def\\a{x}{\\glet\\a y\\a}\\a", "{y}y");
    Check.done("\\def\\a{x}{\\def\\a{y}{\\def\\a{z}\\gdef\\a{w}\\a}\\a}\\a", "{{w}w}w");
    Check.done("\\def\\a{x}{\\gdef\\a{w}\\def\\a{y}\\a}\\a", "{y}w");
    Check.done("\\def\\a{x}{\\def\\a{y}\\gdef\\a{w}\\def\\a{z}\\a}\\a", "{z}w");
    Check.done("\\def\\a{x}{\\def\\a{y}{\\glet\\a w}\\a}\\a", "{{}w}w");
    // A global assignment touches its own item only.
    Check.done("\\def\\a{x}\\def\\b{u}{\\def\\a{y}\\def\\b{v}\\gdef\\a{w}}\\a\\b", "{}wu");
    // A cs that has the primitive's meaning is as good as the primitive.
    Check.done("\\let\\g\\gdef{\\g\\a{w}}\\a", "{}w");
  }

  private static void catcodes() {
    TexMacroExpander x = Check.done("{\\catcode!5}", "{}");
    Check.same("back", x.catcode('!'), 6);
    x = Check.done("{\\gcatcode!5}", "{}");
    Check.same("stays", x.catcode('!'), 5);
    x = Check.done("{\\catcode!1{\\catcode!2\\gcatcode!3}}", "{{}}");
    Check.same("stays", x.catcode('!'), 3);
    x = Check.done("{\\catcode!1{\\catcode!2}", "{{}");
    Check.same("of the outer group", x.catcode('!'), 1);
    x = Check.done("{\\gcatcode!3\\catcode!5}", "{}");
    Check.same("of the global one", x.catcode('!'), 3);
    x = Check.done("{\\catcode!1\\catcode?2\\gcatcode!3}", "{}");
    Check.same("one", x.catcode('!'), 3);
    Check.same("the other", x.catcode('?'), 6);
    x = Check.done("\\catcode!5{", "{");
    Check.same("at depth 0", x.catcode('!'), 5);
    x = Check.done("{\\catcode\\\u00005}{\\catcode\\\u007f5}", "{}{}");
    Check.same("char 0 is back", x.catcode(0), 7);
    Check.same("char 127 is back", x.catcode(127), 7);
    // The items 'meaning of name 0' and 'catcode of char 0' are two.
    x = Check.done("{\\let\\def a\\catcode\\\u00005\\gcatcode\\\u00004}\\def\\x{y}\\x", "{}y");
    Check.same("char 0", x.catcode(0), 4);
  }

  private static void namesMadeInside() {
    TexMacroExpander x = Check.done("{\\def\\a{y}\\gdef\\b{z}{\\def\\c{u}}\\glet\\d w}", "{{}}");
    Check.same("names stay in the table", x.nameCount(), 18);
    Check.undefined(x, "a");
    Check.macro(x, "b", 0, "", "z");
    Check.undefined(x, "c");
    Check.same("kind of d", x.meaningKind(Check.index(x, "d")), TexMacroExpander.M_LETCHAR);
    Check.gives("{\\def\\a{y}}\\a", TexMacroExpander.E_UNDEFINED, "{}");
  }

  private static void fullSaves() {
    Check.same("saves of 32 items", catcodeChanges(32, "").status(), TexMacroExpander.S_DONE);
    // 32 saves exist: a 33rd item gives an error and is not changed.
    TexMacroExpander x = catcodeChanges(32, "\\x~5");
    Check.same("33 saves", x.status(), TexMacroExpander.E_SAVE_FULL);
    Check.same("nothing changes", x.catcode('~'), 6);
    x = catcodeChanges(32, "\\let\\x a");
    Check.same("33 saves", x.status(), TexMacroExpander.E_SAVE_FULL);
    Check.same("nothing changes", x.meaningValue(Check.index(x, "x")), 7);
    x = catcodeChanges(32, "\\def\\y{a}");
    Check.same("33 saves", x.status(), TexMacroExpander.E_SAVE_FULL);
    Check.undefined(x, "y");
    // No save is needed for what is saved already, for a global assignment, or at depth 0.
    x = catcodeChanges(32, "\\x!4\\gdef\\y{a}");
    Check.same("status", x.status(), TexMacroExpander.S_DONE);
    Check.same("changed again", x.catcode('!'), 4);
    Check.macro(x, "y", 0, "", "a");
    x = catcodeChanges(32, "}\\def\\y{a}");
    Check.same("status", x.status(), TexMacroExpander.S_DONE);
    Check.macro(x, "y", 0, "", "a");
    Check.same("back", x.catcode('!'), 6);
    // A level's saves make room again when it closes; those of outer levels count along.
    x = catcodeChanges(31, "{\\x~5}{\\x~5}");
    Check.same("status", x.status(), TexMacroExpander.S_DONE);
    x = catcodeChanges(32, "{\\x!5");
    Check.same("saved at another level", x.status(), TexMacroExpander.E_SAVE_FULL);
    x = catcodeChanges(31, "{\\x!1\\x!2\\gcatcode!3}\\x~5");
    Check.same("status", x.status(), TexMacroExpander.S_DONE);
    Check.same("of the global one", x.catcode('!'), 3);
  }

  /** Opens a group and changes the catcodes of that many chars, from ! on, in it. */
  private static TexMacroExpander catcodeChanges(int count, String more) {
    StringBuilder text = new StringBuilder("\\let\\x\\catcode{");
    String chars = "!\"$%&'()*+,-./:;<=>?@[]^_`|ABCDE";
    for (int i = 0; i < count; i++) {
      text.append("\\x").append(letterSafe(chars.charAt(i))).append('6');
    }
    return Check.ran(text + more);
  }

  /** A letter behind a control word would join it. */
  private static String letterSafe(char c) {
    return c >= 'A' && c <= 'Z' ? " " + c : "" + c;
  }
}
