/** Promise 3: expandafter and begingroup, under the short names \xa and \bg. */
public final class Promise03ExpandAfterTest {
  public static void main(String[] args) {
    expansions();
    chains();
    conditionals();
    errors();
    groups();
    Check.end();
  }

  private static TexMacroExpander gives(String text, int status, String output) {
    TexMacroExpander x = ShortNames.expander(100);
    for (int i = 0; i < text.length(); i++) {
      x.feed(text.charAt(i));
    }
    Check.same("run of " + text, x.run(), status);
    Check.same("output of " + text, Check.outputChars(x), output);
    return x;
  }

  private static TexMacroExpander done(String text, String output) {
    return gives(text, TexMacroExpander.S_DONE, output);
  }

  private static void expansions() {
    done("\\def\\a#1{[#1]}\\def\\b{xy}\\a\\b", "[xy]");
    TexMacroExpander x = done("\\def\\a#1{[#1]}\\def\\b{xy}\\xa\\a\\b", "[x]y");
    Check.same("expansions", x.expansionsUsed(), 2);
    done("\\def\\b{xy}\\xa z\\b w", "zxyw");
    done("\\def\\b#1{<#1>}\\xa z\\b{w}", "z<w>");
    done("\\xa ab", "ab");
    done("\\let\\c d\\xa a\\c", "ad");
    done("\\let\\y\\xa\\def\\a#1{[#1]}\\def\\b{xy}\\y\\a\\b", "[x]y");
    // An unexpandable primitive stays as it is.
    done("\\xa\\let\\def x\\def", "x");
    x = done("\\def\\b{y}\\xa\\def\\xa\\c\\xa{\\b}", "");
    Check.macro(x, "c", 0, "", "y");
  }

  private static void chains() {
    // The classic: three of them expand the token behind two others.
    TexMacroExpander x = done("\\def\\a#1#2{[#1|#2]}\\def\\b{xy}\\xa\\a\\xa c\\b", "[c|x]y");
    Check.same("expansions", x.expansionsUsed(), 2);
    done("\\def\\b{\\c z}\\def\\c{xy}\\def\\a#1{[#1]}\\xa\\xa\\xa\\a\\b", "[x]yz");
    done("\\xa a\\xa b\\xa cd", "abcd");
    done("\\def\\a{u}\\xa 1\\xa 2\\xa 3\\a", "123u");
  }

  private static void conditionals() {
    done("\\def\\a#1{[#1]}\\xa\\a\\iftrue xy\\fi", "[x]y");
    done("\\def\\a#1{[#1]}\\xa\\a\\iffalse x\\else yz\\fi", "[y]z");
    done("\\def\\a#1{[#1]}\\xa\\a\\iffalse x\\fi yz", "[y]z");
    done("\\def\\a#1{[#1]}\\xa\\a\\ifx xx yz\\fi", "[y]z");
    done("\\def\\a#1{[#1]}\\iftrue\\xa\\a\\else x\\fi yz", "[y]z");
    TexMacroExpander x = done("\\def\\a#1{[#1]}\\iftrue\\xa\\a\\fi yz", "[y]z");
    Check.same("conditionals", x.condDepth(), 0);
  }

  private static void errors() {
    gives("\\xa", TexMacroExpander.E_RUNAWAY, "");
    gives("\\xa a", TexMacroExpander.E_RUNAWAY, "");
    gives("\\xa\\abcdefghi\\", TexMacroExpander.E_NAME_LONG, "");
    gives("\\xa a\\fi", TexMacroExpander.E_EXTRA_COND, "");
    gives("\\xa a\\zz", TexMacroExpander.E_UNDEFINED, "a");
    gives("\\def\\b#1{}\\xa a\\b", TexMacroExpander.E_RUNAWAY, "");
    gives("\\def\\b#1{}\\xa a\\b}", TexMacroExpander.E_NO_MATCH, "");
    gives("\\iftrue".repeat(8) + "\\xa a\\iftrue", TexMacroExpander.E_COND_DEEP, "");
    // The token held back counts when it comes back.
    String text = "\\def\\a#1{#1#1#1#1}\\xa y\\a{" + "x".repeat(63);
    done(text + "}", "y" + "x".repeat(252));
    gives(text + "x}", TexMacroExpander.E_PENDING_FULL, "");
  }

  private static void groups() {
    TexMacroExpander x = done("\\def\\a{x}\\bg\\def\\a{y}\\a\\endgroup\\a", "yx");
    Check.same("depth", x.groupDepth(), 0);
    x = done("\\bg\\bg}{\\endgroup", "}{");
    Check.same("depth", x.groupDepth(), 1);
    x = gives("\\bg".repeat(9), TexMacroExpander.E_GROUP_DEEP, "");
    Check.same("depth", x.groupDepth(), 8);
  }
}
