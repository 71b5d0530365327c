import java.util.Random;

/** Compares the class with the model over generated texts. The seeds are fixed, so it is always the same. */
public final class ModelTest {
  private static final int TEXTS = 60000;
  private static final String[] PIECES = {"\\a", "\\b", "\\c", "\\1", "\\!", "\\a ", "\\b ", "\\aa ", "x", "y", "ab",
    "a", "b", ".", "..", ",", "!", "?", "1", "2", " ", "  ", "{", "}", "{}", "{x}", "{{y}.}", "#", "##", "#1", "#2",
    "\\iftrue ", "\\iffalse ", "\\ifx", "\\ifx\\a\\b", "\\ifx xx", "\\else ", "\\else ", "\\fi ", "\\fi ",
    "\\endgroup ", "\\bg ", "\\xa ", "\\xa\\a", "\\xa ", "\\xa ", "\\let", "\\let\\b\\a", "\\glet\\a\\b", "\\let\\c{",
    "\\let\\b}", "\\let\\a", "\\glet\\c\\fi ", "\\let\\a\\iffalse ", "\\def", "\\gdef", "\\catcode", "\\let\\a\\zz ",
    "\\", "\u0000", "\\let\\b\\gdef "};
  private static final String[] PARAMETERS = {"", "", "#1", "#1", "#1#2", "#1.", "#1..", ".#1", "#1.#2", "#1ab", "x",
    " #1 ", "#1\\b", "#1#2,", "#1 ", "#2", "#1#2#3#4#5#6#7#8", "12345678"};
  private static final String[] REPLACEMENTS = {"{}", "{x}", "{.y}", "{x{y}z}", "{\\fi}", "{\\iftrue}", "{\\iffalse.}",
    "{\\b}", "{\\else}", "{\\c..}", "{\\def\\b}", "{\\let\\c}", "{\\catcode!}", "{\\xa}", "{\\bg}", "{\\endgroup}"};
  private static final String[] LONG_TEXT = {"1", "2", ".", "a", "\\b", "\\c "};
  private static final String ITEMS = "!\"$%&'()*+,-./:;<=>?@[]^_`|~0123456789";
  private static final String[] NAMES_IN_USE = {"\\a", "\\b", "\\c", "\\1"};
  private static final String[] NAMES = {"\\a", "\\b", "\\c", "\\1", "\\!", "\\aa", "\\fi", "\\x"};

  private final Random random;
  private final StringBuilder text = new StringBuilder();

  private ModelTest(long seed) {
    random = new Random(seed);
  }

  public static void main(String[] args) {
    int[] seen = new int[18];
    int texts = args.length > 0 ? Integer.parseInt(args[0]) : TEXTS;
    for (int seed = 0; seed < texts; seed++) {
      seen[compare(seed, new ModelTest(seed).write(seed))]++;
    }
    for (int status = 1; status < seen.length; status++) {
      System.out.println("status " + status + " came " + seen[status] + " times");
      Check.same("status " + status + " came at all", seen[status] > 0, true);
    }
    Check.end();
  }

  private String write(int seed) {
    int most = seed % 3 == 0 ? 256 : 20 + random.nextInt(236);
    if (seed % 5 == 0) {
      many();
    } else if (seed % 4 != 0) {
      // With the usual names defined, a text goes further before it stops.
      for (String name : NAMES_IN_USE) {
        text.append("\\def").append(name).append(pick(PARAMETERS)).append(pick(REPLACEMENTS));
      }
    }
    while (text.length() < most) {
      piece(0);
    }
    text.setLength(Math.min(text.length(), 256));
    return text.toString();
  }

  private String pick(String[] from) {
    return from[random.nextInt(from.length)];
  }

  private void piece(int depth) {
    int choice = random.nextInt(20);
    if (choice < 3) {
      definition(depth);
    } else if (choice == 3) {
      text.append(random.nextBoolean() ? "\\catcode" : "\\gcatcode").append(random.nextBoolean() ? "\\" : " ")
        .append("!?.,x1{}# a\\".charAt(random.nextInt(12))).append(random.nextInt(random.nextInt(4) == 0 ? 9 : 8));
    } else if (choice < 6 && depth < 3) {
      text.append('{');
      pieces(depth + 1);
      text.append('}');
    } else if (choice == 6 && depth < 3) {
      text.append(random.nextBoolean() ? "\\iftrue " : "\\iffalse ");
      pieces(depth + 1);
      text.append("\\else ");
      pieces(depth + 1);
      text.append("\\fi ");
    } else {
      text.append(pick(PIECES));
    }
  }

  private void pieces(int depth) {
    for (int n = random.nextInt(4); n > 0; n--) {
      piece(depth);
    }
  }

  private void definition(int depth) {
    text.append(random.nextInt(3) == 0 ? "\\gdef" : "\\def").append(pick(NAMES)).append(pick(PARAMETERS)).append('{');
    for (int n = random.nextInt(6); n > 0; n--) {
      if (random.nextInt(3) == 0) {
        text.append("#1");
      } else if (depth < 2) {
        piece(depth + 2);
      }
    }
    text.append('}');
  }

  /** Starts the text with many of something, to come near the bounds. */
  private void many() {
    switch (random.nextInt(12)) {
      case 0 -> {
        text.append("\\def\\a#1{").append("#1".repeat(1 + random.nextInt(8))).append("}");
        text.append("\\a{").append("x".repeat(20 + random.nextInt(60))).append("}");
      }
      case 1 -> {
        text.append("\\def\\b#1").append(random.nextBoolean() ? "." : "#2.").append("{#1}\\def\\a#1{\\b#1#1#1#1}\\a{")
          .append("x".repeat(50 + random.nextInt(15))).append("}");
        if (random.nextBoolean()) {
          text.append('{').append("y".repeat(random.nextInt(40))).append('}');
        }
        text.append("z".repeat(random.nextInt(40))).append('.');
      }
      case 2 -> text.append("{".repeat(5 + random.nextInt(5)));
      case 3 -> text.append("\\iftrue".repeat(6 + random.nextInt(4)));
      case 4 -> longDefinition();
      case 5 -> manyLevels();
      case 6 -> manyArguments();
      case 7 -> text.append("\\def\\a#1{#1#1#1#1}\\a{").append("x".repeat(61 + random.nextInt(4))).append("}");
      case 8 -> text.append("\\let\\").append("abcdefghij", 0, 7 + random.nextInt(3)).append(pick(PIECES));
      case 9 -> {
        text.append("\\let\\x\\catcode{");
        for (int n = 20 + random.nextInt(15); n > 0; n--) {
          text.append("\\x").append((char) (n < 26 ? ' ' + n : ':' + n - 26)).append(random.nextInt(2) + 5);
        }
      }
      case 10 -> {
        text.append("\\iffalse");
        for (int n = 14 + random.nextInt(6); n > 0; n--) {
          text.append('\\').append((char) ('A' + n));
        }
        text.append("\\fi ");
      }
      default -> text.append("\\def\\a{\\a\\b}\\def\\b#1{#1}\\a");
    }
  }

  /** Texts of about 8 and about 24 tokens. */
  private void longDefinition() {
    text.append("\\def\\a");
    int markers = 0;
    for (int n = 7 + random.nextInt(3); n > 0; n--) {
      if (random.nextInt(4) == 0) {
        markers++;
        text.append('#').append(random.nextInt(20) == 0 ? markers + 1 : markers);
      } else {
        text.append(pick(LONG_TEXT));
      }
    }
    text.append('{');
    for (int n = 23 + random.nextInt(3); n > 0; n--) {
      text.append(random.nextInt(8) == 0 ? "##" : pick(LONG_TEXT));
    }
    text.append('}');
  }

  /** About 32 saves over some levels. */
  private void manyLevels() {
    text.append("\\let\\x\\catcode ");
    int levels = 1 + random.nextInt(4);
    int item = random.nextInt(ITEMS.length());
    for (int level = 0; level < levels; level++) {
      text.append('{');
      for (int n = 32 / levels - 1 + random.nextInt(3); n > 0; n--) {
        item += random.nextInt(8) == 0 ? 2 : 1;
        text.append("\\x").append(ITEMS.charAt(item % ITEMS.length())).append(6);
      }
    }
  }

  /** Some delimited arguments, with and without braces, of about 256 tokens in all. */
  private void manyArguments() {
    text.append("\\def\\b").append("#1.#2.#3.#4.", 0, 3 * (2 + random.nextInt(3))).append("{}\\def\\a#1{\\b");
    text.append(random.nextBoolean() ? "#1#1#1#1" : "{#1#1#1#1}").append(random.nextBoolean() ? "." : "");
    text.append("}\\a{").append("x".repeat(60)).append('}');
    int left = 14 + random.nextInt(5);
    while (left > 0) {
      int length = Math.min(left, 1 + random.nextInt(16));
      String part = "y".repeat(length);
      text.append(random.nextBoolean() ? part : "{" + part + "}").append(random.nextInt(4) == 0 ? "" : ".");
      left -= length;
    }
    text.append("....");
  }

  /** Answers the status that both ended with. */
  private static int compare(int seed, String text) {
    boolean shortNames = seed % 2 == 0;
    int limit = seed % 7 == 0 ? seed % 130 - 10 : 100;
    TexMacroExpander x = shortNames ? ShortNames.expander(limit) : new TexMacroExpander(limit);
    Model model = new Model(limit, text, shortNames ? ShortNames.SHORT : ShortNames.LONG);
    for (int i = 0; i < text.length(); i++) {
      x.feed(text.charAt(i));
    }
    int status = x.run();
    model.run();
    Check.same("state after seed " + seed + ": " + text, state(x), state(model));
    return status;
  }

  private static String state(TexMacroExpander x) {
    StringBuilder state = new StringBuilder();
    state.append(x.status()).append(' ').append(x.expansionsUsed()).append(' ').append(x.groupDepth()).append(' ')
      .append(x.condDepth()).append('\n');
    for (int i = 0; i < x.outputLength(); i++) {
      state.append(x.outputToken(i)).append(' ');
    }
    for (int c = 0; c < 128; c++) {
      state.append(x.catcode(c));
    }
    for (int idx = 0; idx < x.nameCount(); idx++) {
      state.append('\n').append(Check.name(x, idx)).append(' ').append(x.meaningKind(idx)).append(' ')
        .append(x.meaningValue(idx));
      for (int part = 0; part < 2; part++) {
        state.append(" :");
        for (int i = 0; i < x.macroTextLength(idx, part); i++) {
          state.append(' ').append(x.macroTextToken(idx, part, i));
        }
      }
    }
    return state.toString();
  }

  private static String state(Model model) {
    StringBuilder state = new StringBuilder();
    state.append(model.status).append(' ').append(model.expansions).append(' ').append(model.groups.size()).append(' ')
      .append(model.conditionals.size()).append('\n');
    for (int token : model.output) {
      state.append(token).append(' ');
    }
    for (int cat : model.cats) {
      state.append(cat);
    }
    for (int idx = 0; idx < model.names.size(); idx++) {
      Model.Meaning meaning = model.meanings.get(idx);
      state.append('\n').append(model.names.get(idx)).append(' ').append(meaning.kind()).append(' ')
        .append(meaning.value()).append(" :");
      meaning.parameters().forEach(token -> state.append(' ').append(token));
      state.append(" :");
      meaning.replacement().forEach(token -> state.append(' ').append(token));
    }
    return state.toString();
  }
}
