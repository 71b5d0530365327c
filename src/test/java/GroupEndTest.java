import java.util.ArrayList;
import java.util.HashMap;
import java.util.List;
import java.util.Map;
import java.util.Random;

/**
 * Promise 3, 'Consequently, whenever run closes a group': every meaning and catcode right after the close equals its
 * value right after the matching open, unless a global assignment to it happened between the two; then it equals the
 * value set by the last one. Over generated texts with fixed seeds; what holds right after a step is seen by running the
 * text up to there.
 */
public final class GroupEndTest {
  private static final int TEXTS = 500;
  // Leaves room for the last assignment and for the ends of four groups.
  private static final int LAST_START = 195;
  private static final String PRELUDE = "\\let\\g\\glet\\let\\k\\catcode\\let\\K\\gcatcode\\let\\o{\\let\\c}\\let\\e\\endgroup"
    + "\\def\\a#1.{x#1}\\let\\b y";
  private static final String[] TARGETS = {"a", "b", "fi", "1", "m", "n"};
  private static final String[] SOURCES = {"+", " x", "\\a ", "\\b ", "\\fi ", "\\m ", "\\ifx ", "\\1"};
  private static final String[] TEXT = {"{}", "{z}", "#1{#1}", "1{\\a}", "#1.{x#1}"};
  // Only their catcodes change: they stand nowhere else, so that each assignment stays the one that was written.
  private static final String CHARS = "!?~";

  private record Global(int end, String item) {}

  private final Random random;
  private final StringBuilder text = new StringBuilder(PRELUDE);
  private final List<Global> globals = new ArrayList<>();
  private final List<int[]> groups = new ArrayList<>();

  private GroupEndTest(int seed) {
    random = new Random(seed);
  }

  public static void main(String[] args) {
    int groups = 0;
    int globals = 0;
    for (int seed = 0; seed < TEXTS; seed++) {
      GroupEndTest test = new GroupEndTest(seed);
      while (test.text.length() < LAST_START) {
        test.group(0);
      }
      for (int[] group : test.groups) {
        test.compare(group[0], group[1]);
      }
      groups += test.groups.size();
      globals += test.globals.size();
    }
    System.out.println(groups + " groups, " + globals + " global assignments");
    Check.same("there are many groups", groups > 1000 && globals > 1000, true);
    Check.end();
  }

  private String pick(String... from) {
    return from[random.nextInt(from.length)];
  }

  private void group(int depth) {
    text.append(pick("{", "\\o "));
    int open = text.length();
    for (int n = 1 + random.nextInt(5); n > 0 && text.length() < LAST_START; n--) {
      if (depth < 3 && random.nextInt(4) == 0) {
        group(depth + 1);
      } else {
        assignment();
      }
    }
    text.append(pick("}", "\\c ", "\\endgroup ", "\\e "));
    groups.add(new int[] {open, text.length()});
  }

  private void assignment() {
    String target = pick(TARGETS);
    String c = "" + CHARS.charAt(random.nextInt(CHARS.length()));
    switch (random.nextInt(8)) {
      case 0 -> text.append("\\def\\").append(target).append(pick(TEXT));
      case 1, 2 -> text.append("\\let\\").append(target).append(pick(SOURCES));
      case 3, 4 -> text.append("\\k\\").append(c).append(random.nextInt(8));
      case 5 -> {
        text.append("\\gdef\\").append(target).append(pick(TEXT));
        globals.add(new Global(text.length(), target));
      }
      case 6 -> {
        text.append(pick("\\g\\", "\\glet\\")).append(target).append(pick(SOURCES));
        globals.add(new Global(text.length(), target));
      }
      default -> {
        text.append(pick("\\K\\", "\\gcatcode\\")).append(c).append(random.nextInt(8));
        globals.add(new Global(text.length(), "catcode " + c));
      }
    }
  }

  private void compare(int open, int close) {
    Map<String, String> due = itemsAfter(open);
    Map<String, String> got = itemsAfter(close);
    for (String item : got.keySet()) {
      // A name that did not exist when the group opened.
      due.putIfAbsent(item, "0/0/-1/-1");
    }
    for (Global global : globals) {
      if (global.end > open && global.end <= close) {
        due.put(global.item, itemsAfter(global.end).get(global.item));
      }
    }
    for (String item : got.keySet()) {
      Check.same(item + " after " + text.substring(0, close), got.get(item), due.get(item));
    }
  }

  /** The value of every item when the text has run up to there. */
  private Map<String, String> itemsAfter(int end) {
    TexMacroExpander x = Check.ran(text.substring(0, end));
    Check.same("status after " + text.substring(0, end), x.status(), TexMacroExpander.S_DONE);
    Map<String, String> items = new HashMap<>();
    for (int idx = 0; idx < x.nameCount(); idx++) {
      items.put(Check.name(x, idx), State.meaning(x, idx));
    }
    for (int c = 0; c < 128; c++) {
      items.put("catcode " + (char) c, "" + x.catcode(c));
    }
    return items;
  }
}
