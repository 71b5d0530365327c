import java.lang.reflect.Field;

/**
 * Gives the primitives 'expandafter' and 'begingroup' short names. No input can reach them by their own
 * names, which are too long, so this is the only way to test what they do.
 */
final class ShortNames {
  static final String[] LONG = {"def", "gdef", "let", "glet", "expandafter", "begingroup", "endgroup",
    "catcode", "gcatcode", "iftrue", "iffalse", "ifx", "else", "fi"};
  static final String[] SHORT = {"def", "gdef", "let", "glet", "xa", "bg", "endgroup", "catcode",
    "gcatcode", "iftrue", "iffalse", "ifx", "else", "fi"};

  private ShortNames() {}

  static TexMacroExpander expander(int limit) {
    TexMacroExpander x = new TexMacroExpander(limit);
    rename(x, 4, "xa");
    rename(x, 5, "bg");
    return x;
  }

  private static void rename(TexMacroExpander x, int idx, String name) {
    int[] chars = array(x, "nameChars");
    int[] lengths = array(x, "nameLengths");
    lengths[idx] = name.length();
    for (int i = 0; i < name.length(); i++) {
      chars[idx * (chars.length / lengths.length) + i] = name.charAt(i);
    }
  }

  private static int[] array(TexMacroExpander x, String name) {
    try {
      Field field = TexMacroExpander.class.getDeclaredField(name);
      field.setAccessible(true);
      return (int[]) field.get(x);
    } catch (ReflectiveOperationException e) {
      throw new IllegalStateException(e);
    }
  }
}
