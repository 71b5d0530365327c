import java.lang.reflect.Field;
import java.lang.reflect.Modifier;
import java.util.Map;
import java.util.TreeMap;

/** The public constants have the values that the document gives them, and there are no others. */
public final class ConstantsTest {
  private static final String[] CATEGORIES = {"ESCAPE", "BEGIN", "END", "PARAM", "SPACE", "LETTER", "OTHER", "IGNORED"};
  private static final String[] MEANINGS = {"UNDEFINED", "PRIMITIVE", "MACRO", "LETCHAR"};
  private static final String[] STATUSES = {"S_FRESH", "S_DONE", "E_UNDEFINED", "E_RUNAWAY", "E_NAME_LONG", "E_NAME_FULL",
    "E_BAD_DEF", "E_TOO_LONG", "E_NO_MATCH", "E_EXTRA_END", "E_GROUP_DEEP", "E_SAVE_FULL", "E_COND_DEEP", "E_EXTRA_COND",
    "E_BAD_CATCODE", "E_OUTPUT_FULL", "E_PENDING_FULL", "E_EXPANSIONS"};

  public static void main(String[] args) throws IllegalAccessException {
    Map<String, Integer> due = new TreeMap<>();
    number(due, "CAT_", CATEGORIES);
    number(due, "M_", MEANINGS);
    number(due, "", STATUSES);
    Map<String, Integer> got = new TreeMap<>();
    for (Field field : TexMacroExpander.class.getFields()) {
      int flags = field.getModifiers();
      Check.same(field + " is a constant", Modifier.isStatic(flags) && Modifier.isFinal(flags), true);
      Check.same(field + " is an int", field.getType() == int.class, true);
      got.put(field.getName(), field.getInt(null));
    }
    Check.same("the constants", got.toString(), due.toString());
    Check.end();
  }

  private static void number(Map<String, Integer> due, String prefix, String[] names) {
    for (int i = 0; i < names.length; i++) {
      due.put(prefix + names[i], i);
    }
  }
}
