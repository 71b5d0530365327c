import java.lang.reflect.Constructor;
import java.lang.reflect.Field;
import java.lang.reflect.Method;
import java.lang.reflect.Modifier;
import java.util.Map;
import java.util.Set;
import java.util.TreeMap;
import java.util.TreeSet;

/** The public face: each member is there as the document has it, each constant has its value, and there is no other. */
public final class PublicFaceTest {
  private static final String[] CATEGORIES = {"ESCAPE", "BEGIN", "END", "PARAM", "SPACE", "LETTER", "OTHER", "IGNORED"};
  private static final String[] MEANINGS = {"UNDEFINED", "PRIMITIVE", "MACRO", "LETCHAR"};
  private static final String[] STATUSES = {"S_FRESH", "S_DONE", "E_UNDEFINED", "E_RUNAWAY", "E_NAME_LONG", "E_NAME_FULL",
    "E_BAD_DEF", "E_TOO_LONG", "E_NO_MATCH", "E_EXTRA_END", "E_GROUP_DEEP", "E_SAVE_FULL", "E_COND_DEEP", "E_EXTRA_COND",
    "E_BAD_CATCODE", "E_OUTPUT_FULL", "E_PENDING_FULL", "E_EXPANSIONS"};
  private static final Set<String> METHODS = new TreeSet<>(Set.of("public boolean feed(int)", "public int run()",
    "public int status()", "public int expansionsUsed()", "public int outputLength()", "public int outputToken(int)",
    "public int catcode(int)", "public int groupDepth()", "public int condDepth()", "public int nameCount()",
    "public int nameLength(int)", "public int nameChar(int,int)", "public int meaningKind(int)",
    "public int meaningValue(int)", "public int macroTextLength(int,int)", "public int macroTextToken(int,int,int)"));

  public static void main(String[] args) throws IllegalAccessException {
    theClass();
    constants();
    methods();
    Check.end();
  }

  private static void theClass() {
    Class<?> face = TexMacroExpander.class;
    Check.same("modifiers of the class", face.getModifiers(), Modifier.PUBLIC | Modifier.FINAL);
    Check.same("the class's name, without a package", face.getName(), "TexMacroExpander");
    Check.same("what it extends", face.getSuperclass().getName(), "java.lang.Object");
    Check.same("interfaces", face.getInterfaces().length, 0);
    Constructor<?>[] constructors = face.getDeclaredConstructors();
    Check.same("constructors", constructors.length, 1);
    Check.same("the constructor", constructors[0].toString(), "public TexMacroExpander(int)");
  }

  private static void constants() throws IllegalAccessException {
    Map<String, Integer> due = new TreeMap<>();
    number(due, "CAT_", CATEGORIES);
    number(due, "M_", MEANINGS);
    number(due, "", STATUSES);
    Map<String, Integer> got = new TreeMap<>();
    for (Field field : TexMacroExpander.class.getDeclaredFields()) {
      if (Modifier.isPrivate(field.getModifiers())) {
        continue;
      }
      Check.same("kind of " + field.getName(), Modifier.toString(field.getModifiers()) + " " + field.getType(),
        "public static final int");
      got.put(field.getName(), field.getInt(null));
    }
    Check.same("the constants", got.toString(), due.toString());
  }

  private static void number(Map<String, Integer> due, String prefix, String[] names) {
    for (int i = 0; i < names.length; i++) {
      due.put(prefix + names[i], i);
    }
  }

  private static void methods() {
    Set<String> got = new TreeSet<>();
    for (Method method : TexMacroExpander.class.getDeclaredMethods()) {
      if (!Modifier.isPrivate(method.getModifiers())) {
        got.add(method.toString().replace("TexMacroExpander.", ""));
      }
    }
    Check.same("the methods", got.toString(), METHODS.toString());
  }
}
