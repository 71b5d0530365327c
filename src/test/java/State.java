/** All that can be read from an object, as one text: to compare what two objects hold, or one at two times. */
final class State {
  private State() {}

  static String of(TexMacroExpander x) {
    return "status " + x.status() + ", expansions " + x.expansionsUsed() + ", " + work(x);
  }

  /** All but the status and the number of expansions. */
  static String work(TexMacroExpander x) {
    StringBuilder all = new StringBuilder();
    all.append("groups ").append(x.groupDepth()).append(", conditionals ").append(x.condDepth());
    all.append(", output");
    for (int i = 0; i < x.outputLength(); i++) {
      all.append(' ').append(x.outputToken(i));
    }
    all.append(", catcodes ");
    for (int c = 0; c < 128; c++) {
      all.append(x.catcode(c));
    }
    all.append(", names");
    for (int idx = 0; idx < x.nameCount(); idx++) {
      all.append(' ').append(Check.name(x, idx)).append('=').append(meaning(x, idx));
    }
    return all.toString();
  }

  static String meaning(TexMacroExpander x, int idx) {
    StringBuilder all = new StringBuilder();
    all.append(x.meaningKind(idx)).append('/').append(x.meaningValue(idx));
    for (int part = 0; part <= 1; part++) {
      all.append('/').append(x.macroTextLength(idx, part));
      for (int i = 0; i < x.macroTextLength(idx, part); i++) {
        all.append(',').append(x.macroTextToken(idx, part, i));
      }
    }
    return all.toString();
  }
}
