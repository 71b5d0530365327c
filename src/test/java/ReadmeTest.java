import java.io.ByteArrayOutputStream;
import java.io.IOException;
import java.io.PrintStream;
import java.net.URL;
import java.net.URLClassLoader;
import java.nio.file.Files;
import java.nio.file.Path;
import java.util.regex.Matcher;
import java.util.regex.Pattern;
import javax.tools.ToolProvider;

/** The examples of README.md compile, and print what stands under them. Runs in the project's folder. */
public final class ReadmeTest {
  private static final Pattern EXAMPLE = Pattern.compile("```java\n(.*?)```.*?```text\n(.*?)```", Pattern.DOTALL);

  public static void main(String[] args) throws IOException, ReflectiveOperationException {
    Matcher example = EXAMPLE.matcher(Files.readString(Path.of("README.md")));
    int count = 0;
    while (example.find()) {
      count++;
      Check.same("example " + count, printedBy(count, example.group(1)), example.group(2));
    }
    Check.same("examples", count, 2);
    Check.end();
  }

  private static String printedBy(int number, String example) throws IOException, ReflectiveOperationException {
    String name = "ReadmeExample" + number;
    Path folder = Files.createTempDirectory("readme");
    Path source = folder.resolve(name + ".java");
    Path compiled = folder.resolve(name + ".class");
    Files.writeString(source, "public class " + name + " { public static void main(String[] args) {\n" + example + "}}");
    try {
      int code = ToolProvider.getSystemJavaCompiler().run(null, null, null, "-cp", System.getProperty("java.class.path"),
        "-d", folder.toString(), source.toString());
      return code == 0 ? printedByClass(name, folder) : "(does not compile)";
    } finally {
      Files.deleteIfExists(compiled);
      Files.delete(source);
      Files.delete(folder);
    }
  }

  private static String printedByClass(String name, Path folder) throws IOException, ReflectiveOperationException {
    PrintStream usual = System.out;
    ByteArrayOutputStream printed = new ByteArrayOutputStream();
    try (URLClassLoader loader = new URLClassLoader(new URL[] {folder.toUri().toURL()})) {
      System.setOut(new PrintStream(printed, true));
      loader.loadClass(name).getMethod("main", String[].class).invoke(null, (Object) new String[0]);
    } finally {
      System.setOut(usual);
    }
    return printed.toString().replace(System.lineSeparator(), "\n");
  }
}
