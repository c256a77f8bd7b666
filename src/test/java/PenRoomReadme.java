import java.io.IOException;
import java.net.URL;
import java.net.URLClassLoader;
import java.nio.file.Files;
import java.nio.file.Path;
import java.util.regex.Matcher;
import java.util.regex.Pattern;
import javax.tools.JavaCompiler;
import javax.tools.ToolProvider;

/** The Java code of README.md is compiled and run as one, and each call answers what is told behind it. */
public final class PenRoomReadme {
  private static final Pattern TOLD = Pattern.compile("(?:int (\\w+) = )?(.*);\\s+// (-?\\d+|true|false)(?::.*)?");
  private static final int FEWEST = 40;
  private static int answers = 0;
  private static int wrong = 0;

  /** The code of README.md calls it, from a class that is loaded apart. */
  public static void due(String call, Object got, Object want) {
    answers++;
    if (!String.valueOf(got).equals(String.valueOf(want))) {
      wrong++;
      System.out.println("README.md: " + call + " answered " + got + ", and says " + want);
    }
  }

  /** A method stands by itself; all other code is the body of one. */
  private static String program(String readme) {
    StringBuilder methods = new StringBuilder();
    StringBuilder body = new StringBuilder();
    String[] parts = readme.split("(?m)^```");
    for (int i = 1; i < parts.length; i += 2) {
      if (!parts[i].startsWith("java\n")) continue;
      String code = parts[i].substring("java\n".length());
      if (code.startsWith("static ")) methods.append(code);
      else for (String line : code.split("\n")) body.append(checked(line)).append('\n');
    }
    return "public final class ReadmeCode {\n" + methods + "public static void main(String[] args) {\n" + body + "}\n}\n";
  }

  private static String checked(String line) {
    Matcher told = TOLD.matcher(line);
    if (!told.matches()) return line;
    String call = told.group(2).trim();
    String quoted = '"' + call.replace("\\", "\\\\").replace("\"", "\\\"") + '"';
    String ask = told.group(1) == null ? call : told.group(1);
    String first = told.group(1) == null ? "" : "int " + told.group(1) + " = " + call + "; ";
    return first + "PenRoomReadme.due(" + quoted + ", " + ask + ", " + told.group(3) + ");";
  }

  private static void compileAndRun(String program, Path where) throws IOException, ReflectiveOperationException {
    Path source = where.resolve("ReadmeCode.java");
    Files.writeString(source, program);
    JavaCompiler compiler = ToolProvider.getSystemJavaCompiler();
    String classes = System.getProperty("java.class.path");
    if (compiler.run(null, null, null, "-nowarn", "-cp", classes, "-d", where.toString(), source.toString()) != 0) {
      wrong++;
      System.out.println("the code of README.md does not compile");
      return;
    }
    try (URLClassLoader loader = new URLClassLoader(new URL[] {where.toUri().toURL()})) {
      loader.loadClass("ReadmeCode").getMethod("main", String[].class).invoke(null, (Object) new String[0]);
    }
  }

  public static void main(String[] args) throws IOException, ReflectiveOperationException {
    Path where = Files.createTempDirectory("readme");
    compileAndRun(program(Files.readString(Path.of("README.md"))), where);
    for (String file : new String[] {"ReadmeCode.java", "ReadmeCode.class", ""}) Files.deleteIfExists(where.resolve(file));
    if (answers < FEWEST) {
      wrong++;
      System.out.println("README.md tells too few answers: how the class is used is not all there");
    }
    System.out.println(answers + " answers told by README.md, " + wrong + " wrong");
    if (wrong != 0) System.exit(1);
  }
}
