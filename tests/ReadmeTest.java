import java.nio.file.Files;
import java.nio.file.Path;
import java.util.ArrayList;
import java.util.HashSet;
import java.util.List;
import java.util.Set;
import java.util.regex.Matcher;
import java.util.regex.Pattern;

/** What README.md says of the class: each line of its example is answered as told there, and its table names the whole face. */
public final class ReadmeTest {
  private static final Pattern LINE = Pattern.compile("x\\.(\\w+\\(.*?\\)); +// (-?\\w+).*");
  private static final Pattern HEX = Pattern.compile("0x([0-9A-F]{8})");

  public static void main(String[] args) throws Exception {
    List<String> readme = Files.readAllLines(Path.of("README.md"));
    List<String> script = new ArrayList<>();
    Set<String> named = new HashSet<>();
    for (String line : readme) {
      Matcher call = LINE.matcher(line);
      if (call.matches()) script.add(plain(call.group(1)) + " = " + call.group(2));
      else if (line.startsWith("x.")) throw new IllegalStateException("no answer is told: " + line);
      if (line.startsWith("| ")) named.addAll(quoted(line));
    }
    if (script.size() < 20) throw new IllegalStateException("the example has " + script.size() + " calls");
    Script.holds("README.md's example", script.toArray(new String[0]));
    Set<String> face = new HashSet<>();
    for (var method : VanShelves.class.getMethods()) if (method.getDeclaringClass() == VanShelves.class) face.add(method.getName());
    if (!named.equals(face)) throw new IllegalStateException("README.md's table names " + named + ", the face is " + face);
    Script.end("readme");
  }

  private static String plain(String call) {
    return HEX.matcher(call.replace("VanShelves.", "")).replaceAll(hex -> Integer.toString(Integer.parseUnsignedInt(hex.group(1), 16)));
  }

  private static Set<String> quoted(String line) {
    Set<String> words = new HashSet<>();
    Matcher word = Pattern.compile("`(\\w+)`").matcher(line);
    while (word.find()) words.add(word.group(1));
    return words;
  }
}
