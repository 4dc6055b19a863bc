import java.lang.reflect.Constructor;
import java.lang.reflect.Field;
import java.lang.reflect.Method;
import java.lang.reflect.Modifier;
import java.nio.file.Files;
import java.nio.file.Path;
import java.util.ArrayList;
import java.util.HashSet;
import java.util.List;
import java.util.Set;
import java.util.regex.Matcher;
import java.util.regex.Pattern;

/** The rules of LANGUAGE.md that a look at the class and its text can tell. */
public final class LanguageTest {
  private static int wrong = 0;

  private static void rule(int number, boolean kept, String what) {
    if (!kept) {
      wrong++;
      System.out.println("rule " + number + ": " + what);
    }
  }

  public static void main(String[] args) throws Exception {
    face();
    classes();
    text(Files.readString(Path.of("src/main/java/VanShelves.java")));
    System.out.println(wrong == 0 ? "language: the rules are kept" : "language: " + wrong + " breaches");
    if (wrong != 0) System.exit(1);
  }

  private static String told(Method method) {
    List<String> types = new ArrayList<>();
    for (Class<?> type : method.getParameterTypes()) types.add(type.getName());
    return method.getReturnType().getName() + " " + method.getName() + types;
  }

  private static void face() throws Exception {
    Set<String> due = new HashSet<>();
    Pattern line = Pattern.compile("public (\\w+) (\\w+)\\((.*)\\);");
    for (String text : Files.readAllLines(Path.of("../shared/DOC.md"))) {
      Matcher found = line.matcher(text.trim());
      if (!found.matches()) continue;
      List<String> types = new ArrayList<>();
      for (String parameter : found.group(3).split(", ")) if (!parameter.isEmpty()) types.add(parameter.split(" ")[0]);
      due.add(found.group(1) + " " + found.group(2) + types);
    }
    rule(1, due.size() == 42, "the document's face has " + due.size() + " methods");
    Set<String> has = new HashSet<>();
    for (Method method : VanShelves.class.getDeclaredMethods()) {
      if (method.isSynthetic()) continue;
      if (Modifier.isPublic(method.getModifiers())) has.add(told(method));
      else rule(1, Modifier.isPrivate(method.getModifiers()), method.getName() + " is visible");
    }
    rule(1, has.equals(due), "the face differs: " + has + " " + due);
    for (Field field : VanShelves.class.getDeclaredFields()) {
      rule(1, Modifier.isPrivate(field.getModifiers()) || field.getName().equals("NONE"), field.getName() + " is visible");
    }
    for (Constructor<?> made : VanShelves.class.getDeclaredConstructors()) rule(1, made.getParameterCount() == 0, "constructor");
    rule(1, Modifier.isFinal(VanShelves.class.getModifiers()), "the class is final");
  }

  private static void classes() {
    Set<String> face = new HashSet<>();
    for (Method method : VanShelves.class.getMethods()) face.add(method.getName());
    List<Class<?>> all = new ArrayList<>(List.of(VanShelves.class.getDeclaredClasses()));
    rule(11, all.size() + 1 <= 12, all.size() + 1 + " classes");
    for (Class<?> inside : all) {
      rule(1, Modifier.isStatic(inside.getModifiers()) && !Modifier.isPublic(inside.getModifiers()), inside + " static, not public");
      for (Method method : inside.getDeclaredMethods()) rule(1, !face.contains(method.getName()), method + " has a name of the face");
    }
    all.add(VanShelves.class);
    for (Class<?> one : all) {
      int fields = 0;
      for (Field field : one.getDeclaredFields()) {
        if (Modifier.isStatic(field.getModifiers())) rule(5, Modifier.isFinal(field.getModifiers()), field + " is not final");
        else fields++;
      }
      rule(11, fields <= 20, one + " has " + fields + " fields");
      for (Method method : one.getDeclaredMethods()) {
        rule(11, method.getParameterCount() <= 7, method + " has many parameters");
        if (method.isSynthetic()) rule(2, false, method + " is made by javac");
        boolean shared = one == VanShelves.class && Modifier.isPrivate(method.getModifiers());
        rule(1, !shared || !face.contains(method.getName()), method + " has a name of the face");
      }
    }
  }

  private static void text(String source) {
    String bare = source.replaceAll("(?s)/\\*.*?\\*/", "").replaceAll("//[^\n]*", "");
    for (String word : "throw throws try catch finally synchronized assert instanceof var record enum double float".split(" ")) {
      rule(6, !Pattern.compile("\\b" + word + "\\b").matcher(bare).find(), word + " stands there");
    }
    for (String sign : new String[] {"->", "::", "@", "Exact", "\"", "][", "null"}) rule(4, !bare.contains(sign), sign + " stands there");
    Matcher call = Pattern.compile("\\b(Arrays|Integer|Math|System|Long)\\.(\\w+)").matcher(bare);
    while (call.find()) {
      boolean listed = List.of("Arrays.fill", "Integer.bitCount", "Math.max", "Math.min", "Math.abs").contains(call.group());
      rule(4, listed, call.group() + " is used");
    }
    Matcher imported = Pattern.compile("import (.*);").matcher(bare);
    while (imported.find()) rule(4, imported.group(1).equals("java.util.Arrays"), "import " + imported.group(1));
    rule(9, !Pattern.compile("\\bwhile\\b").matcher(bare).find(), "a while without a counter");
    for (char c : source.toCharArray()) rule(4, c < 128, "a sign beyond 127");
    int start = 0;
    String[] lines = source.split("\n");
    for (int i = 0; i < lines.length; i++) {
      if (lines[i].matches("( {4}| {8})\\w[^=;]*\\) \\{")) start = i;
      if (lines[i].matches("( {4}| {8})\\}")) rule(11, i - start <= 60 || lines[i].equals("    }"), "long method at line " + start);
    }
  }
}
