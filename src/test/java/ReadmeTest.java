import java.io.IOException;
import java.lang.reflect.Field;
import java.lang.reflect.Method;
import java.lang.reflect.Modifier;
import java.nio.file.Files;
import java.nio.file.Path;

/** README.md names the whole public face, and its example answers what it says. */
public final class ReadmeTest {
  private static final Checker check = new Checker();
  private static String[] example;
  private static int line = 0;

  public static void main(String[] args) throws IOException {
    String readme = Files.readString(Path.of("README.md"));
    namesTheWholeFace(readme);
    example = readme.split("```java\n", 2)[1].split("```", 2)[0].split("\n");
    exampleAnswersWhatItSays();
    check.same("lines of the example that this test follows", line, example.length);
    check.end();
  }

  private static void namesTheWholeFace(String readme) {
    for (Method m : IncrAttrEval.class.getDeclaredMethods()) {
      if (Modifier.isPublic(m.getModifiers())) {
        check.same("a table has " + m, readme.contains("| `" + m.getName() + "("), true);
      }
    }
    for (Field f : IncrAttrEval.class.getDeclaredFields()) {
      if (Modifier.isPublic(f.getModifiers())) {
        check.same("the text has " + f, readme.contains("`" + f.getName() + "`"), true);
      }
    }
  }

  // The lines stand here once more as Java, and each is held against the
  // README's text, so that neither can change without the other.
  private static void exampleAnswersWhatItSays() {
    step("IncrAttrEval t = new IncrAttrEval(16);");
    IncrAttrEval t = new IncrAttrEval(16);
    step("int three = t.newNum(3);");
    int three = t.newNum(3);
    step("int x = t.newVar(0);");
    int x = t.newVar(0);
    step("int two = t.newNum(2);");
    int two = t.newNum(2);
    step("int sum = t.newOp(IncrAttrEval.ADD, x, two);");
    int sum = t.newOp(IncrAttrEval.ADD, x, two);
    answer("t.getVal(sum);", t.getVal(sum));
    step("int let = t.newLet(0, three, sum);");
    int let = t.newLet(0, three, sum);
    answer("t.setRoot(let);", t.setRoot(let));
    answer("t.getVal(let);", t.getVal(let));
    answer("t.getEnv(x, 0);", t.getEnv(x, 0));
    answer("t.isBound(three, 0);", t.isBound(three, 0));
    step("int ten = t.newNum(10);");
    int ten = t.newNum(10);
    answer("t.replace(three, ten);", t.replace(three, ten));
    answer("t.getVal(let);", t.getVal(let));
    answer("t.getErrs(three);", t.getErrs(three));
    answer("t.replace(let, sum);", t.replace(let, sum));
    answer("t.newVar(8);", t.newVar(8));
    answer("t.replace(let, three);", t.replace(let, three));
    answer("t.getVal(three);", t.getVal(three));
    answer("t.getDepth(let);", t.getDepth(let));
  }

  private static String step(String code) {
    String[] parts = (line < example.length ? example[line] : "").split("//", 2);
    line++;
    check.same("line " + line + " of the example", parts[0].trim(), code);
    return parts.length == 2 ? parts[1].trim() : "";
  }

  private static void answer(String code, Object got) {
    String said = step(code).split("[:,]", 2)[0];
    check.same("what the README says of " + code, said, String.valueOf(got));
  }
}
