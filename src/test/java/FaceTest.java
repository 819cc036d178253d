import java.lang.reflect.Field;
import java.lang.reflect.Method;
import java.lang.reflect.Modifier;
import java.util.Arrays;
import java.util.Set;
import java.util.TreeSet;

/** The public face of the document, and the rules of LANGUAGE.md that a loaded class shows. */
public final class FaceTest {
  private static final Checker check = new Checker();

  public static void main(String[] args) {
    constantsHaveTheirValues();
    membersAreTheFaceAlone();
    fieldsKeepToTheRules();
    methodsKeepToTheRules();
    check.end();
  }

  private static void constantsHaveTheirValues() {
    check.same("NONE", IncrAttrEval.NONE, -1);
    check.same("NUM", IncrAttrEval.NUM, 1);
    check.same("VAR", IncrAttrEval.VAR, 2);
    check.same("ADD", IncrAttrEval.ADD, 3);
    check.same("SUB", IncrAttrEval.SUB, 4);
    check.same("MUL", IncrAttrEval.MUL, 5);
    check.same("LET", IncrAttrEval.LET, 6);
    check.same("NAMES", IncrAttrEval.NAMES, 8);
    check.same("MIN_CAP", IncrAttrEval.MIN_CAP, 8);
    check.same("MAX_CAP", IncrAttrEval.MAX_CAP, 32);
  }

  private static void membersAreTheFaceAlone() {
    Class<?> c = IncrAttrEval.class;
    check.same("public and final", c.getModifiers(), Modifier.PUBLIC | Modifier.FINAL);
    check.same("nested classes", c.getDeclaredClasses().length, 0);
    check.same("constructors", Arrays.toString(c.getDeclaredConstructors()), "[public IncrAttrEval(int)]");
    Set<String> shown = new TreeSet<>();
    for (Method m : c.getDeclaredMethods()) {
      if (!Modifier.isPrivate(m.getModifiers())) {
        shown.add(m.toString().replace("IncrAttrEval.", ""));
      }
    }
    for (Field f : c.getDeclaredFields()) {
      if (!Modifier.isPrivate(f.getModifiers())) {
        shown.add(f.toString().replace("IncrAttrEval.", ""));
      }
    }
    Set<String> due = new TreeSet<>(Arrays.asList(
      "public int newNum(int)", "public int newVar(int)", "public int newOp(int,int,int)",
      "public int newLet(int,int,int)", "public boolean setRoot(int)", "public boolean replace(int,int)",
      "public int getRoot()", "public int nodeCount()", "public int getKind(int)", "public int getParent(int)",
      "public int getVal(int)", "public int getErrs(int)", "public int getSize(int)", "public int getDepth(int)",
      "public int getEnv(int,int)", "public boolean isBound(int,int)"));
    for (String name : "NONE NUM VAR ADD SUB MUL LET NAMES MIN_CAP MAX_CAP".split(" ")) {
      due.add("public static final int " + name);
    }
    check.same("members that are not private", shown.toString(), due.toString());
  }

  private static void fieldsKeepToTheRules() {
    int own = 0;
    for (Field f : IncrAttrEval.class.getDeclaredFields()) {
      Class<?> type = f.getType();
      Class<?> plain = type.isArray() ? type.getComponentType() : type;
      check.same(f + ": of a plain type", plain.isPrimitive() && plain != float.class && plain != double.class, true);
      if (Modifier.isStatic(f.getModifiers())) {
        check.same(f + ": a constant", Modifier.isFinal(f.getModifiers()) && !type.isArray(), true);
      } else {
        own++;
      }
    }
    check.same("at most forty fields", own <= 40, true);
  }

  private static void methodsKeepToTheRules() {
    Set<String> publicNames = new TreeSet<>();
    for (Method m : IncrAttrEval.class.getMethods()) {
      publicNames.add(m.getName());
    }
    for (Method m : IncrAttrEval.class.getDeclaredMethods()) {
      check.same(m + ": at most seven parameters", m.getParameterCount() <= 7, true);
      check.same(m + ": answers no array", m.getReturnType().isArray(), false);
      if (Modifier.isPrivate(m.getModifiers())) {
        check.same(m + ": bears no public name", publicNames.contains(m.getName()), false);
      }
    }
  }
}
