import java.lang.reflect.Constructor;
import java.lang.reflect.Field;
import java.lang.reflect.Method;
import java.lang.reflect.Modifier;
import java.util.Set;
import java.util.TreeSet;

/** The public face: nothing is missing in it, and nothing more is to be seen. */
public final class FaceTest {
  public static void main(String[] args) {
    Check.due("BAD", TextIndices.BAD, -1);
    Check.due("NO", TextIndices.NO, -2);
    Check.due("FULL", TextIndices.FULL, -3);
    Set<String> seen = new TreeSet<>();
    for (Field field : TextIndices.class.getDeclaredFields()) {
      if (!Modifier.isPrivate(field.getModifiers())) {
        seen.add(field.toString());
      }
    }
    for (Method method : TextIndices.class.getDeclaredMethods()) {
      if (!Modifier.isPrivate(method.getModifiers())) {
        seen.add(method.toString());
      }
    }
    for (Constructor<?> constructor : TextIndices.class.getDeclaredConstructors()) {
      seen.add(constructor.toString());
    }
    seen.add(Modifier.toString(TextIndices.class.getModifiers()));
    Set<String> due = new TreeSet<>(Set.of(
        "public final",
        "public TextIndices()",
        "public static final int TextIndices.BAD",
        "public static final int TextIndices.NO",
        "public static final int TextIndices.FULL",
        "public int TextIndices.type(long,int)",
        "public int TextIndices.text(int,int)",
        "public int TextIndices.remove(int)",
        "public int TextIndices.stop(int)",
        "public int TextIndices.ending(int)",
        "public int TextIndices.stem(int)",
        "public int TextIndices.ask(int,int)",
        "public int TextIndices.answer(int)",
        "public long TextIndices.score(int)",
        "public int TextIndices.like(int,int)",
        "public int TextIndices.word(int)",
        "public int TextIndices.at(int)",
        "public int TextIndices.place(int,int,int)",
        "public int TextIndices.texts()",
        "public int TextIndices.stems(int)"));
    if (!seen.equals(due)) {
      System.out.println("the face is " + seen);
    }
    Check.due("the face is the document's", seen.equals(due) ? 1 : 0, 1);
    Check.finish();
  }
}
