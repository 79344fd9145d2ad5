import java.lang.reflect.Constructor;
import java.lang.reflect.Field;
import java.lang.reflect.Method;
import java.lang.reflect.Modifier;
import java.util.ArrayList;
import java.util.Collections;
import java.util.List;

/** The public face is the document's, and nothing more. */
public final class FaceTest {
  private static final String FACE =
      "ahead 2,as 2,bears 2,began 0,blocks 2,change 3,copy 5,count 1,days 1,deed 2,ends 1,"
          + "enemy 2,falls 1,feed 2,hang 1,heat 2,hold 2,hours 1,ice 2,image 0,judge 2,key 0,"
          + "kindFor 1,law 1,least 2,lie 1,load 1,nail 1,now 1,of 2,opened 2,place 1,renew 1,"
          + "seed 1,sheet 3,shelf 3,soonest 0,status 1,summer 1,sun 1,swap 1,tear 0,text 0,"
          + "undo 0,war 0,wipe 0,worst 2,write 3";

  public static void main(String[] args) {
    Check check = new Check("face");
    check.that("public and final", Modifier.isPublic(WaxTreaties.class.getModifiers())
        && Modifier.isFinal(WaxTreaties.class.getModifiers()));
    List<String> face = new ArrayList<>();
    List<String> names = new ArrayList<>();
    for (Method method : WaxTreaties.class.getDeclaredMethods()) {
      if (!Modifier.isPrivate(method.getModifiers())) {
        face.add(method.getName() + " " + method.getParameterCount());
        names.add(method.getName());
        check.that(method + " answers an int", method.getReturnType() == int.class);
        check.that(method + " is public, not static",
            Modifier.isPublic(method.getModifiers()) && !Modifier.isStatic(method.getModifiers()));
        for (Class<?> type : method.getParameterTypes()) {
          check.that(method + " takes ints", type == int.class);
        }
      }
    }
    Collections.sort(face);
    check.that("methods are " + face, String.join(",", face).equals(FACE));
    for (Method method : WaxTreaties.class.getDeclaredMethods()) {
      if (Modifier.isPrivate(method.getModifiers())) {
        check.that(method + " bears a public name", !names.contains(method.getName()));
      }
    }
    for (Field field : WaxTreaties.class.getDeclaredFields()) {
      check.that(field + " is private", Modifier.isPrivate(field.getModifiers()));
    }
    Constructor<?>[] constructors = WaxTreaties.class.getDeclaredConstructors();
    check.that("one public constructor", constructors.length == 1
        && Modifier.isPublic(constructors[0].getModifiers())
        && constructors[0].getParameterCount() == 0);
    for (Class<?> inside : WaxTreaties.class.getDeclaredClasses()) {
      check.that(inside + " is static, not public", Modifier.isStatic(inside.getModifiers())
          && !Modifier.isPublic(inside.getModifiers())
          && !Modifier.isProtected(inside.getModifiers()));
    }
    check.end();
  }
}
