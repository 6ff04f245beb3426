import java.lang.reflect.InvocationTargetException;
import java.lang.reflect.Method;
import java.lang.reflect.Modifier;
import java.util.ArrayList;
import java.util.Comparator;
import java.util.List;
import java.util.Random;

/** No call throws, whatever its arguments and whatever went before: runs of calls drawn by fixed seeds. */
public final class NeverThrowsTest {
  private static final int RUNS = 1500;
  // Of 512, as views that are drawn take calls too.
  private static final int CALLS = 340;
  private static final long[] EXTREMES = {-1, 0, 1, 5, 6, 7, 8, 9, 40, 41, 120, 121, -9, -128, 255, 1620, 1 << 16, 1 << 30, -1 >>> 1, 1 << 31,
    1L << 31, 1L << 32, (1L << 32) + 1, -1L << 32, 1L << 62, -1L >>> 1, 1L << 63};

  public static void main(String[] args) throws IllegalAccessException {
    List<Method> face = new ArrayList<>();
    for (Method m : VeiledTable.class.getDeclaredMethods()) if (Modifier.isPublic(m.getModifiers())) face.add(m);
    // In an order of its own, so that each run is the same on every machine.
    face.sort(Comparator.comparing(Method::getName));
    int thrown = 0;
    for (int seed = 1; seed <= RUNS; seed++) thrown += throwsIn(face, seed);
    System.out.println("NeverThrowsTest: " + RUNS + " runs, " + thrown + " threw");
    if (thrown != 0) System.exit(1);
  }

  private static int throwsIn(List<Method> face, int seed) throws IllegalAccessException {
    Random random = new Random(seed);
    VeiledTable x = new VeiledTable();
    // Some runs are of small numbers nearly alone: so the calls come to something.
    int wild = 2 + random.nextInt(60);
    for (int n = 0; n < CALLS; n++) {
      Method m = face.get(random.nextInt(face.size()));
      if (n < 40) m = named(face, n % 2 == 0 ? "stage" : "rule");
      Object[] drawn = new Object[m.getParameterCount()];
      for (int at = 0; at < drawn.length; at++) {
        long v = random.nextInt(wild) == 0 ? EXTREMES[random.nextInt(EXTREMES.length)] : random.nextInt(4);
        if (random.nextInt(9) == 0) v = x.view(random.nextInt(3), 0, random.nextInt(6));
        if (m.getParameterTypes()[at] == long.class) drawn[at] = v;
        else drawn[at] = (int) v;
      }
      try {
        m.invoke(x, drawn);
      } catch (InvocationTargetException thrown) {
        System.out.println("seed " + seed + ", call " + n + ": " + m.getName() + List.of(drawn) + " threw " + thrown.getCause());
        return 1;
      }
    }
    return 0;
  }

  private static Method named(List<Method> face, String name) {
    for (Method m : face) if (m.getName().equals(name)) return m;
    throw new IllegalArgumentException(name);
  }
}
