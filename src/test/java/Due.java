/** Counts the answers that are not as they are due, and tells each. */
final class Due {
  private int wrong = 0;
  private int all = 0;
  private String part = "";

  void part(String name) {
    part = name;
  }

  void is(String call, long got, long want) {
    all++;
    if (got == want) return;
    wrong++;
    System.out.println(part + ": " + call + " answered " + got + ", due is " + want);
  }

  void isSo(String what, boolean so) {
    is(what, so ? 1 : 0, 1);
  }

  void end(String name) {
    System.out.println(name + ": " + all + " answers, " + wrong + " wrong");
    if (wrong != 0 || all == 0) System.exit(1);
  }
}
