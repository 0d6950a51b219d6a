/** Counts and prints the answers that are not the ones that are due. */
final class Due {
  private final String about;
  private int wrong = 0;
  private long asked = 0;

  Due(String about) {
    this.about = about;
  }

  void is(String call, long got, long want) {
    asked++;
    if (got == want) return;
    wrong++;
    if (wrong <= 50) System.out.println(about + ": " + call + " answered " + got + ", due is " + want);
  }

  void holds(String what, boolean so) {
    is(what, so ? 1 : 0, 1);
  }

  /** Ends the program with exit code 1 if an answer was wrong. */
  void end() {
    System.out.println(about + ": " + asked + " answers, " + wrong + " not as due");
    if (wrong != 0) System.exit(1);
  }
}
