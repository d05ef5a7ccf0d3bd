/** Counts what was as due and what wasn't. */
final class Tally {
  private final String about;
  private int passed = 0;
  private int failed = 0;

  Tally(String about) {
    this.about = about;
  }

  void due(String what, long got, long want) {
    is(what + " answered " + got + ", due is " + want, got == want);
  }

  void is(String what, boolean so) {
    if (so) {
      passed++;
      return;
    }
    failed++;
    if (failed <= 40) System.out.println(about + ": " + what);
  }

  /** Prints the counts and ends the program with exit code 1 if anything failed. */
  void close() {
    System.out.println(about + ": " + passed + " passed, " + failed + " failed");
    if (failed != 0 || passed == 0) System.exit(1);
  }
}
