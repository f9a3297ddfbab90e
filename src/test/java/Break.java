import java.util.Set;

/** One place of the program's text, what it is broken to, and the boundary tests that must fail then. */
record Break(String text, String instead, Set<String> tests) {
}
