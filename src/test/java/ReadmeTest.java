import java.io.IOException;
import java.nio.file.Files;
import java.nio.file.Path;
import java.util.ArrayList;
import java.util.List;

/** The example of README.md answers what it says there; its lines stand here word for word. */
public class ReadmeTest {
  // From README.md
  static void feedText(BucketBrigade x, String text) {
    for (int from = 0; from < text.length(); from += 20) {
      int[] five = new int[5];
      for (int i = 0; i < 20; i++) {
        int sign = from + i < text.length() ? text.charAt(from + i) : ' ';
        five[i / 4] = five[i / 4] << 8 | sign;
      }
      x.feed(five[0], five[1], five[2], five[3], five[4]);
    }
  }
  // Behind README.md

  private static List<Object> example() {
    List<Object> answers = new ArrayList<>();
    // From README.md
    BucketBrigade x = new BucketBrigade();
    feedText(x, "well 4; "
        + "lane house rate 2 most 3 burst 4 rank 1 holds 10 drops old; "
        + "lane barn under house rate 0 most 2 burst 2 rank 0 holds 5 drops new; "
        + "folk boys to barn brings 3 every 1 from 0; "
        + "raise house to 5 when full barn;");
    answers.add(x.teach());       // 0: the list has no error, and x.errorAt() is -1
    answers.add(x.pass(1));       // 2: so many pails were sent, as many as the barn may in a minute
    answers.add(x.count(11));     // 2: spare, which the well had left
    answers.add(x.lane(1, 6));    // 1: pails that wait in the barn
    answers.add(x.lender(1));     // 0: the house, as the barn has no token
    answers.add(x.pass(1));       // 2
    answers.add(x.lane(1, 11));   // 2: pails for which the barn borrowed
    answers.add(x.mean());        // 0.25: of four pails that were sent one has waited a minute
    answers.add(x.foresee(2, 8)); // 1: pails lost in all behind two more minutes
    answers.add(x.until(1));      // -1: the barn will not be empty in 80 minutes
    answers.add(x.bring(1, 4));   // 1: so many are lost of four that come by hand
    answers.add(x.pass(1));       // 2
    answers.add(x.lane(0, 1));    // 5: the rate of the house, as the order was carried out
    // Behind README.md
    return answers;
  }

  public static void main(String[] args) throws IOException {
    Bench.sentence("README.md says how to use the program");
    int compared = 0;
    List<String> readme = stripped(Files.readAllLines(Path.of("README.md")));
    List<Object> due = new ArrayList<>();
    boolean told = false;
    for (String line : stripped(Files.readAllLines(Path.of("src/test/java/ReadmeTest.java")))) {
      if (line.startsWith("// ")) {
        told = line.equals("// From README.md");
      } else if (told) {
        compared++;
        Bench.due("README.md holds <" + line + ">", readme.contains(asInReadme(line)) ? 1 : 0, 1);
        if (line.startsWith("answers.add")) due.add(line.replaceAll(".*// (-?[0-9.]+[0-9]|-?[0-9]).*", "$1"));
      }
    }
    List<Object> got = example();
    Bench.due("lines compared", compared, 29);
    Bench.due("answers", got.size(), due.size());
    for (int i = 0; i < got.size() && i < due.size(); i++) {
      Bench.due("answer " + i + ", " + got.get(i) + " for " + due.get(i), got.get(i).toString().equals(due.get(i)) ? 1 : 0, 1);
    }
    Bench.end();
  }

  private static String asInReadme(String line) {
    return line.replaceAll("answers\\.add\\((.*)\\);( *//.*)", "$1;$2");
  }

  private static List<String> stripped(List<String> lines) {
    List<String> all = new ArrayList<>();
    for (String line : lines) all.add(line.strip());
    return all;
  }
}
