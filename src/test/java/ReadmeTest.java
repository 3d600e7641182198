import java.io.IOException;
import java.nio.file.Files;
import java.nio.file.Path;
import java.util.LinkedHashMap;
import java.util.Map;
import java.util.regex.Matcher;
import java.util.regex.Pattern;

/** README.md's example: it stands here once more, line by line, and each answer is what the comment behind it says. */
public final class ReadmeTest {
    private static final Pattern TOLD = Pattern.compile("(\\w+) = .*; +// (.*)");

    public static void main(String[] args) throws IOException {
        String readme = Files.readString(Path.of("README.md"));
        int begin = readme.indexOf("```java\n") + 8;
        String example = readme.substring(begin, readme.indexOf("```", begin));
        String here = Files.readString(Path.of("src/test/java/ReadmeTest.java")).replace("\n        ", "\n");
        Check.promise(0);
        Check.due("the example stands here, too", 1, here.contains("{\n" + example) ? 1 : 0);
        Map<String, Object> answers = answers();
        Map<String, String> told = new LinkedHashMap<>();
        Matcher lines = TOLD.matcher(example);
        while (lines.find()) told.put(lines.group(1), lines.group(2).replaceFirst(": .*", ""));
        Check.due("what is told", answers.keySet().toString(), told.keySet().toString());
        told.forEach((name, says) -> Check.due(name, says, String.valueOf(answers.get(name))));
        Check.end();
    }

    private static Map<String, Object> answers() {
        RangeAnswers cache = new RangeAnswers();

        // rows: number, x, y, worth
        cache.put(0, 3, 4, 7);
        cache.put(1, 20, 4, -2);

        // queries: measure (0 count, 1 sum, 2 least, 3 most, 4 mean, 5 span, 6 kinds), then x from, to, y from, to
        long sum = cache.query(1, 0, 9, 0, 9);            // 7: the box 0-9,0-9 is a region from now on
        long asks = cache.told(2);                        // 1: how often the store was asked
        int row = cache.find(0);                          // 0: the first row of that query

        // texts are fed byte by byte; then the call that reads them says what they are
        for (char c : "room 20;writes cut".toCharArray()) cache.feed(c);
        int parts = cache.settings();                     // 2
        for (char c : "mean 0-9 *;count * * if w>5|x=3".toCharArray()) cache.feed(c);
        int done = cache.run();                           // 2
        long mean = cache.answer(0);                      // 7
        for (char c : "sum 9-3 *".toCharArray()) cache.feed(c);
        int fault = cache.run();                          // -106: -100 less the place of the fault

        // what a query would have, ask and pay; texts are told as a paper, byte by byte
        StringBuilder text = new StringBuilder();
        int length = cache.explain(0, 31, 0, 9);
        for (int i = 0; i < length; i++) text.append((char) cache.paper(i));
        String told = text.toString();                    // have 0 0-31,0-9;pay 0

        // a trace done again with other room: how much is enough to pay no more than 22 for these three boxes?
        cache.trace(0, 9, 0, 9);
        cache.trace(10, 31, 0, 9);
        cache.trace(0, 9, 0, 9);
        int room = cache.least(22);                       // 3

        // an image, to come back to
        cache.image();
        cache.take(0);
        cache.undo();
        long worth = cache.worth(0);                      // 7

        Map<String, Object> all = new LinkedHashMap<>();
        all.put("sum", sum);
        all.put("asks", asks);
        all.put("row", row);
        all.put("parts", parts);
        all.put("done", done);
        all.put("mean", mean);
        all.put("fault", fault);
        all.put("told", told);
        all.put("room", room);
        all.put("worth", worth);
        return all;
    }
}
