import java.io.IOException;
import java.nio.file.Files;
import java.nio.file.Path;
import java.util.regex.Matcher;
import java.util.regex.Pattern;

/** The calls in README.md answer what is written behind them, and what it says of refused calls holds. */
public final class ReadmeTest {
    private static final Pattern CALL = Pattern.compile("bench\\.(\\w+)\\((.*)\\); +// (-?\\d+)[:,].*");
    private static final Pattern TEXT = Pattern.compile("for \\(char c : \"(.*)\"\\.toCharArray\\(\\)\\) \\{");

    public static void main(String[] args) throws IOException {
        StringBuilder calls = new StringBuilder();
        int found = 0;
        for (String line : Files.readAllLines(Path.of("README.md"))) {
            Matcher call = CALL.matcher(line);
            Matcher text = TEXT.matcher(line);
            if (call.matches()) {
                found++;
                calls.append(call.group(1)).append('(').append(call.group(2).replace(" ", "")).append(")=")
                    .append(call.group(3)).append(' ');
            } else if (text.matches()) {
                calls.append("write(").append(text.group(1)).append(") ");
            }
        }
        Calls.expect(found == 7, "README.md has 7 calls with answers, found " + found);
        Calls.run("README.md", calls.toString());
        Calls.run("README.md: two refused calls change something",
            "write(p&) parse(0)=-102 clearText()=0 write(p) parse(6)=NO_SUCH_ELEMENT clearText()=0",
            "reset(0,2)=1 allocate(0,2,3)=3 storeElements(0,0)=OUT_OF_BOUNDS rowElement(0,1)=1 rowElement(0,2)=2",
            "rowElement(0,3)=NOTHING");
        Calls.run("README.md: negative answers that are no refusals",
            "allocate(0,0,1)=1 put(0,0,-6)=1 rowElement(0,0)=-6 generate(0)=2 term(0,2)=NONE term(1,3)=NONE");
        Calls.run("README.md: loadOrder is not refused by a pair",
            "reset(0,2)=1 allocate(0,0,4)=4 put(0,1,1)=1 put(0,2,1)=1 loadOrder(0,0)=1 failure()=2");
        Calls.end();
    }
}
