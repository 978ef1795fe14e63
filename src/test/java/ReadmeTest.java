import java.io.IOException;
import java.nio.file.Files;
import java.nio.file.Path;
import java.util.ArrayList;
import java.util.Arrays;
import java.util.HashSet;
import java.util.List;
import java.util.Set;
import java.util.regex.Matcher;
import java.util.regex.Pattern;

/** Runs the programs of README.md, each row "x.call(1, 2);  // answer", from the project's directory. */
public final class ReadmeTest {
    private static final Pattern NEW = Pattern.compile("ScanMachine x = new ScanMachine\\(\\);");
    private static final Pattern CALL = Pattern.compile("x\\.(\\w+)\\(([-0-9, ]*)\\);\\s+// (BAD|ZERO|INDEX|-?\\d+)(:.*)?");
    private static final Set<String> FACE = Set.of("begin", "unit", "add", "start", "scan", "set", "get", "count");

    public static void main(String[] args) throws IOException {
        Check check = new Check("ReadmeTest");
        Set<String> asked = new HashSet<>();
        ScanMachine x = new ScanMachine();
        for (String row : rowsOfPrograms(Files.readAllLines(Path.of("README.md")))) {
            Matcher call = CALL.matcher(row);
            if (NEW.matcher(row).matches()) {
                x = new ScanMachine();
            } else if (call.matches()) {
                asked.add(call.group(1));
                check.same(row, answer(x, call.group(1), numbers(call.group(2))), due(call.group(3)));
            } else {
                check.same("README.md: " + row + ": a call with its answer", 0, 1);
            }
        }
        for (String name : FACE) {
            check.same("README.md calls " + name + "()", asked.contains(name) ? 1 : 0, 1);
        }
        check.end();
    }

    private static List<String> rowsOfPrograms(List<String> lines) {
        List<String> rows = new ArrayList<>();
        boolean inside = false;
        for (String line : lines) {
            if (line.startsWith("```")) {
                inside = line.equals("```java");
            } else if (inside) {
                rows.add(line);
            }
        }
        return rows;
    }

    private static int[] numbers(String told) {
        return Arrays.stream(told.split(", ")).filter(each -> !each.isEmpty()).mapToInt(Integer::parseInt).toArray();
    }

    private static int due(String told) {
        return switch (told) {
            case "BAD" -> ScanMachine.BAD;
            case "ZERO" -> ScanMachine.ZERO;
            case "INDEX" -> ScanMachine.INDEX;
            default -> Integer.parseInt(told);
        };
    }

    private static int answer(ScanMachine x, String name, int[] told) {
        return switch (name + told.length) {
            case "begin1" -> x.begin(told[0]);
            case "unit2" -> x.unit(told[0], told[1]);
            case "add4" -> x.add(told[0], told[1], told[2], told[3]);
            case "start0" -> x.start();
            case "scan1" -> x.scan(told[0]);
            case "set2" -> x.set(told[0], told[1]);
            case "get1" -> x.get(told[0]);
            case "count1" -> x.count(told[0]);
            default -> Integer.MIN_VALUE;
        };
    }
}
