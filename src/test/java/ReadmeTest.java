import java.io.IOException;
import java.nio.file.Files;
import java.nio.file.Path;
import java.util.ArrayList;
import java.util.Comparator;
import java.util.List;
import java.util.stream.Stream;

/** Who follows README.md word for word gets what it says; run in the folder of the project. */
public final class ReadmeTest {
    private static final Checks CHECKS = new Checks();

    /** A part of the page between two lines of three backticks, with the word behind the first of them. */
    private record Part(String kind, String content) { }

    public static void main(String[] args) throws IOException, InterruptedException {
        List<Part> parts = parts(Files.readAllLines(Path.of("README.md")));
        example(parts);
        commands(parts);
        CHECKS.end("ReadmeTest");
    }

    private static List<Part> parts(List<String> page) {
        List<Part> parts = new ArrayList<>();
        String kind = "";
        StringBuilder content = new StringBuilder();
        for (String line : page) {
            boolean isFence = line.startsWith("```");
            if (!isFence && !kind.isEmpty()) {
                content.append(line).append('\n');
            } else if (isFence && kind.isEmpty()) {
                kind = line.substring(3);
            } else if (isFence) {
                parts.add(new Part(kind, content.toString()));
                kind = "";
                content.setLength(0);
            }
        }
        return parts;
    }

    private static void example(List<Part> parts) throws IOException {
        CHECKS.begin("the example is the one of the page");
        List<String> programs = new ArrayList<>();
        for (Part part : parts) {
            if (part.kind().equals("java")) {
                programs.add(part.content());
            }
        }
        CHECKS.due(List.of(Files.readString(Path.of("src/example/java/Example.java"))), programs);
    }

    /** Commands with a text behind them print this text. */
    private static void commands(List<Part> parts) throws IOException, InterruptedException {
        int tried = 0;
        for (int at = 0; at + 1 < parts.size(); at++) {
            if (parts.get(at).kind().equals("sh") && parts.get(at + 1).kind().equals("text")) {
                CHECKS.begin(parts.get(at).content());
                CHECKS.due(parts.get(at + 1).content(), printed(parts.get(at).content()));
                tried++;
            }
        }
        CHECKS.begin("commands of the page");
        CHECKS.due(3, tried);
    }

    /** What commands print in a fresh copy of the project's sources. */
    private static String printed(String commands) throws IOException, InterruptedException {
        Path folder = Files.createTempDirectory("readme");
        try {
            copy(Path.of("src"), folder.resolve("src"));
            Process process = new ProcessBuilder("sh", "-e", "-c", commands).directory(folder.toFile())
                .redirectErrorStream(true).start();
            process.getOutputStream().close();
            String printed = new String(process.getInputStream().readAllBytes());
            CHECKS.due(0, process.waitFor());
            return printed;
        } finally {
            remove(folder);
        }
    }

    private static List<Path> under(Path folder) throws IOException {
        try (Stream<Path> found = Files.walk(folder)) {
            return found.toList();
        }
    }

    private static void copy(Path from, Path to) throws IOException {
        for (Path path : under(from)) {
            Files.copy(path, to.resolve(from.relativize(path)));
        }
    }

    private static void remove(Path folder) throws IOException {
        List<Path> paths = new ArrayList<>(under(folder));
        paths.sort(Comparator.reverseOrder());
        for (Path path : paths) {
            Files.delete(path);
        }
    }
}
