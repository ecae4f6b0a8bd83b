import java.io.IOException;
import java.nio.file.Files;
import java.nio.file.Path;
import java.util.ArrayList;
import java.util.Arrays;
import java.util.HashMap;
import java.util.List;
import java.util.Map;

/**
 * Each sentence that a test of a boundary names stands in the document, in the section of its promise or in the terms;
 * and each line there is named by such tests, but for what names no boundary.
 */
final class DocTest {
    private static final Path DOC = Path.of("../shared/DOC.md");
    private static final String TERMS = "the terms";

    private static final List<List<Edge>> TESTS = List.of(MeasuresEdgeTest.EDGES, ChangesEdgeTest.EDGES,
            ValuesEdgeTest.EDGES, SoundsEdgeTest.EDGES, OrderEdgeTest.EDGES, SentencesEdgeTest.EDGES, TextEdgeTest.EDGES,
            ReadingEdgeTest.EDGES, WhatIfEdgeTest.EDGES, UndoEdgeTest.EDGES);

    private static final List<String> WITHOUT_BOUNDARY = List.of("measure: number of a measure", "and", "The constants",
            "what later calls answer is free", "All numbers are whole, but for seconds(). floor(a / b) rounds towards "
            + "minus infinity", "MEASURES", "WHAT NOTES SOUND", "REPEATS", "SENTENCES", "READING BACK", "UNDO",
            "EXCEPTIONS");

    private final Map<String, List<String>> lines = new HashMap<>();

    public static void main(String[] args) throws IOException {
        if (!Files.exists(DOC)) {
            System.out.println("no " + DOC + ": the sentences are not looked up");
            return;
        }
        DocTest doc = new DocTest();
        doc.read(Files.readAllLines(DOC));
        doc.findSentences();
        doc.findLines();
        Check.end();
    }

    /** The backticks, the marks of lists and the heads of the methods are left out. */
    private void read(List<String> all) {
        String section = TERMS;
        boolean inCode = false;
        for (String line : all) {
            if (line.startsWith("```")) {
                inCode = !inCode;
            } else if (line.startsWith("#")) {
                section = sectionOf(line);
            } else if (!inCode && !line.isBlank() && !section.isEmpty()) {
                String plain = line.replaceFirst("^- ", "").replaceFirst("^`[^`]*\\(.*?\\)[^`]*`: ", "").replace("`", "");
                lines.computeIfAbsent(section, name -> new ArrayList<>()).add(plain);
            }
        }
    }

    private static String sectionOf(String heading) {
        if (heading.startsWith("## Promise ")) {
            return heading.substring(11, heading.indexOf(':'));
        }
        return heading.equals("## The public face") || heading.equals("## Not promised") ? "" : TERMS;
    }

    private void findSentences() {
        for (List<Edge> edges : TESTS) {
            for (Edge edge : edges) {
                boolean found = stands("" + edge.promise(), edge.sentence()) || stands(TERMS, edge.sentence());
                Check.isTrue("promise " + edge.promise() + " or the terms say \"" + edge.sentence() + "\"", found);
            }
        }
    }

    private boolean stands(String section, String sentence) {
        return lines.getOrDefault(section, List.of()).stream().anyMatch(line -> line.contains(sentence));
    }

    private void findLines() {
        for (Map.Entry<String, List<String>> section : lines.entrySet()) {
            for (String line : section.getValue()) {
                char[] left = line.toCharArray();
                for (List<Edge> edges : TESTS) {
                    for (Edge edge : edges) {
                        if (section.getKey().equals(TERMS) || section.getKey().equals("" + edge.promise())) {
                            strike(line, edge.sentence(), left);
                        }
                    }
                }
                isNamed(section.getKey(), new String(left));
            }
        }
    }

    private static void strike(String line, String sentence, char[] left) {
        for (int from = line.indexOf(sentence); from >= 0; from = line.indexOf(sentence, from + 1)) {
            Arrays.fill(left, from, from + sentence.length(), '|');
        }
    }

    private static void isNamed(String section, String left) {
        for (String piece : left.split("\\|+")) {
            String words = piece.replaceAll("^[ ,;:.()]+|[ ,;:.()]+$", "");
            boolean without = words.isEmpty() || WITHOUT_BOUNDARY.contains(words) || words.startsWith("Ahead of the calls")
                    || words.startsWith("Music read aloud");
            Check.isTrue("promise " + section + ": a test for \"" + words + "\"", without);
        }
    }
}
