import java.util.List;
import java.util.Set;
import java.util.TreeSet;
import java.util.function.ToIntFunction;
import java.util.regex.Pattern;

/** Sees what a call changes: of two objects made alike one gets the call, and both are asked all that can be asked. */
final class Changed {
    private Changed() {
    }

    /**
     * The answers that change are those told and no other. A star stands for any number; each of those told must
     * change at least one answer.
     */
    static void just(String name, Towns town, ToIntFunction<TermLodgings> call, int due, String... told) {
        Set<String> missing = new TreeSet<>(List.of(told));
        for (List<Questions.Question> part : Questions.PARTS) {
            TermLodgings with = town.made();
            TermLodgings without = town.made();
            Due.due(name + " (" + town + ")", call.applyAsInt(with), due);
            for (Questions.Question question : part) {
                if (question.of(with) != question.of(without)) {
                    String fits = tellingOf(question.call(), told);
                    Due.due(name + " (" + town + ") changes " + question.call(), fits.isEmpty() ? 1 : 0, 0);
                    missing.remove(fits);
                }
            }
        }
        Due.due(name + " (" + town + ") has not changed " + missing, missing.size(), 0);
    }

    private static String tellingOf(String call, String... told) {
        for (String telling : told) {
            if (call.matches(Pattern.quote(telling).replace("*", "\\E[0-9]+\\Q"))) {
                return telling;
            }
        }
        return "";
    }
}
