import java.util.ArrayList;
import java.util.List;

/**
 * All that calls can tell of an object. The object is spent by it: THE TAPE is read, the ROW judged, and
 * ON is called at the end. It takes few enough calls that an object stays below its 512, and asks for nothing
 * that is refused before it has seen all (but for HIDERS that came late), so that what a refused call may have
 * done wrong is not done by the look itself.
 */
final class Look {
    private static final int CALLS = 320;

    private final List<String> names = new ArrayList<>();
    private final List<Integer> answers = new ArrayList<>();

    Look(InTheGarden x) {
        refusals(x);
        counts(x);
        garden(x);
        told(x);
        finds(x);
        // A ROW and THE TAPE can be read only by using them up.
        tell("judge()", x.count(7) > 0 ? x.judge() : 0);
        tell("garden()", x.garden());
        counts(x);
        ends(x);
        tell("on()", x.on());
        counts(x);
        told(x);
        finds(x);
        ends(x);
        Check.isTrue("a look takes " + answers.size() + " calls", answers.size() <= CALLS);
    }

    private void tell(String name, int answer) {
        names.add(name);
        answers.add(answer);
    }

    private void refusals(InTheGarden x) {
        for (int what = 11; what <= 16; what++) {
            tell("count(" + what + ")", x.count(what));
        }
    }

    private void counts(InTheGarden x) {
        for (int what = 0; what <= 7; what++) {
            tell("count(" + what + ")", x.count(what));
        }
    }

    private void garden(InTheGarden x) {
        int places = x.count(0);
        for (int place = 0; place < places; place++) {
            for (int what = 0; what < 4; what++) {
                tell("place(" + place + ", " + what + ")", x.place(place, what));
            }
            for (int other = 0; other < places; other++) {
                tell("sees(" + place + ", " + other + ")", x.sees(place, other));
            }
            for (int other = place + 1; other < places; other++) {
                tell("far(" + place + ", " + other + ")", x.far(place, other));
            }
            tell("cover(" + place + ", 1, 2)", place == 0 ? 0 : x.cover(place, 1, 2));
        }
        int hiders = x.count(2);
        for (int hider = 0; hider < hiders; hider++) {
            tell("hider(" + hider + ", 0)", x.hider(hider, 0));
            tell("hider(" + hider + ", 1)", x.hider(hider, 1));
            for (int place = 1; place < places; place += 3) {
                tell("run(" + hider + ", " + place + ")", x.run(hider, place));
            }
        }
    }

    /** SETTINGS are told and put back; the ORDER shows in ROUNDS in mind. */
    private void told(InTheGarden x) {
        int[] least = {1, 0, 0, 0, 0, 10, 0};
        for (int what = 0; what < 7; what++) {
            int was = x.set(what, least[what]);
            tell("set(" + what + ")", was);
            tell("set(" + what + ") back", x.set(what, was));
        }
        for (int what = 0; what < 4; what++) {
            tell("mind(1, " + what + ")", x.mind(1, what));
            tell("mind(-7, " + what + ")", x.mind(-7, what));
        }
    }

    private void finds(InTheGarden x) {
        int last = x.count(7) > 0 ? 8 : -1;
        for (int i = 0; i <= last; i++) {
            tell("found(" + i + ")", x.found(i));
        }
    }

    private void ends(InTheGarden x) {
        int hiders = x.count(7) > 0 ? x.count(2) : 0;
        for (int hider = 0; hider < hiders; hider++) {
            for (int what = 0; what < 3; what++) {
                tell("of(" + hider + ", " + what + ")", x.of(hider, what));
            }
        }
    }

    /**
     * What is otherwise than in another look, where the one differs by one refusal (0: by none): nothing,
     * if all is as due.
     */
    String otherThan(Look before, int refusal) {
        for (int i = 0; i < Math.min(answers.size(), before.answers.size()); i++) {
            int due = before.answers.get(i) + (i < 6 && i == -refusal - 1 ? 1 : 0);
            if (answers.get(i) != due) {
                return names.get(i) + " is " + answers.get(i) + ", was to be " + due;
            }
        }
        return answers.size() == before.answers.size() ? "" : "it has " + answers.size() + " answers";
    }
}
