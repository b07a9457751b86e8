import java.io.IOException;
import java.nio.file.Files;
import java.nio.file.Path;
import java.util.Iterator;

/** The example in README.md: each call there, in its order, with the answer told behind it. */
public final class ReadmeTest {
    private static final Check CHECK = new Check();

    private static Iterator<String> told;

    public static void main(String[] args) throws IOException {
        told = Files.readAllLines(Path.of("README.md")).stream()
            .filter(line -> line.startsWith("prover.")).iterator();
        TrapProver prover = new TrapProver();
        tells("prover.emit(9, 0);", prover.emit(9, 0));
        tells("prover.emit(6, 0);", prover.emit(6, 0));
        tells("prover.emit(13, 0);", prover.emit(13, 0));
        tells("prover.begin(0, 1, 15);", prover.begin(0, 1, 15));
        tells("prover.safe();", prover.safe());
        tells("prover.traps(1);", prover.traps(1));
        tells("prover.soonest(2);", prover.soonest(2));
        tells("prover.values(2, 1);", prover.values(2, 1));
        tells("prover.canEnd();", prover.canEnd());
        tells("prover.canRunForever();", prover.canRunForever());
        tells("prover.patch(2, 7);", prover.patch(2, 7));
        tells("prover.canRunForever();", prover.canRunForever());
        CHECK.due("no call more is told", told.hasNext(), false);
        CHECK.end();
    }

    private static void tells(String call, Object answer) {
        String line = told.hasNext() ? told.next() : "nothing";
        String due = call + " // " + answer + ":";
        CHECK.due("'" + line + "' tells '" + due + "'", line.replaceAll(" +//", " //").startsWith(due), true);
    }
}
