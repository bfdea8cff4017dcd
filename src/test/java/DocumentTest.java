import java.io.IOException;
import java.lang.reflect.Constructor;
import java.lang.reflect.Field;
import java.lang.reflect.Method;
import java.lang.reflect.Modifier;
import java.util.Set;
import java.util.TreeSet;

/** The whole document, sentence after sentence as it stands there; words without a test would be seen. */
public final class DocumentTest {
    public static void main(String[] args) throws IOException {
        Check check = new Check();
        Document document = new Document(check);
        whatItIs(check, document);
        publicFace(check, document);
        document.heading("## Terms");
        new DocumentTerms(check, document).walk();
        new DocumentTexts(check, document).walk();
        new DocumentPromises(check, document).walk();
        notPromised(document);
        document.end();
        check.end();
    }

    private static void whatItIs(Check check, Document document) {
        document.heading("# SwitchLevels ## What it is");
        document.sentence("Works out networks of switches: read from a text, with inputs, nodes that hold a charge of some "
            + "size, and transistors of some strength, of which each may be on, off or unsure; what a node comes to follows "
            + "from the strongest ways on which others reach it, step by step until nothing changes, also with faults put in.");
        readmeExample(check);
        document.sentence("An object is used for at most 512 calls after it has been made; what later calls answer is free.");
        all512Calls(check);
    }

    /** What README.md shows, with the answers that it tells. */
    private static void readmeExample(Check check) {
        SwitchLevels x = new SwitchLevels();
        Check.writeAll(x, "i vdd\ni gnd\ni a\np a vdd y\nn a gnd y\n");
        check.due("transistors", x.load(), 2);
        check.due("vdd", x.set(0, 1), true);
        check.due("gnd", x.set(1, 0), true);
        check.due("a", x.set(2, 0), true);
        check.due("settled", x.settle(), 2);
        check.due("y", x.state(3), 1);
        check.due("y stuck", x.stick(3, 0), true);
        check.due("y then", x.state(3), 0);
        check.due("y free", x.free(3), true);
        check.due("the p jammed unsure", x.jam(0, 2), true);
        x.settle();
        check.due("vdd may reach y, which holds a 0", x.state(3), 2);
        x.set(2, 1);
        x.set(1, 1);
        x.settle();
        check.due("both ways are to a 1", x.state(3), 1);
        x.set(1, 0);
        x.settle();
        check.due("as strong a way may be to each", x.state(3), 2);
    }

    private static void all512Calls(Check check) {
        SwitchLevels x = new SwitchLevels();
        check.due("call 1", x.write(Check.pack("i v")), true);
        check.due("call 2", x.write(Check.pack("\nd v v a")), true);
        check.due("call 3", x.load(), 1);
        for (int step = 1; step <= 254; step++) {
            check.due("call " + (2 + 2 * step), x.set(0, step % 3), true);
            check.due("call " + (3 + 2 * step), x.step(), 1);
        }
        check.due("call 512", x.change(0), 128 * 254 + 4 + 254 % 3);
    }

    private static void publicFace(Check check, Document document) {
        document.heading("## The public face");
        String block = document.between("```java", "```");
        check.sentence("The public face", block);
        String open = "public final class SwitchLevels {";
        check.due("the class", block.startsWith(open) && block.endsWith("}"), true);
        Set<String> wanted = new TreeSet<>();
        for (String member : block.substring(open.length(), block.length() - 1).split(";")) {
            if (!member.isBlank()) {
                wanted.add(withoutParameterNames(member.trim()));
            }
        }
        check.due("how many members", wanted.size(), 20);
        check.due("its members", openMembers().toString(), wanted.toString());
        check.due("the class itself", Modifier.toString(SwitchLevels.class.getModifiers()), "public final");
    }

    private static String withoutParameterNames(String member) {
        return member.replaceAll("(\\w+) \\w+(?=[,)])", "$1").replace(", ", ",");
    }

    private static Set<String> openMembers() {
        Set<String> open = new TreeSet<>();
        for (Method m : SwitchLevels.class.getDeclaredMethods()) {
            addIfOpen(open, m.getModifiers(), m.toString());
        }
        for (Constructor<?> c : SwitchLevels.class.getDeclaredConstructors()) {
            addIfOpen(open, c.getModifiers(), c.toString());
        }
        for (Field f : SwitchLevels.class.getDeclaredFields()) {
            addIfOpen(open, f.getModifiers(), f + " = " + SwitchLevels.NONE);
        }
        return open;
    }

    private static void addIfOpen(Set<String> open, int modifiers, String member) {
        if (!Modifier.isPrivate(modifiers)) {
            open.add(member.replace("SwitchLevels.", ""));
        }
    }

    private static void notPromised(Document document) {
        document.heading("## Not promised");
        document.pass("How the state is held inside the object is free, as are the speed of each call, the text of toString "
            + "and the behaviour of equals and hashCode.");
        document.pass("Use of one object from several threads at once is not promised to be safe.");
        document.pass("Nothing is promised beyond the answers and state changes described above, and nothing about an object "
            + "after its 512th call.");
    }
}
