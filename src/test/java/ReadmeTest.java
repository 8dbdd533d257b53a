/** What README.md shows and says must be so. */
public final class ReadmeTest extends Checks {
    public static void main(String[] args) {
        promise(14);
        TypesAtPrime t = new TypesAtPrime();
        feed(t, "x^6-27");
        due("text(0)", t.text(0), 6);
        due("grow(0)", t.grow(0), 2);
        due("tree(2)", t.tree(2), 9);
        dueText("spelling", spelled(t), "2.1!+2.2");
        promise(5);
        due("x^9", read(t, 0, "x^9"), -102);
        due("the tape", t.count(2), 0);
        due("slot 0", t.told(0, 0), 6);
        feed(t, "x");
        due("text(5)", t.text(5), BAD);
        due("the tape", t.wipe(), 1);
        promise(24);
        due("another word", asked(t, "what"), NOT);
        due("the tape", t.count(2), 0);
        promise(2);
        t.set(0, 0, 1);
        dueText("spelling", spelled(t), "2.1!+2.2");
        due("prime(2)", t.prime(2), 3);
        due("tree(0)", t.tree(0), NONE);
        due("limit", t.count(1), 28);
        end("README.md tells what is so");
    }
}
