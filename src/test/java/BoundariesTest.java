/** The promises, clause by clause: what is refused and what is answered at the boundaries that they name. */
public final class BoundariesTest {
    public static void main(String[] args) {
        Checks checks = new Checks("BoundariesTest");
        new Returns(checks).all();
        new Refusals(checks).all();
        checks.allSaid("Promise 1:", "Promise 30:");
        checks.allSaid("Exceptions", "Exceptions");
        checks.finish();
    }
}
