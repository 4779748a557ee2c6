/** The constants of the face. */
public final class ConstantsTest {
    public static void main(String[] args) {
        if (OneHand.NONE != -1) {
            System.out.println("NONE is " + OneHand.NONE);
            System.exit(1);
        }
    }
}
