/** The constants, and a new object (promise 1). */
public final class FaceTest {
    public static void main(String[] args) {
        Harness.due(1, "NONE", PacketField.NONE, -1);
        Harness.due(1, "FULL", PacketField.FULL, -2);
        Harness.due(1, "STATE", PacketField.STATE, -3);
        Harness.finish();
    }
}
