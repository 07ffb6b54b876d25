import java.nio.ByteBuffer;
import java.nio.ByteOrder;
import java.security.GeneralSecurityException;
import java.security.MessageDigest;
import javax.crypto.Cipher;
import javax.crypto.Mac;
import javax.crypto.spec.ChaCha20ParameterSpec;
import javax.crypto.spec.SecretKeySpec;

/** The document's SEALING by the Java library's own SHA-256, HMAC and ChaCha20. */
final class Seals {
    final int[] key;
    final int[] mark;

    Seals(long seed) {
        key = sha((int) (seed >>> 32), (int) seed, 1);
        mark = sha((int) (seed >>> 32), (int) seed, 2);
    }

    static int[] sha(int... words) {
        try {
            byte[] digest = MessageDigest.getInstance("SHA-256").digest(bytes(words, ByteOrder.BIG_ENDIAN));
            return words(digest, ByteOrder.BIG_ENDIAN);
        } catch (GeneralSecurityException e) {
            throw new IllegalStateException(e);
        }
    }

    /** The tag of words 0 .. 39. */
    int[] tag(int[] blob) {
        try {
            Mac mac = Mac.getInstance("HmacSHA256");
            mac.init(new SecretKeySpec(bytes(mark, ByteOrder.BIG_ENDIAN), "HmacSHA256"));
            int[] head = java.util.Arrays.copyOf(blob, 40);
            return words(mac.doFinal(bytes(head, ByteOrder.BIG_ENDIAN)), ByteOrder.BIG_ENDIAN);
        } catch (GeneralSecurityException e) {
            throw new IllegalStateException(e);
        }
    }

    /** The 32 words that a page's words are exclusive or with. */
    int[] stream(int upper, int lower) {
        try {
            Cipher cipher = Cipher.getInstance("ChaCha20");
            byte[] nonce = bytes(new int[] {0, upper, lower}, ByteOrder.LITTLE_ENDIAN);
            SecretKeySpec spec = new SecretKeySpec(bytes(key, ByteOrder.LITTLE_ENDIAN), "ChaCha20");
            cipher.init(Cipher.ENCRYPT_MODE, spec, new ChaCha20ParameterSpec(nonce, 1));
            return words(cipher.doFinal(new byte[128]), ByteOrder.LITTLE_ENDIAN);
        } catch (GeneralSecurityException e) {
            throw new IllegalStateException(e);
        }
    }

    /** A whole BLOB of 48 words. */
    int[] blob(int type, int address, int rights, int ident, long number, int[] page) {
        int[] blob = new int[48];
        blob[0] = type;
        blob[1] = address;
        blob[2] = rights;
        blob[3] = ident;
        blob[4] = (int) (number >>> 32);
        blob[5] = (int) number;
        int[] stream = stream(blob[4], blob[5]);
        for (int k = 0; k < 32; k++) {
            blob[8 + k] = page[k] ^ stream[k];
        }
        System.arraycopy(tag(blob), 0, blob, 40, 8);
        return blob;
    }

    static int[] added(int[] measure, int type, int place, int rights, int[] page) {
        int[] message = new int[44];
        System.arraycopy(measure, 0, message, 0, 8);
        message[8] = type;
        message[9] = place;
        message[10] = rights;
        System.arraycopy(page, 0, message, 12, 32);
        return sha(message);
    }

    static int[] finalised(int[] measure) {
        int[] message = java.util.Arrays.copyOf(measure, 9);
        message[8] = -1;
        return sha(message);
    }

    private static byte[] bytes(int[] words, ByteOrder order) {
        ByteBuffer out = ByteBuffer.allocate(4 * words.length).order(order);
        for (int word : words) {
            out.putInt(word);
        }
        return out.array();
    }

    private static int[] words(byte[] bytes, ByteOrder order) {
        ByteBuffer in = ByteBuffer.wrap(bytes).order(order);
        int[] words = new int[bytes.length / 4];
        for (int k = 0; k < words.length; k++) {
            words[k] = in.getInt();
        }
        return words;
    }
}
