import java.io.DataInputStream;
import java.io.IOException;
import java.io.InputStream;
import java.util.Set;
import java.util.TreeSet;

/** What a compiled class names of other classes: the source alone does not show what a call resolves to. */
final class ClassFile {
    private static final int UTF8 = 1, INT = 3, FLOAT = 4, LONG = 5, DOUBLE = 6, CLASS = 7, STRING = 8, FIELD = 9, METHOD = 10,
            INTERFACE_METHOD = 11, NAME_AND_TYPE = 12, METHOD_HANDLE = 15, METHOD_TYPE = 16, DYNAMIC = 17, INVOKE_DYNAMIC = 18;

    private final int[] tags;
    private final int[] first;
    private final int[] second;
    private final String[] letters;

    ClassFile(Class<?> c) throws IOException {
        String name = c.getName().substring(c.getName().lastIndexOf('.') + 1) + ".class";
        try (InputStream bytes = c.getResourceAsStream(name); DataInputStream in = new DataInputStream(bytes)) {
            in.skipNBytes(8);
            int many = in.readUnsignedShort();
            tags = new int[many];
            first = new int[many];
            second = new int[many];
            letters = new String[many];
            for (int k = 1; k < many; k++) {
                k += read(in, k) - 1;
            }
        }
    }

    /** How many places of the pool the entry takes. */
    private int read(DataInputStream in, int k) throws IOException {
        tags[k] = in.readUnsignedByte();
        switch (tags[k]) {
            case UTF8 -> letters[k] = in.readUTF();
            case INT, FLOAT -> in.skipNBytes(4);
            case LONG, DOUBLE -> in.skipNBytes(8);
            case CLASS, STRING, METHOD_TYPE -> first[k] = in.readUnsignedShort();
            case FIELD, METHOD, INTERFACE_METHOD, NAME_AND_TYPE, DYNAMIC, INVOKE_DYNAMIC -> {
                first[k] = in.readUnsignedShort();
                second[k] = in.readUnsignedShort();
            }
            case METHOD_HANDLE -> in.skipNBytes(3);
            default -> throw new IOException("a kind of entry that is not known: " + tags[k]);
        }
        return tags[k] == LONG || tags[k] == DOUBLE ? 2 : 1;
    }

    /** Fields and methods that are named, as "java/lang/String.length". */
    Set<String> named() {
        Set<String> all = new TreeSet<>();
        for (int k = 1; k < tags.length; k++) {
            if (tags[k] == FIELD || tags[k] == METHOD || tags[k] == INTERFACE_METHOD) {
                all.add(letters[first[first[k]]] + "." + letters[first[second[k]]]);
            }
        }
        return all;
    }

    /** Lambdas, method references and texts that are joined by + are made at run time by such entries. */
    boolean isDynamic() {
        for (int tag : tags) {
            if (tag == METHOD_HANDLE || tag == METHOD_TYPE || tag == DYNAMIC || tag == INVOKE_DYNAMIC) {
                return true;
            }
        }
        return false;
    }
}
