package px;

/** What a proxy's code calls: the names and descriptors are those of the document. */
public interface Callback {
    Object on(Object proxy, int slot, Object[] arguments);

    Object fixed(int slot);

    Object to(int slot);
}
