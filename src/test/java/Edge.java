import java.lang.annotation.ElementType;
import java.lang.annotation.Retention;
import java.lang.annotation.RetentionPolicy;
import java.lang.annotation.Target;

/** A test of one sentence of the document. */
@Retention(RetentionPolicy.RUNTIME)
@Target(ElementType.METHOD)
@interface Edge {
    /** The promise ("1" .. "42") or the term ("I" .. "IV") that says it; "0": what is said ahead of them. */
    String of();

    /** The sentence, or the part of it, in the document's own words. */
    String says();
}
