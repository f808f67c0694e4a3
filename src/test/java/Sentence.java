import java.lang.annotation.ElementType;
import java.lang.annotation.Retention;
import java.lang.annotation.RetentionPolicy;
import java.lang.annotation.Target;

/** A sentence of the document that names a boundary case; the method that bears it is its test. */
@Retention(RetentionPolicy.RUNTIME)
@Target(ElementType.METHOD)
@interface Sentence {
    /** The promise that would be broken. */
    int promise();

    /** The document's own words. */
    String says();
}
