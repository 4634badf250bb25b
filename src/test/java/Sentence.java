import java.lang.annotation.ElementType;
import java.lang.annotation.Retention;
import java.lang.annotation.RetentionPolicy;
import java.lang.annotation.Target;

/** The sentence of ../shared/DOC.md, or the part of one, that a test belongs to: each test has one. */
@Retention(RetentionPolicy.RUNTIME)
@Target(ElementType.METHOD)
@interface Sentence {
    /** The title of the section that it stands in, such as "Promise 7" or "Holes". */
    String of();

    /** Its words, as they stand there. */
    String says();
}
