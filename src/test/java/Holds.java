import java.lang.annotation.ElementType;
import java.lang.annotation.Retention;
import java.lang.annotation.RetentionPolicy;
import java.lang.annotation.Target;

/** Which words of ../shared/DOC.md a test holds: it fails if they do not hold. */
@Retention(RetentionPolicy.RUNTIME)
@Target(ElementType.METHOD)
@interface Holds {
    /** A part of the document: "Promise 2", "Terms", "Section 1" (behind "======== 1"), "What it is". */
    String in();

    /** The words, as they stand there. */
    String says();
}
