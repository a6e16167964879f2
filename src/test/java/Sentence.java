import java.lang.annotation.ElementType;
import java.lang.annotation.Retention;
import java.lang.annotation.RetentionPolicy;
import java.lang.annotation.Target;

/** The sentence of the document whose boundary a test holds. */
@Retention(RetentionPolicy.RUNTIME)
@Target(ElementType.METHOD)
@interface Sentence {
    /** The heading of the document under which the sentence stands. */
    String under();

    /** The sentence, or the part of it that names the boundary, in the words of the document. */
    String says();
}
