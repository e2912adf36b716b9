import java.lang.annotation.ElementType;
import java.lang.annotation.Retention;
import java.lang.annotation.RetentionPolicy;
import java.lang.annotation.Target;

/** The words of the document that a test is for; SentencesTest looks that they stand there, and that none is left out. */
@Retention(RetentionPolicy.RUNTIME)
@Target(ElementType.METHOD)
@interface Says {
    /** The number of a promise; 0: "Terms"; -1: "What it is". */
    int promise();

    String[] words();
}
