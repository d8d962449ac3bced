import java.lang.annotation.ElementType;
import java.lang.annotation.Retention;
import java.lang.annotation.RetentionPolicy;
import java.lang.annotation.Target;

/** The sentences of ../shared/DOC.md that a test stands for; SentencesTest looks for those without a test. */
@Retention(RetentionPolicy.RUNTIME)
@Target(ElementType.METHOD)
@interface Sentence {
    /** The heading: a word in capitals under "Terms", or "Promise" and its number. */
    String of();

    /** The sentences as they stand there, without the face of the call ahead of them. */
    String[] says();
}
