import java.lang.annotation.ElementType;
import java.lang.annotation.Retention;
import java.lang.annotation.RetentionPolicy;
import java.lang.annotation.Target;

/** Says of a test which sentence of ../shared/DOC.md would not hold if the test failed. */
@Retention(RetentionPolicy.RUNTIME)
@Target(ElementType.METHOD)
@interface Sentence {
    /** The promise under whose heading the sentence stands, 0 for what stands ahead of promise 1. */
    int promise();

    /** The sentence, or the part of it that is meant, word by word; sentences that one edge belongs to stand together. */
    String[] says();
}
