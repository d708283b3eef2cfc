/** All words of the document's terms and promises have a test that stands for them: see Due.term() and Due.promise(). */
final class EverySentenceTest {
    public static void main(String[] args) {
        PeopleRoomsTest.run();
        HousesTest.run();
        SpeakersTest.run();
        ComingsSayingsTest.run();
        WhatCanBeTest.run();
        VotesAgesLotsBooksTest.run();
        JudgingImageActsTest.run();
        TapesTest.run();
        ChangesNothingTest.run();
        for (String words : Doc.leftOut()) {
            System.out.println("no test stands for " + words);
        }
        Due.is("how many words of the document no test stands for", Doc.leftOut().size(), 0);
        Due.end();
    }
}
