/-! The tables' words by numbers. -/
noncomputable section
abbrev eqN : Type := Nat × Nat × Nat
def eqSt (n : Nat) : String := (@Bool.rec (fun _ => String) (@Bool.rec (fun _ => String) (@Bool.rec (fun _ => String) (@Bool.rec (fun _ => String) (@Bool.rec (fun _ => String) (@Bool.rec (fun _ => String) (@Bool.rec (fun _ => String) (@Bool.rec (fun _ => String) (@Bool.rec (fun _ => String) "([I)Z" "whyNoPlace" (Nat.blt n 371)) "plainTells" (Nat.blt n 370)) (@Bool.rec (fun _ => String) (@Bool.rec (fun _ => String) "telling" "plainPays" (Nat.blt n 368)) "songPays" (Nat.blt n 367)) (Nat.blt n 369)) (@Bool.rec (fun _ => String) (@Bool.rec (fun _ => String) (@Bool.rec (fun _ => String) "paying" "plainNears" (Nat.blt n 365)) "stammerNears" (Nat.blt n 364)) (@Bool.rec (fun _ => String) (@Bool.rec (fun _ => String) "nearing" "foreignSays" (Nat.blt n 362)) "plainSays" (Nat.blt n 361)) (Nat.blt n 363)) (Nat.blt n 366)) (@Bool.rec (fun _ => String) (@Bool.rec (fun _ => String) (@Bool.rec (fun _ => String) (@Bool.rec (fun _ => String) "isBody" "readsNext" (Nat.blt n 359)) "wrongMonth" (Nat.blt n 358)) (@Bool.rec (fun _ => String) (@Bool.rec (fun _ => String) "findAnswer" "goTalk" (Nat.blt n 356)) "findShares" (Nat.blt n 355)) (Nat.blt n 357)) (@Bool.rec (fun _ => String) (@Bool.rec (fun _ => String) (@Bool.rec (fun _ => String) "canOf" "(J)I" (Nat.blt n 353)) "nearOne" (Nat.blt n 352)) (@Bool.rec (fun _ => String) (@Bool.rec (fun _ => String) "nearTwo" "canBe" (Nat.blt n 350)) "canNext" (Nat.blt n 349)) (Nat.blt n 351)) (Nat.blt n 354)) (Nat.blt n 360)) (@Bool.rec (fun _ => String) (@Bool.rec (fun _ => String) (@Bool.rec (fun _ => String) (@Bool.rec (fun _ => String) (@Bool.rec (fun _ => String) "(IIIII)V" "goKin" (Nat.blt n 347)) "wordAt" (Nat.blt n 346)) (@Bool.rec (fun _ => String) (@Bool.rec (fun _ => String) "leastFrom" "openBy" (Nat.blt n 344)) "findLeast" (Nat.blt n 343)) (Nat.blt n 345)) (@Bool.rec (fun _ => String) (@Bool.rec (fun _ => String) (@Bool.rec (fun _ => String) "findGiven" "layKins" (Nat.blt n 341)) "areOx" (Nat.blt n 340)) (@Bool.rec (fun _ => String) (@Bool.rec (fun _ => String) "owesBy" "saidBy" (Nat.blt n 338)) "twoOf" (Nat.blt n 337)) (Nat.blt n 339)) (Nat.blt n 342)) (@Bool.rec (fun _ => String) (@Bool.rec (fun _ => String) (@Bool.rec (fun _ => String) (@Bool.rec (fun _ => String) "worked" "gives" (Nat.blt n 335)) "givesBy" (Nat.blt n 334)) (@Bool.rec (fun _ => String) (@Bool.rec (fun _ => String) "nearBy" "laySentence" (Nat.blt n 332)) "rowFault" (Nat.blt n 331)) (Nat.blt n 333)) (@Bool.rec (fun _ => String) (@Bool.rec (fun _ => String) (@Bool.rec (fun _ => String) "figure" "wrong" (Nat.blt n 329)) "opens" (Nat.blt n 328)) (@Bool.rec (fun _ => String) "addStep" "nameOf" (Nat.blt n 326)) (Nat.blt n 327)) (Nat.blt n 330)) (Nat.blt n 336)) (Nat.blt n 348)) (@Bool.rec (fun _ => String) (@Bool.rec (fun _ => String) (@Bool.rec (fun _ => String) (@Bool.rec (fun _ => String) (@Bool.rec (fun _ => String) (@Bool.rec (fun _ => String) "look" "operand" (Nat.blt n 324)) "product" (Nat.blt n 323)) (@Bool.rec (fun _ => String) (@Bool.rec (fun _ => String) "oneSum" "compared" (Nat.blt n 321)) "both" (Nat.blt n 320)) (Nat.blt n 322)) (@Bool.rec (fun _ => String) (@Bool.rec (fun _ => String) (@Bool.rec (fun _ => String) "either" "line" (Nat.blt n 318)) "readText" (Nat.blt n 317)) (@Bool.rec (fun _ => String) (@Bool.rec (fun _ => String) "valueAt" "mayHave" (Nat.blt n 315)) "isOne" (Nat.blt n 314)) (Nat.blt n 316)) (Nat.blt n 319)) (@Bool.rec (fun _ => String) (@Bool.rec (fun _ => String) (@Bool.rec (fun _ => String) (@Bool.rec (fun _ => String) "lays" "in" (Nat.blt n 312)) "shifted" (Nat.blt n 311)) (@Bool.rec (fun _ => String) (@Bool.rec (fun _ => String) "elements" "traces" (Nat.blt n 309)) "keptLed" (Nat.blt n 308)) (Nat.blt n 310)) (@Bool.rec (fun _ => String) (@Bool.rec (fun _ => String) (@Bool.rec (fun _ => String) "keptMeans" "keptBy" (Nat.blt n 306)) "keptNow" (Nat.blt n 305)) (@Bool.rec (fun _ => String) "keptMany" "ledOf" (Nat.blt n 303)) (Nat.blt n 304)) (Nat.blt n 307)) (Nat.blt n 313)) (@Bool.rec (fun _ => String) (@Bool.rec (fun _ => String) (@Bool.rec (fun _ => String) (@Bool.rec (fun _ => String) (@Bool.rec (fun _ => String) "toldBy" "now1" (Nat.blt n 301)) "occur" (Nat.blt n 300)) (@Bool.rec (fun _ => String) (@Bool.rec (fun _ => String) "nearest1" "readAt" (Nat.blt n 298)) "isSafe" (Nat.blt n 297)) (Nat.blt n 299)) (@Bool.rec (fun _ => String) (@Bool.rec (fun _ => String) (@Bool.rec (fun _ => String) "safest" "halves" (Nat.blt n 295)) "talkWho" (Nat.blt n 294)) (@Bool.rec (fun _ => String) (@Bool.rec (fun _ => String) "talkDay" "share" (Nat.blt n 292)) "leastLong" (Nat.blt n 291)) (Nat.blt n 293)) (Nat.blt n 296)) (@Bool.rec (fun _ => String) (@Bool.rec (fun _ => String) (@Bool.rec (fun _ => String) (@Bool.rec (fun _ => String) "given" "kinMany" (Nat.blt n 289)) "long1" (Nat.blt n 288)) (@Bool.rec (fun _ => String) (@Bool.rec (fun _ => String) "sentence" "hasLaw" (Nat.blt n 286)) "pile" (Nat.blt n 285)) (Nat.blt n 287)) (@Bool.rec (fun _ => String) (@Bool.rec (fun _ => String) (@Bool.rec (fun _ => String) "facts" "lineEnd" (Nat.blt n 283)) "[S" (Nat.blt n 282)) (@Bool.rec (fun _ => String) "testEnd" "lineMany" (Nat.blt n 280)) (Nat.blt n 281)) (Nat.blt n 284)) (Nat.blt n 290)) (Nat.blt n 302)) (Nat.blt n 325)) (@Bool.rec (fun _ => String) (@Bool.rec (fun _ => String) (@Bool.rec (fun _ => String) (@Bool.rec (fun _ => String) (@Bool.rec (fun _ => String) (@Bool.rec (fun _ => String) (@Bool.rec (fun _ => String) "with" "laid" (Nat.blt n 278)) "open" (Nat.blt n 277)) (@Bool.rec (fun _ => String) (@Bool.rec (fun _ => String) "here" "taped" (Nat.blt n 275)) "[B" (Nat.blt n 274)) (Nat.blt n 276)) (@Bool.rec (fun _ => String) (@Bool.rec (fun _ => String) (@Bool.rec (fun _ => String) "behind" "changeAt" (Nat.blt n 272)) "changeOf" (Nat.blt n 271)) (@Bool.rec (fun _ => String) (@Bool.rec (fun _ => String) "undoneMany" "doneMany" (Nat.blt n 269)) "told" (Nat.blt n 268)) (Nat.blt n 270)) (Nat.blt n 273)) (@Bool.rec (fun _ => String) (@Bool.rec (fun _ => String) (@Bool.rec (fun _ => String) (@Bool.rec (fun _ => String) "earsOf" "means" (Nat.blt n 266)) "longOf" (Nat.blt n 265)) (@Bool.rec (fun _ => String) (@Bool.rec (fun _ => String) "nearOf" "count" (Nat.blt n 263)) "isUnder" (Nat.blt n 262)) (Nat.blt n 264)) (@Bool.rec (fun _ => String) (@Bool.rec (fun _ => String) (@Bool.rec (fun _ => String) "kindOf" "taken" (Nat.blt n 260)) "hasPlaces" (Nat.blt n 259)) (@Bool.rec (fun _ => String) (@Bool.rec (fun _ => String) "(IIIII)I" "shift" (Nat.blt n 257)) "(II)J" (Nat.blt n 256)) (Nat.blt n 258)) (Nat.blt n 261)) (Nat.blt n 267)) (@Bool.rec (fun _ => String) (@Bool.rec (fun _ => String) (@Bool.rec (fun _ => String) (@Bool.rec (fun _ => String) (@Bool.rec (fun _ => String) "element" "(IJ)V" (Nat.blt n 254)) "set" (Nat.blt n 253)) (@Bool.rec (fun _ => String) (@Bool.rec (fun _ => String) "refusalAt" "(IIJ)I" (Nat.blt n 251)) "put" (Nat.blt n 250)) (Nat.blt n 252)) (@Bool.rec (fun _ => String) (@Bool.rec (fun _ => String) (@Bool.rec (fun _ => String) "holdRow" "row" (Nat.blt n 248)) "holdBody" (Nat.blt n 247)) (@Bool.rec (fun _ => String) (@Bool.rec (fun _ => String) "empty" "keep" (Nat.blt n 245)) "hasTrace" (Nat.blt n 244)) (Nat.blt n 246)) (Nat.blt n 249)) (@Bool.rec (fun _ => String) (@Bool.rec (fun _ => String) (@Bool.rec (fun _ => String) (@Bool.rec (fun _ => String) "trace" "run" (Nat.blt n 242)) "ABOVE" (Nat.blt n 241)) (@Bool.rec (fun _ => String) (@Bool.rec (fun _ => String) "OWN" "from" (Nat.blt n 239)) "start" (Nat.blt n 238)) (Nat.blt n 240)) (@Bool.rec (fun _ => String) (@Bool.rec (fun _ => String) (@Bool.rec (fun _ => String) "act" "add" (Nat.blt n 236)) "isKind" (Nat.blt n 235)) (@Bool.rec (fun _ => String) "doAgain" "redo" (Nat.blt n 233)) (Nat.blt n 234)) (Nat.blt n 237)) (Nat.blt n 243)) (Nat.blt n 255)) (@Bool.rec (fun _ => String) (@Bool.rec (fun _ => String) (@Bool.rec (fun _ => String) (@Bool.rec (fun _ => String) (@Bool.rec (fun _ => String) (@Bool.rec (fun _ => String) "takeBack" "undo" (Nat.blt n 231)) "layBack" (Nat.blt n 230)) (@Bool.rec (fun _ => String) (@Bool.rec (fun _ => String) "back" "keepImage" (Nat.blt n 228)) "image" (Nat.blt n 227)) (Nat.blt n 229)) (@Bool.rec (fun _ => String) (@Bool.rec (fun _ => String) (@Bool.rec (fun _ => String) "startLevy" "levy" (Nat.blt n 225)) "passDay" (Nat.blt n 224)) (@Bool.rec (fun _ => String) (@Bool.rec (fun _ => String) "day" "saying" (Nat.blt n 222)) "utter" (Nat.blt n 221)) (Nat.blt n 223)) (Nat.blt n 226)) (@Bool.rec (fun _ => String) (@Bool.rec (fun _ => String) (@Bool.rec (fun _ => String) (@Bool.rec (fun _ => String) "drawn" "mayBe" (Nat.blt n 219)) "tooNear" (Nat.blt n 218)) (@Bool.rec (fun _ => String) (@Bool.rec (fun _ => String) "leastBound" "wordBits" (Nat.blt n 216)) "(LWhoMentionsIt$Shelf;)I" (Nat.blt n 215)) (Nat.blt n 217)) (@Bool.rec (fun _ => String) (@Bool.rec (fun _ => String) (@Bool.rec (fun _ => String) "neverSaid" "months" (Nat.blt n 213)) "goesOn" (Nat.blt n 212)) (@Bool.rec (fun _ => String) "readMonth" "(LWhoMentionsIt$Shelf;I)I" (Nat.blt n 210)) (Nat.blt n 211)) (Nat.blt n 214)) (Nat.blt n 220)) (@Bool.rec (fun _ => String) (@Bool.rec (fun _ => String) (@Bool.rec (fun _ => String) (@Bool.rec (fun _ => String) (@Bool.rec (fun _ => String) "firstMentioned" "judge" (Nat.blt n 208)) "wordsOfKin" (Nat.blt n 207)) (@Bool.rec (fun _ => String) (@Bool.rec (fun _ => String) "corner" "isSafeAnswer" (Nat.blt n 205)) "safestAnswer" (Nat.blt n 204)) (Nat.blt n 206)) (@Bool.rec (fun _ => String) (@Bool.rec (fun _ => String) (@Bool.rec (fun _ => String) "ask" "levelOfSaying" (Nat.blt n 202)) "talk" (Nat.blt n 201)) (@Bool.rec (fun _ => String) (@Bool.rec (fun _ => String) "partOf" "shareOf" (Nat.blt n 199)) "treaty" (Nat.blt n 198)) (Nat.blt n 200)) (Nat.blt n 203)) (@Bool.rec (fun _ => String) (@Bool.rec (fun _ => String) (@Bool.rec (fun _ => String) (@Bool.rec (fun _ => String) "begin" "firstToGo" (Nat.blt n 196)) "lastDayOf" (Nat.blt n 195)) (@Bool.rec (fun _ => String) (@Bool.rec (fun _ => String) "can" "sum" (Nat.blt n 193)) "bare" (Nat.blt n 192)) (Nat.blt n 194)) (@Bool.rec (fun _ => String) (@Bool.rec (fun _ => String) (@Bool.rec (fun _ => String) "wordFor" "aloneNearness" (Nat.blt n 190)) "pairNearness" (Nat.blt n 189)) (@Bool.rec (fun _ => String) "dangerous" "fewestReached" (Nat.blt n 187)) (Nat.blt n 188)) (Nat.blt n 191)) (Nat.blt n 197)) (Nat.blt n 209)) (Nat.blt n 232)) (Nat.blt n 279)) (@Bool.rec (fun _ => String) (@Bool.rec (fun _ => String) (@Bool.rec (fun _ => String) (@Bool.rec (fun _ => String) (@Bool.rec (fun _ => String) (@Bool.rec (fun _ => String) (@Bool.rec (fun _ => String) (@Bool.rec (fun _ => String) "leastRun" "goWithOnePutIn" (Nat.blt n 185)) "goDirectly" (Nat.blt n 184)) (@Bool.rec (fun _ => String) (@Bool.rec (fun _ => String) "offer" "clearNext" (Nat.blt n 182)) "fewestPutIn" (Nat.blt n 181)) (Nat.blt n 183)) (@Bool.rec (fun _ => String) (@Bool.rec (fun _ => String) (@Bool.rec (fun _ => String) "pad" "runBehind" (Nat.blt n 179)) "(IIII)I" (Nat.blt n 178)) (@Bool.rec (fun _ => String) (@Bool.rec (fun _ => String) "firstThatFits" "shortestWord" (Nat.blt n 176)) "shortestLength" (Nat.blt n 175)) (Nat.blt n 177)) (Nat.blt n 180)) (@Bool.rec (fun _ => String) (@Bool.rec (fun _ => String) (@Bool.rec (fun _ => String) (@Bool.rec (fun _ => String) "roomFor" "(II)V" (Nat.blt n 173)) "layOutFrom" (Nat.blt n 172)) (@Bool.rec (fun _ => String) (@Bool.rec (fun _ => String) "bBehind" "bsAt" (Nat.blt n 170)) "layOut" (Nat.blt n 169)) (Nat.blt n 171)) (@Bool.rec (fun _ => String) (@Bool.rec (fun _ => String) (@Bool.rec (fun _ => String) "isKin" "(LWhoMentionsIt$Shelf;I)V" (Nat.blt n 167)) "readKins" (Nat.blt n 166)) (@Bool.rec (fun _ => String) (@Bool.rec (fun _ => String) "isPersonInFront" "safely" (Nat.blt n 164)) "placeBehindWhich" (Nat.blt n 163)) (Nat.blt n 165)) (Nat.blt n 168)) (Nat.blt n 174)) (@Bool.rec (fun _ => String) (@Bool.rec (fun _ => String) (@Bool.rec (fun _ => String) (@Bool.rec (fun _ => String) (@Bool.rec (fun _ => String) "sumOn" "isHeard" (Nat.blt n 161)) "owed" (Nat.blt n 160)) (@Bool.rec (fun _ => String) (@Bool.rec (fun _ => String) "bound" "level" (Nat.blt n 158)) "joined" (Nat.blt n 157)) (Nat.blt n 159)) (@Bool.rec (fun _ => String) (@Bool.rec (fun _ => String) (@Bool.rec (fun _ => String) "max" "named" (Nat.blt n 155)) "worth" (Nat.blt n 154)) (@Bool.rec (fun _ => String) (@Bool.rec (fun _ => String) "sayingIs" "wordIs" (Nat.blt n 152)) "()Z" (Nat.blt n 151)) (Nat.blt n 153)) (Nat.blt n 156)) (@Bool.rec (fun _ => String) (@Bool.rec (fun _ => String) (@Bool.rec (fun _ => String) (@Bool.rec (fun _ => String) "hasText" "gift" (Nat.blt n 149)) "bOf" (Nat.blt n 148)) (@Bool.rec (fun _ => String) (@Bool.rec (fun _ => String) "giftAt" "nearness" (Nat.blt n 146)) "(LWhoMentionsIt$Shelf;)V" (Nat.blt n 145)) (Nat.blt n 147)) (@Bool.rec (fun _ => String) (@Bool.rec (fun _ => String) (@Bool.rec (fun _ => String) "readSentence" "speakerIs" (Nat.blt n 143)) "refusal" (Nat.blt n 142)) (@Bool.rec (fun _ => String) "said" "min" (Nat.blt n 140)) (Nat.blt n 141)) (Nat.blt n 144)) (Nat.blt n 150)) (Nat.blt n 162)) (@Bool.rec (fun _ => String) (@Bool.rec (fun _ => String) (@Bool.rec (fun _ => String) (@Bool.rec (fun _ => String) (@Bool.rec (fun _ => String) (@Bool.rec (fun _ => String) "([II)V" "become" (Nat.blt n 138)) "isProductSign" (Nat.blt n 137)) (@Bool.rec (fun _ => String) (@Bool.rec (fun _ => String) "readClosing" "isName" (Nat.blt n 135)) "emit" (Nat.blt n 134)) (Nat.blt n 136)) (@Bool.rec (fun _ => String) (@Bool.rec (fun _ => String) (@Bool.rec (fun _ => String) "readNumber" "isDigit" (Nat.blt n 132)) "next" (Nat.blt n 131)) (@Bool.rec (fun _ => String) (@Bool.rec (fun _ => String) "readOperand" "readProduct" (Nat.blt n 129)) "readSum" (Nat.blt n 128)) (Nat.blt n 130)) (Nat.blt n 133)) (@Bool.rec (fun _ => String) (@Bool.rec (fun _ => String) (@Bool.rec (fun _ => String) (@Bool.rec (fun _ => String) "readComparison" "readBoth" (Nat.blt n 126)) "(I)V" (Nat.blt n 125)) (@Bool.rec (fun _ => String) (@Bool.rec (fun _ => String) "readEither" "readLine" (Nat.blt n 123)) "read" (Nat.blt n 122)) (Nat.blt n 124)) (@Bool.rec (fun _ => String) (@Bool.rec (fun _ => String) (@Bool.rec (fun _ => String) "()I" "law" (Nat.blt n 120)) "append" (Nat.blt n 119)) (@Bool.rec (fun _ => String) "feed" "of" (Nat.blt n 117)) (Nat.blt n 118)) (Nat.blt n 121)) (Nat.blt n 127)) (@Bool.rec (fun _ => String) (@Bool.rec (fun _ => String) (@Bool.rec (fun _ => String) (@Bool.rec (fun _ => String) (@Bool.rec (fun _ => String) "(Ljava/lang/Object;ILjava/lang/Object;II)V" "arraycopy" (Nat.blt n 115)) "forgetOldest" (Nat.blt n 114)) (@Bool.rec (fun _ => String) (@Bool.rec (fun _ => String) "(III)V" "make" (Nat.blt n 112)) "isPerson" (Nat.blt n 111)) (Nat.blt n 113)) (@Bool.rec (fun _ => String) (@Bool.rec (fun _ => String) (@Bool.rec (fun _ => String) "isWord" "has" (Nat.blt n 109)) "mend" (Nat.blt n 108)) (@Bool.rec (fun _ => String) (@Bool.rec (fun _ => String) "addPerson" "person" (Nat.blt n 106)) "(I)I" (Nat.blt n 105)) (Nat.blt n 107)) (Nat.blt n 110)) (@Bool.rec (fun _ => String) (@Bool.rec (fun _ => String) (@Bool.rec (fun _ => String) (@Bool.rec (fun _ => String) "(LWhoMentionsIt$Shelf;II)I" "takeWords" (Nat.blt n 103)) "isRowOf" (Nat.blt n 102)) (@Bool.rec (fun _ => String) (@Bool.rec (fun _ => String) "(I)Z" "isShelf" (Nat.blt n 100)) "(III)I" (Nat.blt n 99)) (Nat.blt n 101)) (@Bool.rec (fun _ => String) (@Bool.rec (fun _ => String) (@Bool.rec (fun _ => String) "addWord" "MOST" (Nat.blt n 97)) "LEAST" (Nat.blt n 96)) (@Bool.rec (fun _ => String) "(II)Z" "allows" (Nat.blt n 94)) (Nat.blt n 95)) (Nat.blt n 98)) (Nat.blt n 104)) (Nat.blt n 116)) (Nat.blt n 139)) (@Bool.rec (fun _ => String) (@Bool.rec (fun _ => String) (@Bool.rec (fun _ => String) (@Bool.rec (fun _ => String) (@Bool.rec (fun _ => String) (@Bool.rec (fun _ => String) (@Bool.rec (fun _ => String) "(III)Z" "mayBeWord" (Nat.blt n 92)) "(II)I" (Nat.blt n 91)) (@Bool.rec (fun _ => String) (@Bool.rec (fun _ => String) "word" "[LWhoMentionsIt$Shelf;" (Nat.blt n 89)) "shelves" (Nat.blt n 88)) (Nat.blt n 90)) (@Bool.rec (fun _ => String) (@Bool.rec (fun _ => String) (@Bool.rec (fun _ => String) "LWhoMentionsIt$Bodies;" "bodies" (Nat.blt n 86)) "LWhoMentionsIt$Deeds;" (Nat.blt n 85)) (@Bool.rec (fun _ => String) (@Bool.rec (fun _ => String) "deeds" "LWhoMentionsIt$Care;" (Nat.blt n 83)) "care" (Nat.blt n 82)) (Nat.blt n 84)) (Nat.blt n 87)) (@Bool.rec (fun _ => String) (@Bool.rec (fun _ => String) (@Bool.rec (fun _ => String) (@Bool.rec (fun _ => String) "LWhoMentionsIt$LawText;" "tape" (Nat.blt n 80)) "LWhoMentionsIt$Changes;" (Nat.blt n 79)) (@Bool.rec (fun _ => String) (@Bool.rec (fun _ => String) "changes" "sort" (Nat.blt n 77)) "body" (Nat.blt n 76)) (Nat.blt n 78)) (@Bool.rec (fun _ => String) (@Bool.rec (fun _ => String) (@Bool.rec (fun _ => String) "holds" "[J" (Nat.blt n 74)) "cells" (Nat.blt n 73)) (@Bool.rec (fun _ => String) (@Bool.rec (fun _ => String) "number" "kind" (Nat.blt n 71)) "ran" (Nat.blt n 70)) (Nat.blt n 72)) (Nat.blt n 75)) (Nat.blt n 81)) (@Bool.rec (fun _ => String) (@Bool.rec (fun _ => String) (@Bool.rec (fun _ => String) (@Bool.rec (fun _ => String) (@Bool.rec (fun _ => String) "traced" "kinds" (Nat.blt n 68)) "Z" (Nat.blt n 67)) (@Bool.rec (fun _ => String) (@Bool.rec (fun _ => String) "hasImage" "imagePeople" (Nat.blt n 65)) "imageMeans" (Nat.blt n 64)) (Nat.blt n 66)) (@Bool.rec (fun _ => String) (@Bool.rec (fun _ => String) (@Bool.rec (fun _ => String) "imageLed" "led" (Nat.blt n 62)) "most" (Nat.blt n 61)) (@Bool.rec (fun _ => String) (@Bool.rec (fun _ => String) "many" "nextRuns" (Nat.blt n 59)) "runs" (Nat.blt n 58)) (Nat.blt n 60)) (Nat.blt n 63)) (@Bool.rec (fun _ => String) (@Bool.rec (fun _ => String) (@Bool.rec (fun _ => String) (@Bool.rec (fun _ => String) "rooms" "kins" (Nat.blt n 56)) "LWhoMentionsIt$Speech;" (Nat.blt n 55)) (@Bool.rec (fun _ => String) (@Bool.rec (fun _ => String) "speech" "(LWhoMentionsIt$Numbers;LWhoMentionsIt$Speech;)V" (Nat.blt n 53)) "running" (Nat.blt n 52)) (Nat.blt n 54)) (@Bool.rec (fun _ => String) (@Bool.rec (fun _ => String) (@Bool.rec (fun _ => String) "turn" "gifts" (Nat.blt n 50)) "spoken" (Nat.blt n 49)) (@Bool.rec (fun _ => String) "LWhoMentionsIt$Law;" "rule" (Nat.blt n 47)) (Nat.blt n 48)) (Nat.blt n 51)) (Nat.blt n 57)) (Nat.blt n 69)) (@Bool.rec (fun _ => String) (@Bool.rec (fun _ => String) (@Bool.rec (fun _ => String) (@Bool.rec (fun _ => String) (@Bool.rec (fun _ => String) (@Bool.rec (fun _ => String) "(LWhoMentionsIt$Numbers;LWhoMentionsIt$Law;)V" "nerve" (Nat.blt n 45)) "ahead" (Nat.blt n 44)) (@Bool.rec (fun _ => String) (@Bool.rec (fun _ => String) "place" "wordLong" (Nat.blt n 42)) "kin" (Nat.blt n 41)) (Nat.blt n 43)) (@Bool.rec (fun _ => String) (@Bool.rec (fun _ => String) (@Bool.rec (fun _ => String) "near" "stack" (Nat.blt n 39)) "fault" (Nat.blt n 38)) (@Bool.rec (fun _ => String) (@Bool.rec (fun _ => String) "at" "size" (Nat.blt n 36)) "length" (Nat.blt n 35)) (Nat.blt n 37)) (Nat.blt n 40)) (@Bool.rec (fun _ => String) (@Bool.rec (fun _ => String) (@Bool.rec (fun _ => String) (@Bool.rec (fun _ => String) "code" "bytes" (Nat.blt n 33)) "undone" (Nat.blt n 32)) (@Bool.rec (fun _ => String) (@Bool.rec (fun _ => String) "done" "after" (Nat.blt n 30)) "before" (Nat.blt n 29)) (Nat.blt n 31)) (@Bool.rec (fun _ => String) (@Bool.rec (fun _ => String) (@Bool.rec (fun _ => String) "what" "[I" (Nat.blt n 27)) "whose" (Nat.blt n 26)) (@Bool.rec (fun _ => String) "LWhoMentionsIt$Numbers;" "numbers" (Nat.blt n 24)) (Nat.blt n 25)) (Nat.blt n 28)) (Nat.blt n 34)) (@Bool.rec (fun _ => String) (@Bool.rec (fun _ => String) (@Bool.rec (fun _ => String) (@Bool.rec (fun _ => String) (@Bool.rec (fun _ => String) "(LWhoMentionsIt$Numbers;)V" "people" (Nat.blt n 22)) "I" (Nat.blt n 21)) (@Bool.rec (fun _ => String) (@Bool.rec (fun _ => String) "words" "[[I" (Nat.blt n 19)) "held" (Nat.blt n 18)) (Nat.blt n 20)) (@Bool.rec (fun _ => String) (@Bool.rec (fun _ => String) (@Bool.rec (fun _ => String) "java/lang/Object" "()V" (Nat.blt n 16)) "java/lang/Math" (Nat.blt n 15)) (@Bool.rec (fun _ => String) (@Bool.rec (fun _ => String) "java/lang/System" "WhoMentionsItModel" (Nat.blt n 13)) "WhoMentionsIt$Shelf" (Nat.blt n 12)) (Nat.blt n 14)) (Nat.blt n 17)) (@Bool.rec (fun _ => String) (@Bool.rec (fun _ => String) (@Bool.rec (fun _ => String) (@Bool.rec (fun _ => String) "WhoMentionsIt$Bodies" "WhoMentionsIt$Deeds" (Nat.blt n 10)) "WhoMentionsIt$Care" (Nat.blt n 9)) (@Bool.rec (fun _ => String) (@Bool.rec (fun _ => String) "WhoMentionsIt$Speech" "WhoMentionsIt$Law" (Nat.blt n 7)) "WhoMentionsIt$LawText" (Nat.blt n 6)) (Nat.blt n 8)) (@Bool.rec (fun _ => String) (@Bool.rec (fun _ => String) (@Bool.rec (fun _ => String) "WhoMentionsIt$Changes" "WhoMentionsIt$Numbers" (Nat.blt n 4)) "WhoMentionsIt" (Nat.blt n 3)) (@Bool.rec (fun _ => String) "WhoMentionsItLaw" "<init>" (Nat.blt n 1)) (Nat.blt n 2)) (Nat.blt n 5)) (Nat.blt n 11)) (Nat.blt n 23)) (Nat.blt n 46)) (Nat.blt n 93)) (Nat.blt n 186))
def eqM (q : eqN) : MethodName := ⟨eqSt q.1, eqSt q.2.1, eqSt q.2.2⟩
def eqD0 (r : List Nat) (w : Cond) : Cond := match r with
  | [o, i, c, f, d] => .fieldLink (eqSt o) i (eqSt c) (eqSt f) (eqSt d)
  | _ => w
def eqD1 (r : List Nat) (w : Cond) : Cond := match r with
  | [o, i, c, n, d] => .methodLink (eqSt o) i (eqM (c, n, d))
  | _ => w
def eqD2 (r : List Nat) (w : Cond) : Cond := match r with
  | [c, n, d] => .instanceMethod (eqM (c, n, d))
  | _ => w
def eqD3 (r : List Nat) (w : Cond) : Cond := match r with
  | [c, n, d] => .static (eqM (c, n, d))
  | _ => w
def eqD4 (r : List Nat) (w : Cond) : Cond := match r with
  | [c] => .initialized (eqSt c)
  | _ => w
def eqD5 (r : List Nat) (w : Cond) : Cond := match r with
  | [c, n, d] => .selects (eqSt c) (eqM (c, n, d)) (eqM (c, n, d))
  | _ => w
def eqD9 (r : List Nat) (w : Cond) : Cond := match r with
  | [m] => (match eMT m with
    | some M => Cond.code M.1 M.2.1 M.2.2.1 M.2.2.2.1
    | none => .tt)
  | _ => w
def eqDt (t : Nat) (r : List Nat) (w : Cond) : Cond := if t = 0 then eqD0 r w else if t = 1 then eqD1 r w else if t = 2 then eqD2 r w else if t = 3 then eqD3 r w else if t = 4 then eqD4 r w else if t = 5 then eqD5 r w else if t = 9 then eqD9 r w else w
/-- a word, by numbers or as it is -/
def eqDc (c : List Nat) (w : Cond) : Cond := match c with
  | [] => w
  | t :: r => eqDt t r w
def eqC_0 : List (List Nat × Cond) := [([5, 2, 102, 103], .tt), ([5, 4, 113, 15], .tt), ([5, 5, 122, 15], .tt), ([5, 5, 123, 124], .tt), ([5, 5, 125, 124], .tt), ([5, 5, 126, 124], .tt), ([5, 5, 127, 124], .tt), ([5, 5, 128, 124], .tt), ([5, 5, 129, 124], .tt), ([5, 5, 130, 120], .tt), ([5, 5, 132, 15], .tt), ([5, 5, 133, 124], .tt), ([5, 5, 135, 15], .tt), ([5, 7, 146, 104], .tt), ([5, 7, 147, 90], .tt), ([5, 6, 154, 104], .tt), ([5, 2, 164, 100], .tt), ([5, 8, 169, 104], .tt), ([5, 8, 170, 90], .tt), ([5, 8, 171, 172], .tt), ([5, 8, 173, 98], .tt), ([5, 8, 176, 177], .tt), ([5, 8, 178, 177], .tt), ([5, 8, 181, 15], .tt), ([5, 8, 182, 112], .tt), ([5, 8, 183, 172], .tt), ([5, 8, 184, 172], .tt), ([5, 8, 185, 104], .tt), ([5, 8, 186, 120], .tt), ([5, 2, 194, 104], .tt), ([5, 3, 199, 90], .tt), ([5, 2, 201, 90], .tt), ([5, 2, 204, 100], .tt), ([5, 2, 208, 209], .tt), ([5, 2, 213, 214], .tt), ([5, 2, 216, 214], .tt), ([5, 2, 217, 214], .tt), ([5, 10, 238, 177], .tt), ([5, 10, 241, 98], .tt), ([5, 12, 97, 98], .tt), ([5, 12, 312, 112], .tt), ([5, 12, 313, 94], .tt), ([5, 12, 109, 100], .tt), ([5, 12, 110, 100], .tt), ([5, 12, 77, 98], .tt), ([5, 12, 315, 90], .tt), ([5, 12, 316, 104], .tt), ([5, 12, 317, 15], .tt), ([5, 12, 318, 15], .tt), ([5, 12, 319, 15], .tt), ([5, 12, 320, 15], .tt), ([5, 12, 321, 15], .tt), ([5, 12, 322, 15], .tt), ([5, 12, 323, 15], .tt), ([5, 12, 324, 120], .tt), ([5, 12, 326, 172], .tt), ([5, 12, 327, 150], .tt), ([5, 12, 328, 15], .tt), ([5, 12, 329, 15], .tt), ([5, 12, 330, 90], .tt), ([5, 12, 331, 124], .tt), ([5, 12, 36, 90], .tt), ([5, 12, 332, 90], .tt), ([5, 12, 333, 177], .tt), ([5, 12, 334, 104], .tt), ([5, 12, 335, 98], .tt), ([5, 12, 337, 104], .tt), ([5, 12, 338, 98], .tt), ([5, 12, 160, 100], .tt), ([5, 12, 208, 104], .tt), ([5, 12, 339, 100], .tt), ([5, 12, 340, 124], .tt), ([5, 12, 341, 172], .tt), ([5, 12, 342, 124], .tt), ([5, 12, 343, 257], .tt), ([5, 12, 344, 98], .tt), ([5, 12, 345, 90], .tt), ([5, 12, 346, 172], .tt), ([5, 12, 211, 347], .tt), ([5, 12, 348, 124], .tt), ([5, 12, 349, 100], .tt), ([5, 12, 350, 98], .tt), ([5, 12, 351, 90], .tt), ([5, 12, 161, 352], .tt), ([5, 12, 353, 104], .tt), ([5, 12, 354, 15], .tt), ([5, 12, 355, 124], .tt), ([5, 12, 356, 172], .tt), ([5, 12, 357, 90], .tt), ([5, 12, 358, 100], .tt), ([5, 12, 217, 90], .tt), ([5, 12, 359, 100], .tt), ([5, 12, 221, 90], .tt), ([5, 12, 69, 124], .tt), ([5, 12, 360, 90], .tt), ([5, 12, 361, 90], .tt), ([5, 12, 362, 90], .tt), ([5, 12, 363, 90], .tt), ([5, 12, 364, 90], .tt), ([5, 12, 365, 90], .tt), ([5, 12, 366, 90], .tt), ([5, 12, 367, 90], .tt), ([5, 12, 368, 90], .tt), ([5, 12, 369, 90], .tt), ([5, 12, 370, 90], .tt)]
set_option maxRecDepth 100000 in
theorem eqC_0_ok : k2_sels lw_privs = eqC_0.map (fun p => eqDc p.1 p.2) := rfl
set_option maxRecDepth 100000 in
theorem eqC_0_n : eqC_0.length = 105 := rfl
def eqC_1 : List (List Nat × Cond) := [([4, 1], .tt), ([4, 2], .tt), ([4, 3], .tt), ([4, 4], .tt), ([4, 5], .tt), ([4, 6], .tt), ([4, 7], .tt), ([4, 8], .tt), ([4, 9], .tt), ([4, 10], .tt), ([4, 11], .tt), ([4, 12], .tt), ([4, 13], .tt), ([4, 14], .tt), ([], (Jvm.Cond.classLink "WhoMentionsItLaw" (7 : Nat) "WhoMentionsIt")), ([], (Jvm.Cond.instantiable "WhoMentionsIt" (9 : Nat))), ([1, 1, 9, 2, 0, 15], .tt), ([2, 2, 0, 15], .tt), ([9, 0], .tt), ([1, 2, 1, 16, 0, 15], .tt), ([2, 16, 0, 15], .tt), ([], (Jvm.Cond.code ({ cls := "java/lang/Object", name := "<init>", desc := "()V" } : Jvm.MethodName) object_method_1_code (1 : Nat) (Option.none : Option Jvm.ClassFile.FieldType))), ([], (Jvm.Cond.classLink "WhoMentionsIt" (7 : Nat) "WhoMentionsIt$Numbers")), ([], (Jvm.Cond.instantiable "WhoMentionsIt$Numbers" (3 : Nat))), ([1, 2, 9, 3, 0, 15], .tt), ([2, 3, 0, 15], .tt), ([9, 235], .tt), ([1, 3, 3, 16, 0, 15], .tt), ([], (Jvm.Cond.classLink "WhoMentionsIt$Numbers" (11 : Nat) "[[I")), ([], (Jvm.Cond.arrayOver (Jvm.ClassFile.FieldType.array Jvm.ClassFile.FieldType.int))), ([0, 3, 13, 3, 17, 18], .tt), ([0, 4, 26, 3, 17, 18], .tt), ([0, 7, 30, 3, 17, 18], .tt), ([0, 9, 31, 3, 17, 18], .tt), ([0, 2, 118, 3, 17, 18], .tt), ([0, 3, 16, 3, 19, 20], .tt), ([0, 8, 67, 3, 19, 20], .tt), ([0, 7, 93, 3, 19, 20], .tt), ([0, 2, 194, 3, 19, 20], .tt), ([0, 3, 20, 3, 21, 20], .tt), ([0, 9, 49, 3, 21, 20], .tt), ([0, 2, 221, 3, 21, 20], .tt), ([], (Jvm.Cond.laysFinal "WhoMentionsIt$Numbers" "WhoMentionsIt$Numbers" "held" "[[I")), ([], (Jvm.Cond.soleField "WhoMentionsIt$Numbers" "held")), ([], (Jvm.Cond.lays "WhoMentionsIt$Numbers" "WhoMentionsIt$Numbers" "words" "I")), ([], (Jvm.Cond.soleField "WhoMentionsIt$Numbers" "words")), ([], (Jvm.Cond.lays "WhoMentionsIt$Numbers" "WhoMentionsIt$Numbers" "people" "I")), ([], (Jvm.Cond.soleField "WhoMentionsIt$Numbers" "people")), ([], (Jvm.Cond.superclass "WhoMentionsIt$Numbers" "java/lang/Object")), ([], (Jvm.Cond.arrayClass Jvm.ClassFile.FieldType.int)), ([], (Jvm.Cond.classLink "WhoMentionsIt" (16 : Nat) "WhoMentionsIt$Changes")), ([], (Jvm.Cond.instantiable "WhoMentionsIt$Changes" (7 : Nat))), ([1, 2, 18, 4, 0, 22], .tt), ([2, 4, 0, 22], .tt), ([9, 199], .tt), ([1, 4, 1, 16, 0, 15], .tt), ([0, 4, 22, 4, 23, 24], .tt), ([0, 4, 9, 4, 25, 26], .tt), ([0, 4, 13, 4, 27, 26], .tt), ([0, 4, 16, 4, 28, 26], .tt), ([0, 4, 19, 4, 29, 26], .tt), ([0, 4, 32, 4, 30, 20], .tt), ([0, 2, 298, 4, 30, 20], .tt), ([0, 4, 39, 4, 31, 20], .tt), ([0, 2, 304, 4, 31, 20], .tt), ([], (Jvm.Cond.laysFinal "WhoMentionsIt$Changes" "WhoMentionsIt$Changes" "numbers" "LWhoMentionsIt$Numbers;")), ([], (Jvm.Cond.soleField "WhoMentionsIt$Changes" "numbers")), ([], (Jvm.Cond.laysFinal "WhoMentionsIt$Changes" "WhoMentionsIt$Changes" "whose" "[I")), ([], (Jvm.Cond.soleField "WhoMentionsIt$Changes" "whose")), ([], (Jvm.Cond.laysFinal "WhoMentionsIt$Changes" "WhoMentionsIt$Changes" "what" "[I")), ([], (Jvm.Cond.soleField "WhoMentionsIt$Changes" "what")), ([], (Jvm.Cond.laysFinal "WhoMentionsIt$Changes" "WhoMentionsIt$Changes" "before" "[I")), ([], (Jvm.Cond.soleField "WhoMentionsIt$Changes" "before")), ([], (Jvm.Cond.laysFinal "WhoMentionsIt$Changes" "WhoMentionsIt$Changes" "after" "[I")), ([], (Jvm.Cond.soleField "WhoMentionsIt$Changes" "after")), ([], (Jvm.Cond.lays "WhoMentionsIt$Changes" "WhoMentionsIt$Changes" "done" "I")), ([], (Jvm.Cond.soleField "WhoMentionsIt$Changes" "done")), ([], (Jvm.Cond.lays "WhoMentionsIt$Changes" "WhoMentionsIt$Changes" "undone" "I")), ([], (Jvm.Cond.soleField "WhoMentionsIt$Changes" "undone")), ([], (Jvm.Cond.superclass "WhoMentionsIt$Changes" "java/lang/Object")), ([], (Jvm.Cond.classLink "WhoMentionsIt" (25 : Nat) "WhoMentionsIt$LawText")), ([], (Jvm.Cond.instantiable "WhoMentionsIt$LawText" (6 : Nat))), ([], (Jvm.Cond.methodLinkNest "WhoMentionsIt" (27 : Nat) ({ cls := "WhoMentionsIt$LawText", name := "<init>", desc := "()V" } : Jvm.MethodName) "WhoMentionsIt")), ([2, 5, 0, 15], .tt), ([9, 219], .tt), ([1, 5, 3, 16, 0, 15], .tt), ([0, 5, 11, 5, 32, 26], .tt), ([0, 5, 17, 5, 33, 26], .tt), ([0, 2, 133, 5, 33, 26], .tt), ([0, 5, 20, 5, 34, 20], .tt), ([0, 2, 144, 5, 34, 20], .tt), ([0, 5, 27, 5, 35, 20], .tt), ([0, 2, 137, 5, 35, 20], .tt), ([0, 5, 24, 5, 36, 20], .tt), ([0, 5, 30, 5, 37, 20], .tt), ([], (Jvm.Cond.laysFinal "WhoMentionsIt$LawText" "WhoMentionsIt$LawText" "bytes" "[I")), ([], (Jvm.Cond.soleField "WhoMentionsIt$LawText" "bytes")), ([], (Jvm.Cond.laysFinal "WhoMentionsIt$LawText" "WhoMentionsIt$LawText" "code" "[I")), ([], (Jvm.Cond.soleField "WhoMentionsIt$LawText" "code")), ([], (Jvm.Cond.lays "WhoMentionsIt$LawText" "WhoMentionsIt$LawText" "length" "I")), ([], (Jvm.Cond.soleField "WhoMentionsIt$LawText" "length")), ([], (Jvm.Cond.lays "WhoMentionsIt$LawText" "WhoMentionsIt$LawText" "size" "I")), ([], (Jvm.Cond.soleField "WhoMentionsIt$LawText" "size")), ([], (Jvm.Cond.lays "WhoMentionsIt$LawText" "WhoMentionsIt$LawText" "at" "I")), ([], (Jvm.Cond.soleField "WhoMentionsIt$LawText" "at")), ([], (Jvm.Cond.lays "WhoMentionsIt$LawText" "WhoMentionsIt$LawText" "fault" "I")), ([], (Jvm.Cond.soleField "WhoMentionsIt$LawText" "fault")), ([], (Jvm.Cond.superclass "WhoMentionsIt$LawText" "java/lang/Object")), ([], (Jvm.Cond.classLink "WhoMentionsIt" (32 : Nat) "WhoMentionsIt$Law")), ([], (Jvm.Cond.instantiable "WhoMentionsIt$Law" (9 : Nat))), ([], (Jvm.Cond.methodLinkNest "WhoMentionsIt" (34 : Nat) ({ cls := "WhoMentionsIt$Law", name := "<init>", desc := "()V" } : Jvm.MethodName) "WhoMentionsIt")), ([2, 6, 0, 15], .tt), ([9, 210], .tt), ([1, 6, 1, 16, 0, 15], .tt), ([0, 6, 9, 6, 33, 26], .tt), ([0, 6, 13, 6, 38, 26], .tt), ([0, 6, 22, 6, 35, 20], .tt), ([0, 6, 32, 6, 39, 20], .tt), ([0, 6, 35, 6, 40, 20], .tt), ([0, 6, 38, 6, 41, 20], .tt), ([0, 6, 41, 6, 42, 20], .tt), ([0, 6, 44, 6, 43, 20], .tt), ([0, 6, 47, 6, 44, 20], .tt), ([], (Jvm.Cond.laysFinal "WhoMentionsIt$Law" "WhoMentionsIt$Law" "code" "[I")), ([], (Jvm.Cond.soleField "WhoMentionsIt$Law" "code")), ([], (Jvm.Cond.laysFinal "WhoMentionsIt$Law" "WhoMentionsIt$Law" "stack" "[I")), ([], (Jvm.Cond.soleField "WhoMentionsIt$Law" "stack")), ([], (Jvm.Cond.lays "WhoMentionsIt$Law" "WhoMentionsIt$Law" "size" "I")), ([], (Jvm.Cond.soleField "WhoMentionsIt$Law" "size")), ([], (Jvm.Cond.lays "WhoMentionsIt$Law" "WhoMentionsIt$Law" "near" "I")), ([], (Jvm.Cond.soleField "WhoMentionsIt$Law" "near")), ([], (Jvm.Cond.lays "WhoMentionsIt$Law" "WhoMentionsIt$Law" "kin" "I")), ([], (Jvm.Cond.soleField "WhoMentionsIt$Law" "kin")), ([], (Jvm.Cond.lays "WhoMentionsIt$Law" "WhoMentionsIt$Law" "wordLong" "I")), ([], (Jvm.Cond.soleField "WhoMentionsIt$Law" "wordLong")), ([], (Jvm.Cond.lays "WhoMentionsIt$Law" "WhoMentionsIt$Law" "place" "I")), ([], (Jvm.Cond.soleField "WhoMentionsIt$Law" "place")), ([], (Jvm.Cond.lays "WhoMentionsIt$Law" "WhoMentionsIt$Law" "ahead" "I")), ([], (Jvm.Cond.soleField "WhoMentionsIt$Law" "ahead")), ([], (Jvm.Cond.lays "WhoMentionsIt$Law" "WhoMentionsIt$Law" "nerve" "I")), ([], (Jvm.Cond.soleField "WhoMentionsIt$Law" "nerve")), ([], (Jvm.Cond.superclass "WhoMentionsIt$Law" "java/lang/Object")), ([], (Jvm.Cond.classLink "WhoMentionsIt" (39 : Nat) "WhoMentionsIt$Speech")), ([], (Jvm.Cond.instantiable "WhoMentionsIt$Speech" (8 : Nat))), ([1, 2, 41, 7, 0, 45], .tt), ([2, 7, 0, 45], .tt), ([9, 264], .tt), ([1, 7, 3, 16, 0, 15], .tt), ([0, 7, 22, 7, 23, 24], .tt), ([0, 7, 26, 7, 46, 47], .tt), ([0, 7, 11, 7, 48, 26], .tt), ([0, 7, 19, 7, 49, 26], .tt), ([0, 7, 34, 7, 44, 20], .tt), ([0, 7, 38, 7, 50, 20], .tt), ([0, 7, 76, 7, 51, 20], .tt), ([0, 7, 79, 7, 34, 20], .tt), ([0, 2, 174, 7, 34, 20], .tt), ([], (Jvm.Cond.laysFinal "WhoMentionsIt$Speech" "WhoMentionsIt$Speech" "numbers" "LWhoMentionsIt$Numbers;")), ([], (Jvm.Cond.soleField "WhoMentionsIt$Speech" "numbers")), ([], (Jvm.Cond.laysFinal "WhoMentionsIt$Speech" "WhoMentionsIt$Speech" "rule" "LWhoMentionsIt$Law;")), ([], (Jvm.Cond.soleField "WhoMentionsIt$Speech" "rule")), ([], (Jvm.Cond.laysFinal "WhoMentionsIt$Speech" "WhoMentionsIt$Speech" "spoken" "[I")), ([], (Jvm.Cond.soleField "WhoMentionsIt$Speech" "spoken")), ([], (Jvm.Cond.laysFinal "WhoMentionsIt$Speech" "WhoMentionsIt$Speech" "gifts" "[I")), ([], (Jvm.Cond.soleField "WhoMentionsIt$Speech" "gifts")), ([], (Jvm.Cond.lays "WhoMentionsIt$Speech" "WhoMentionsIt$Speech" "nerve" "I")), ([], (Jvm.Cond.soleField "WhoMentionsIt$Speech" "nerve")), ([], (Jvm.Cond.lays "WhoMentionsIt$Speech" "WhoMentionsIt$Speech" "turn" "I")), ([], (Jvm.Cond.soleField "WhoMentionsIt$Speech" "turn")), ([], (Jvm.Cond.lays "WhoMentionsIt$Speech" "WhoMentionsIt$Speech" "running" "I")), ([], (Jvm.Cond.soleField "WhoMentionsIt$Speech" "running")), ([], (Jvm.Cond.lays "WhoMentionsIt$Speech" "WhoMentionsIt$Speech" "length" "I")), ([], (Jvm.Cond.soleField "WhoMentionsIt$Speech" "length")), ([], (Jvm.Cond.superclass "WhoMentionsIt$Speech" "java/lang/Object")), ([], (Jvm.Cond.classLink "WhoMentionsIt" (48 : Nat) "WhoMentionsIt$Care")), ([], (Jvm.Cond.instantiable "WhoMentionsIt$Care" (8 : Nat))), ([1, 2, 50, 8, 0, 52], .tt), ([2, 8, 0, 52], .tt), ([9, 180], .tt), ([1, 8, 5, 16, 0, 15], .tt), ([0, 8, 26, 8, 23, 24], .tt), ([0, 8, 30, 8, 53, 54], .tt), ([0, 8, 11, 8, 55, 26], .tt), ([0, 8, 15, 8, 56, 26], .tt), ([0, 8, 20, 8, 57, 26], .tt), ([0, 8, 23, 8, 58, 26], .tt), ([0, 8, 38, 8, 59, 20], .tt), ([0, 8, 34, 8, 60, 20], .tt), ([], (Jvm.Cond.laysFinal "WhoMentionsIt$Care" "WhoMentionsIt$Care" "numbers" "LWhoMentionsIt$Numbers;")), ([], (Jvm.Cond.soleField "WhoMentionsIt$Care" "numbers")), ([], (Jvm.Cond.laysFinal "WhoMentionsIt$Care" "WhoMentionsIt$Care" "speech" "LWhoMentionsIt$Speech;")), ([], (Jvm.Cond.soleField "WhoMentionsIt$Care" "speech")), ([], (Jvm.Cond.laysFinal "WhoMentionsIt$Care" "WhoMentionsIt$Care" "kins" "[I")), ([], (Jvm.Cond.soleField "WhoMentionsIt$Care" "kins")), ([], (Jvm.Cond.laysFinal "WhoMentionsIt$Care" "WhoMentionsIt$Care" "rooms" "[I")), ([], (Jvm.Cond.soleField "WhoMentionsIt$Care" "rooms")), ([], (Jvm.Cond.lays "WhoMentionsIt$Care" "WhoMentionsIt$Care" "runs" "[I")), ([], (Jvm.Cond.soleField "WhoMentionsIt$Care" "runs")), ([], (Jvm.Cond.lays "WhoMentionsIt$Care" "WhoMentionsIt$Care" "nextRuns" "[I")), ([], (Jvm.Cond.soleField "WhoMentionsIt$Care" "nextRuns")), ([], (Jvm.Cond.lays "WhoMentionsIt$Care" "WhoMentionsIt$Care" "many" "I")), ([], (Jvm.Cond.soleField "WhoMentionsIt$Care" "many")), ([], (Jvm.Cond.lays "WhoMentionsIt$Care" "WhoMentionsIt$Care" "most" "I")), ([], (Jvm.Cond.soleField "WhoMentionsIt$Care" "most")), ([], (Jvm.Cond.superclass "WhoMentionsIt$Care" "java/lang/Object")), ([], (Jvm.Cond.classLink "WhoMentionsIt" (57 : Nat) "WhoMentionsIt$Deeds")), ([], (Jvm.Cond.instantiable "WhoMentionsIt$Deeds" (6 : Nat))), ([1, 2, 59, 9, 0, 22], .tt), ([2, 9, 0, 22], .tt), ([9, 204], .tt), ([1, 9, 3, 16, 0, 15], .tt), ([0, 9, 23, 9, 23, 24], .tt), ([0, 9, 9, 9, 61, 26], .tt), ([0, 2, 279, 9, 61, 26], .tt), ([0, 9, 15, 9, 62, 26], .tt), ([0, 9, 20, 9, 63, 26], .tt), ([0, 9, 53, 9, 64, 20], .tt), ([0, 9, 45, 9, 65, 66], .tt), ([0, 2, 291, 9, 65, 66], .tt), ([], (Jvm.Cond.laysFinal "WhoMentionsIt$Deeds" "WhoMentionsIt$Deeds" "numbers" "LWhoMentionsIt$Numbers;")), ([], (Jvm.Cond.soleField "WhoMentionsIt$Deeds" "numbers")), ([], (Jvm.Cond.laysFinal "WhoMentionsIt$Deeds" "WhoMentionsIt$Deeds" "led" "[I")), ([], (Jvm.Cond.soleField "WhoMentionsIt$Deeds" "led")), ([], (Jvm.Cond.laysFinal "WhoMentionsIt$Deeds" "WhoMentionsIt$Deeds" "imageLed" "[I")), ([], (Jvm.Cond.soleField "WhoMentionsIt$Deeds" "imageLed")), ([], (Jvm.Cond.laysFinal "WhoMentionsIt$Deeds" "WhoMentionsIt$Deeds" "imageMeans" "[I")), ([], (Jvm.Cond.soleField "WhoMentionsIt$Deeds" "imageMeans")), ([], (Jvm.Cond.lays "WhoMentionsIt$Deeds" "WhoMentionsIt$Deeds" "imagePeople" "I")), ([], (Jvm.Cond.soleField "WhoMentionsIt$Deeds" "imagePeople")), ([], (Jvm.Cond.lays "WhoMentionsIt$Deeds" "WhoMentionsIt$Deeds" "hasImage" "Z")), ([], (Jvm.Cond.soleField "WhoMentionsIt$Deeds" "hasImage")), ([], (Jvm.Cond.superclass "WhoMentionsIt$Deeds" "java/lang/Object")), ([], (Jvm.Cond.classLink "WhoMentionsIt" (64 : Nat) "WhoMentionsIt$Bodies")), ([], (Jvm.Cond.instantiable "WhoMentionsIt$Bodies" (6 : Nat))), ([], (Jvm.Cond.methodLinkNest "WhoMentionsIt" (66 : Nat) ({ cls := "WhoMentionsIt$Bodies", name := "<init>", desc := "()V" } : Jvm.MethodName) "WhoMentionsIt")), ([2, 10, 0, 15], .tt), ([9, 170], .tt), ([1, 10, 3, 16, 0, 15], .tt), ([0, 10, 11, 10, 67, 26], .tt), ([0, 10, 15, 10, 68, 26], .tt)]
set_option maxRecDepth 100000 in
theorem eqC_1_ok : tables_1_1 = eqC_1.map (fun p => eqDc p.1 p.2) := rfl
set_option maxRecDepth 100000 in
theorem eqC_1_n : eqC_1.length = 240 := rfl
def eqC_2 : List (List Nat × Cond) := [([0, 2, 322, 10, 68, 26], .tt), ([0, 10, 25, 10, 59, 20], .tt), ([0, 2, 371, 10, 59, 20], .tt), ([0, 10, 29, 10, 69, 20], .tt), ([0, 2, 374, 10, 69, 20], .tt), ([0, 10, 35, 10, 70, 20], .tt), ([0, 10, 38, 10, 71, 20], .tt), ([], (Jvm.Cond.laysFinal "WhoMentionsIt$Bodies" "WhoMentionsIt$Bodies" "kinds" "[I")), ([], (Jvm.Cond.soleField "WhoMentionsIt$Bodies" "kinds")), ([], (Jvm.Cond.laysFinal "WhoMentionsIt$Bodies" "WhoMentionsIt$Bodies" "traced" "[I")), ([], (Jvm.Cond.soleField "WhoMentionsIt$Bodies" "traced")), ([], (Jvm.Cond.lays "WhoMentionsIt$Bodies" "WhoMentionsIt$Bodies" "many" "I")), ([], (Jvm.Cond.soleField "WhoMentionsIt$Bodies" "many")), ([], (Jvm.Cond.lays "WhoMentionsIt$Bodies" "WhoMentionsIt$Bodies" "ran" "I")), ([], (Jvm.Cond.soleField "WhoMentionsIt$Bodies" "ran")), ([], (Jvm.Cond.lays "WhoMentionsIt$Bodies" "WhoMentionsIt$Bodies" "kind" "I")), ([], (Jvm.Cond.soleField "WhoMentionsIt$Bodies" "kind")), ([], (Jvm.Cond.lays "WhoMentionsIt$Bodies" "WhoMentionsIt$Bodies" "number" "I")), ([], (Jvm.Cond.soleField "WhoMentionsIt$Bodies" "number")), ([], (Jvm.Cond.superclass "WhoMentionsIt$Bodies" "java/lang/Object")), ([], (Jvm.Cond.classLink "WhoMentionsIt" (71 : Nat) "WhoMentionsIt$Shelf")), ([], (Jvm.Cond.arrayOver (Jvm.ClassFile.FieldType.object "WhoMentionsIt$Shelf"))), ([], (Jvm.Cond.instantiable "WhoMentionsIt$Shelf" (5 : Nat))), ([], (Jvm.Cond.methodLinkNest "WhoMentionsIt" (77 : Nat) ({ cls := "WhoMentionsIt$Shelf", name := "<init>", desc := "()V" } : Jvm.MethodName) "WhoMentionsIt")), ([2, 11, 0, 15], .tt), ([9, 254], .tt), ([1, 11, 3, 16, 0, 15], .tt), ([0, 11, 11, 11, 72, 73], .tt), ([0, 2, 346, 11, 72, 73], .tt), ([0, 11, 15, 11, 74, 20], .tt), ([0, 2, 90, 11, 74, 20], .tt), ([0, 11, 19, 11, 75, 20], .tt), ([0, 2, 362, 11, 75, 20], .tt), ([0, 11, 22, 11, 76, 20], .tt), ([0, 2, 350, 11, 76, 20], .tt), ([0, 8, 41, 11, 34, 20], .tt), ([0, 11, 25, 11, 34, 20], .tt), ([0, 2, 101, 11, 34, 20], .tt), ([0, 7, 103, 11, 34, 20], .tt), ([], (Jvm.Cond.laysFinal "WhoMentionsIt$Shelf" "WhoMentionsIt$Shelf" "cells" "[J")), ([], (Jvm.Cond.soleField "WhoMentionsIt$Shelf" "cells")), ([], (Jvm.Cond.lays "WhoMentionsIt$Shelf" "WhoMentionsIt$Shelf" "holds" "I")), ([], (Jvm.Cond.soleField "WhoMentionsIt$Shelf" "holds")), ([], (Jvm.Cond.lays "WhoMentionsIt$Shelf" "WhoMentionsIt$Shelf" "body" "I")), ([], (Jvm.Cond.soleField "WhoMentionsIt$Shelf" "body")), ([], (Jvm.Cond.lays "WhoMentionsIt$Shelf" "WhoMentionsIt$Shelf" "sort" "I")), ([], (Jvm.Cond.soleField "WhoMentionsIt$Shelf" "sort")), ([], (Jvm.Cond.lays "WhoMentionsIt$Shelf" "WhoMentionsIt$Shelf" "length" "I")), ([], (Jvm.Cond.soleField "WhoMentionsIt$Shelf" "length")), ([], (Jvm.Cond.superclass "WhoMentionsIt$Shelf" "java/lang/Object")), ([], (Jvm.Cond.arrayClass Jvm.ClassFile.FieldType.long)), ([0, 2, 10, 2, 23, 24], .tt), ([0, 2, 21, 2, 77, 78], .tt), ([0, 2, 28, 2, 79, 80], .tt), ([0, 2, 35, 2, 46, 47], .tt), ([0, 2, 44, 2, 53, 54], .tt), ([0, 2, 53, 2, 81, 82], .tt), ([0, 2, 60, 2, 83, 84], .tt), ([0, 2, 67, 2, 85, 86], .tt), ([0, 2, 73, 2, 87, 88], .tt), ([], (Jvm.Cond.laysFinal "WhoMentionsIt" "WhoMentionsIt" "numbers" "LWhoMentionsIt$Numbers;")), ([], (Jvm.Cond.soleField "WhoMentionsIt" "numbers")), ([], (Jvm.Cond.laysFinal "WhoMentionsIt" "WhoMentionsIt" "changes" "LWhoMentionsIt$Changes;")), ([], (Jvm.Cond.soleField "WhoMentionsIt" "changes")), ([], (Jvm.Cond.laysFinal "WhoMentionsIt" "WhoMentionsIt" "tape" "LWhoMentionsIt$LawText;")), ([], (Jvm.Cond.soleField "WhoMentionsIt" "tape")), ([], (Jvm.Cond.laysFinal "WhoMentionsIt" "WhoMentionsIt" "rule" "LWhoMentionsIt$Law;")), ([], (Jvm.Cond.soleField "WhoMentionsIt" "rule")), ([], (Jvm.Cond.laysFinal "WhoMentionsIt" "WhoMentionsIt" "speech" "LWhoMentionsIt$Speech;")), ([], (Jvm.Cond.soleField "WhoMentionsIt" "speech")), ([], (Jvm.Cond.laysFinal "WhoMentionsIt" "WhoMentionsIt" "care" "LWhoMentionsIt$Care;")), ([], (Jvm.Cond.soleField "WhoMentionsIt" "care")), ([], (Jvm.Cond.laysFinal "WhoMentionsIt" "WhoMentionsIt" "deeds" "LWhoMentionsIt$Deeds;")), ([], (Jvm.Cond.soleField "WhoMentionsIt" "deeds")), ([], (Jvm.Cond.laysFinal "WhoMentionsIt" "WhoMentionsIt" "bodies" "LWhoMentionsIt$Bodies;")), ([], (Jvm.Cond.soleField "WhoMentionsIt" "bodies")), ([], (Jvm.Cond.laysFinal "WhoMentionsIt" "WhoMentionsIt" "shelves" "[LWhoMentionsIt$Shelf;")), ([], (Jvm.Cond.soleField "WhoMentionsIt" "shelves")), ([], (Jvm.Cond.superclass "WhoMentionsIt" "java/lang/Object")), ([1, 1, 13, 2, 89, 90], .tt), ([2, 2, 89, 90], .tt), ([5, 2, 89, 90], .tt), ([9, 1], .tt), ([1, 2, 78, 3, 91, 92], .tt), ([2, 3, 91, 92], .tt), ([5, 3, 91, 92], .tt), ([9, 240], .tt), ([1, 3, 37, 3, 93, 94], .tt), ([2, 3, 93, 94], .tt), ([5, 3, 93, 94], .tt), ([9, 239], .tt), ([0, 3, 30, 3, 95, 26], .tt), ([], (Jvm.Cond.laysStatic "WhoMentionsIt$Numbers" "LEAST" "[I")), ([0, 3, 34, 3, 96, 26], .tt), ([], (Jvm.Cond.laysStatic "WhoMentionsIt$Numbers" "MOST" "[I")), ([1, 2, 82, 3, 97, 98], .tt), ([2, 3, 97, 98], .tt), ([5, 3, 97, 98], .tt), ([9, 241], .tt), ([1, 1, 18, 2, 19, 98], .tt), ([2, 2, 19, 98], .tt), ([5, 2, 19, 98], .tt), ([9, 2], .tt), ([1, 2, 86, 2, 99, 100], .tt), ([3, 2, 99, 100], .tt), ([9, 52], .tt), ([1, 2, 94, 11, 101, 100], .tt), ([2, 11, 101, 100], .tt), ([5, 11, 101, 100], .tt), ([9, 258], .tt), ([1, 2, 97, 2, 102, 103], .tt), ([], (Jvm.Cond.privateMethod ({ cls := "WhoMentionsIt", name := "takeWords", desc := "(LWhoMentionsIt$Shelf;II)I" } : Jvm.MethodName))), ([2, 2, 102, 103], .tt), ([9, 3], .tt), ([1, 2, 104, 11, 71, 104], .tt), ([2, 11, 71, 104], .tt), ([5, 11, 71, 104], .tt), ([9, 263], .tt), ([1, 1, 23, 2, 105, 104], .tt), ([2, 2, 105, 104], .tt), ([5, 2, 105, 104], .tt), ([9, 4], .tt), ([1, 2, 108, 3, 93, 94], .tt), ([1, 2, 112, 3, 106, 104], .tt), ([2, 3, 106, 104], .tt), ([5, 3, 106, 104], .tt), ([9, 242], .tt), ([1, 1, 28, 2, 107, 98], .tt), ([2, 2, 107, 98], .tt), ([5, 2, 107, 98], .tt), ([9, 5], .tt), ([1, 2, 115, 3, 108, 94], .tt), ([2, 3, 108, 94], .tt), ([5, 3, 108, 94], .tt), ([9, 238], .tt), ([1, 3, 23, 3, 109, 100], .tt), ([2, 3, 109, 100], .tt), ([5, 3, 109, 100], .tt), ([9, 236], .tt), ([1, 3, 27, 3, 110, 100], .tt), ([2, 3, 110, 100], .tt), ([5, 3, 110, 100], .tt), ([9, 237], .tt), ([1, 2, 122, 4, 111, 112], .tt), ([2, 4, 111, 112], .tt), ([5, 4, 111, 112], .tt), ([9, 200], .tt), ([1, 4, 36, 4, 113, 15], .tt), ([], (Jvm.Cond.privateMethod ({ cls := "WhoMentionsIt$Changes", name := "forgetOldest", desc := "()V" } : Jvm.MethodName))), ([2, 4, 113, 15], .tt), ([9, 201], .tt), ([1, 4, 42, 13, 114, 115], .tt), ([3, 13, 114, 115], .tt), ([], (Jvm.Cond.native ({ cls := "java/lang/System", name := "arraycopy", desc := "(Ljava/lang/Object;ILjava/lang/Object;II)V" } : Jvm.MethodName))), ([1, 1, 32, 2, 116, 90], .tt), ([2, 2, 116, 90], .tt), ([5, 2, 116, 90], .tt), ([9, 6], .tt), ([1, 1, 36, 2, 117, 104], .tt), ([2, 2, 117, 104], .tt), ([5, 2, 117, 104], .tt), ([9, 7], .tt), ([1, 2, 126, 5, 118, 104], .tt), ([2, 5, 118, 104], .tt), ([5, 5, 118, 104], .tt), ([9, 220], .tt), ([1, 1, 40, 2, 119, 120], .tt), ([2, 2, 119, 120], .tt), ([5, 2, 119, 120], .tt), ([9, 8], .tt), ([1, 2, 129, 5, 121, 120], .tt), ([2, 5, 121, 120], .tt), ([5, 5, 121, 120], .tt), ([9, 221], .tt), ([1, 5, 33, 5, 122, 15], .tt), ([], (Jvm.Cond.privateMethod ({ cls := "WhoMentionsIt$LawText", name := "readLine", desc := "()V" } : Jvm.MethodName))), ([2, 5, 122, 15], .tt), ([9, 222], .tt), ([1, 5, 44, 5, 123, 124], .tt), ([], (Jvm.Cond.privateMethod ({ cls := "WhoMentionsIt$LawText", name := "readEither", desc := "(I)V" } : Jvm.MethodName))), ([2, 5, 123, 124], .tt), ([9, 223], .tt), ([1, 5, 47, 5, 125, 124], .tt), ([], (Jvm.Cond.privateMethod ({ cls := "WhoMentionsIt$LawText", name := "readBoth", desc := "(I)V" } : Jvm.MethodName))), ([2, 5, 125, 124], .tt), ([9, 224], .tt), ([1, 5, 50, 5, 126, 124], .tt), ([], (Jvm.Cond.privateMethod ({ cls := "WhoMentionsIt$LawText", name := "readComparison", desc := "(I)V" } : Jvm.MethodName))), ([2, 5, 126, 124], .tt), ([9, 225], .tt), ([1, 5, 53, 5, 127, 124], .tt), ([], (Jvm.Cond.privateMethod ({ cls := "WhoMentionsIt$LawText", name := "readSum", desc := "(I)V" } : Jvm.MethodName))), ([2, 5, 127, 124], .tt), ([9, 226], .tt), ([1, 5, 56, 5, 128, 124], .tt), ([], (Jvm.Cond.privateMethod ({ cls := "WhoMentionsIt$LawText", name := "readProduct", desc := "(I)V" } : Jvm.MethodName))), ([2, 5, 128, 124], .tt), ([9, 227], .tt), ([1, 5, 59, 5, 129, 124], .tt), ([], (Jvm.Cond.privateMethod ({ cls := "WhoMentionsIt$LawText", name := "readOperand", desc := "(I)V" } : Jvm.MethodName))), ([2, 5, 129, 124], .tt), ([9, 229], .tt), ([1, 5, 36, 5, 130, 120], .tt), ([], (Jvm.Cond.privateMethod ({ cls := "WhoMentionsIt$LawText", name := "next", desc := "()I" } : Jvm.MethodName))), ([2, 5, 130, 120], .tt), ([9, 233], .tt), ([1, 5, 66, 5, 131, 100], .tt), ([3, 5, 131, 100], .tt), ([9, 232], .tt), ([1, 5, 69, 5, 132, 15], .tt), ([], (Jvm.Cond.privateMethod ({ cls := "WhoMentionsIt$LawText", name := "readNumber", desc := "()V" } : Jvm.MethodName))), ([2, 5, 132, 15], .tt), ([9, 231], .tt), ([1, 5, 40, 5, 133, 124], .tt), ([], (Jvm.Cond.privateMethod ({ cls := "WhoMentionsIt$LawText", name := "emit", desc := "(I)V" } : Jvm.MethodName))), ([2, 5, 133, 124], .tt), ([9, 234], .tt), ([1, 5, 72, 6, 134, 100], .tt), ([3, 6, 134, 100], .tt), ([9, 216], .tt), ([1, 5, 75, 5, 135, 15], .tt), ([], (Jvm.Cond.privateMethod ({ cls := "WhoMentionsIt$LawText", name := "readClosing", desc := "()V" } : Jvm.MethodName))), ([2, 5, 135, 15], .tt), ([9, 230], .tt), ([1, 5, 62, 5, 136, 100], .tt), ([3, 5, 136, 100], .tt), ([9, 228], .tt), ([1, 2, 140, 6, 137, 138], .tt), ([2, 6, 137, 138], .tt), ([5, 6, 137, 138], .tt), ([9, 211], .tt), ([1, 6, 16, 14, 139, 90], .tt), ([3, 14, 139, 90], .tt), ([], (Jvm.Cond.code ({ cls := "java/lang/Math", name := "min", desc := "(II)I" } : Jvm.MethodName) prog_13_method_69_code (2 : Nat) (Option.some Jvm.ClassFile.FieldType.int))), ([1, 6, 26, 13, 114, 115], .tt), ([1, 1, 45, 2, 140, 98], .tt), ([2, 2, 140, 98], .tt), ([5, 2, 140, 98], .tt), ([9, 9], .tt), ([1, 2, 145, 3, 110, 100], .tt)]
set_option maxRecDepth 100000 in
theorem eqC_2_ok : tables_1_2 = eqC_2.map (fun p => eqDc p.1 p.2) := rfl
set_option maxRecDepth 100000 in
theorem eqC_2_n : eqC_2.length = 240 := rfl
def eqC_3 : List (List Nat × Cond) := [([1, 2, 148, 11, 141, 104], .tt), ([2, 11, 141, 104], .tt), ([5, 11, 141, 104], .tt), ([9, 259], .tt), ([1, 11, 28, 11, 101, 100], .tt), ([1, 2, 151, 7, 142, 124], .tt), ([2, 7, 142, 124], .tt), ([5, 7, 142, 124], .tt), ([9, 265], .tt), ([1, 2, 155, 7, 143, 144], .tt), ([2, 7, 143, 144], .tt), ([5, 7, 143, 144], .tt), ([9, 278], .tt), ([1, 7, 104, 14, 139, 90], .tt), ([1, 7, 107, 11, 71, 104], .tt), ([1, 7, 99, 3, 109, 100], .tt), ([1, 7, 110, 7, 118, 124], .tt), ([2, 7, 118, 124], .tt), ([5, 7, 118, 124], .tt), ([9, 275], .tt), ([1, 2, 159, 7, 145, 120], .tt), ([2, 7, 145, 120], .tt), ([5, 7, 145, 120], .tt), ([9, 269], .tt), ([1, 7, 82, 7, 146, 104], .tt), ([], (Jvm.Cond.privateMethod ({ cls := "WhoMentionsIt$Speech", name := "giftAt", desc := "(I)I" } : Jvm.MethodName))), ([2, 7, 146, 104], .tt), ([9, 268], .tt), ([1, 7, 68, 7, 147, 90], .tt), ([], (Jvm.Cond.privateMethod ({ cls := "WhoMentionsIt$Speech", name := "bOf", desc := "(II)I" } : Jvm.MethodName))), ([2, 7, 147, 90], .tt), ([9, 267], .tt), ([1, 7, 51, 3, 40, 104], .tt), ([2, 3, 40, 104], .tt), ([5, 3, 40, 104], .tt), ([9, 244], .tt), ([1, 7, 47, 3, 39, 104], .tt), ([2, 3, 39, 104], .tt), ([5, 3, 39, 104], .tt), ([9, 243], .tt), ([1, 7, 72, 7, 148, 98], .tt), ([2, 7, 148, 98], .tt), ([5, 7, 148, 98], .tt), ([9, 266], .tt), ([1, 7, 41, 6, 149, 150], .tt), ([2, 6, 149, 150], .tt), ([5, 6, 149, 150], .tt), ([9, 212], .tt), ([1, 7, 54, 3, 35, 104], .tt), ([2, 3, 35, 104], .tt), ([5, 3, 35, 104], .tt), ([9, 245], .tt), ([1, 7, 57, 6, 151, 112], .tt), ([2, 6, 151, 112], .tt), ([5, 6, 151, 112], .tt), ([9, 213], .tt), ([1, 7, 61, 6, 152, 112], .tt), ([2, 6, 152, 112], .tt), ([5, 6, 152, 112], .tt), ([9, 214], .tt), ([1, 7, 64, 6, 153, 120], .tt), ([2, 6, 153, 120], .tt), ([5, 6, 153, 120], .tt), ([9, 215], .tt), ([1, 6, 50, 6, 134, 100], .tt), ([1, 6, 54, 6, 154, 104], .tt), ([], (Jvm.Cond.privateMethod ({ cls := "WhoMentionsIt$Law", name := "named", desc := "(I)I" } : Jvm.MethodName))), ([2, 6, 154, 104], .tt), ([9, 217], .tt), ([1, 6, 58, 14, 155, 90], .tt), ([3, 14, 155, 90], .tt), ([], (Jvm.Cond.code ({ cls := "java/lang/Math", name := "max", desc := "(II)I" } : Jvm.MethodName) prog_13_method_65_code (2 : Nat) (Option.some Jvm.ClassFile.FieldType.int))), ([1, 6, 61, 6, 156, 98], .tt), ([3, 6, 156, 98], .tt), ([9, 218], .tt), ([1, 7, 85, 14, 155, 90], .tt), ([1, 2, 162, 3, 157, 104], .tt), ([2, 3, 157, 104], .tt), ([5, 3, 157, 104], .tt), ([9, 248], .tt), ([1, 3, 45, 3, 158, 120], .tt), ([2, 3, 158, 120], .tt), ([5, 3, 158, 120], .tt), ([9, 246], .tt), ([1, 2, 165, 3, 159, 98], .tt), ([2, 3, 159, 98], .tt), ([5, 3, 159, 98], .tt), ([9, 251], .tt), ([1, 3, 55, 3, 160, 100], .tt), ([2, 3, 160, 100], .tt), ([5, 3, 160, 100], .tt), ([9, 250], .tt), ([1, 3, 58, 3, 161, 104], .tt), ([2, 3, 161, 104], .tt), ([5, 3, 161, 104], .tt), ([9, 249], .tt), ([1, 3, 49, 14, 139, 90], .tt), ([1, 2, 168, 3, 158, 120], .tt), ([1, 2, 171, 7, 162, 104], .tt), ([2, 7, 162, 104], .tt), ([5, 7, 162, 104], .tt), ([9, 271], .tt), ([1, 1, 49, 2, 163, 98], .tt), ([2, 2, 163, 98], .tt), ([5, 2, 163, 98], .tt), ([9, 10], .tt), ([1, 2, 175, 2, 164, 100], .tt), ([], (Jvm.Cond.privateMethod ({ cls := "WhoMentionsIt", name := "isPersonInFront", desc := "(I)Z" } : Jvm.MethodName))), ([2, 2, 164, 100], .tt), ([9, 53], .tt), ([1, 2, 178, 8, 165, 166], .tt), ([2, 8, 165, 166], .tt), ([5, 8, 165, 166], .tt), ([9, 181], .tt), ([1, 8, 46, 14, 139, 90], .tt), ([1, 8, 52, 11, 71, 104], .tt), ([1, 8, 56, 8, 167, 100], .tt), ([3, 8, 167, 100], .tt), ([9, 182], .tt), ([1, 2, 182, 8, 168, 15], .tt), ([2, 8, 168, 15], .tt), ([5, 8, 168, 15], .tt), ([9, 183], .tt), ([1, 8, 60, 8, 169, 104], .tt), ([], (Jvm.Cond.privateMethod ({ cls := "WhoMentionsIt$Care", name := "bsAt", desc := "(I)I" } : Jvm.MethodName))), ([2, 8, 169, 104], .tt), ([9, 184], .tt), ([1, 8, 70, 3, 40, 104], .tt), ([1, 8, 73, 8, 170, 90], .tt), ([], (Jvm.Cond.privateMethod ({ cls := "WhoMentionsIt$Care", name := "bBehind", desc := "(II)I" } : Jvm.MethodName))), ([2, 8, 170, 90], .tt), ([9, 191], .tt), ([1, 8, 102, 3, 39, 104], .tt), ([1, 8, 63, 8, 171, 172], .tt), ([], (Jvm.Cond.privateMethod ({ cls := "WhoMentionsIt$Care", name := "layOutFrom", desc := "(II)V" } : Jvm.MethodName))), ([2, 8, 171, 172], .tt), ([9, 185], .tt), ([1, 8, 76, 7, 148, 98], .tt), ([1, 8, 82, 3, 35, 104], .tt), ([1, 8, 85, 8, 173, 98], .tt), ([], (Jvm.Cond.privateMethod ({ cls := "WhoMentionsIt$Care", name := "roomFor", desc := "(III)I" } : Jvm.MethodName))), ([2, 8, 173, 98], .tt), ([9, 186], .tt), ([1, 8, 88, 14, 155, 90], .tt), ([1, 2, 185, 8, 174, 120], .tt), ([2, 8, 174, 120], .tt), ([5, 8, 174, 120], .tt), ([9, 187], .tt), ([1, 2, 188, 8, 175, 104], .tt), ([2, 8, 175, 104], .tt), ([5, 8, 175, 104], .tt), ([9, 188], .tt), ([1, 8, 91, 8, 174, 120], .tt), ([1, 8, 95, 8, 176, 177], .tt), ([], (Jvm.Cond.privateMethod ({ cls := "WhoMentionsIt$Care", name := "firstThatFits", desc := "(IIII)I" } : Jvm.MethodName))), ([2, 8, 176, 177], .tt), ([9, 189], .tt), ([1, 8, 99, 8, 178, 177], .tt), ([], (Jvm.Cond.privateMethod ({ cls := "WhoMentionsIt$Care", name := "runBehind", desc := "(IIII)I" } : Jvm.MethodName))), ([2, 8, 178, 177], .tt), ([9, 190], .tt), ([1, 1, 53, 2, 179, 90], .tt), ([2, 2, 179, 90], .tt), ([5, 2, 179, 90], .tt), ([9, 11], .tt), ([1, 2, 191, 8, 180, 120], .tt), ([2, 8, 180, 120], .tt), ([5, 8, 180, 120], .tt), ([9, 192], .tt), ([1, 8, 105, 8, 181, 15], .tt), ([], (Jvm.Cond.privateMethod ({ cls := "WhoMentionsIt$Care", name := "clearNext", desc := "()V" } : Jvm.MethodName))), ([2, 8, 181, 15], .tt), ([9, 196], .tt), ([1, 8, 108, 8, 182, 112], .tt), ([], (Jvm.Cond.privateMethod ({ cls := "WhoMentionsIt$Care", name := "offer", desc := "(III)V" } : Jvm.MethodName))), ([2, 8, 182, 112], .tt), ([9, 197], .tt), ([1, 8, 112, 8, 183, 172], .tt), ([], (Jvm.Cond.privateMethod ({ cls := "WhoMentionsIt$Care", name := "goDirectly", desc := "(II)V" } : Jvm.MethodName))), ([2, 8, 183, 172], .tt), ([9, 193], .tt), ([1, 8, 115, 8, 184, 172], .tt), ([], (Jvm.Cond.privateMethod ({ cls := "WhoMentionsIt$Care", name := "goWithOnePutIn", desc := "(II)V" } : Jvm.MethodName))), ([2, 8, 184, 172], .tt), ([9, 194], .tt), ([1, 8, 121, 8, 185, 104], .tt), ([], (Jvm.Cond.privateMethod ({ cls := "WhoMentionsIt$Care", name := "leastRun", desc := "(I)I" } : Jvm.MethodName))), ([2, 8, 185, 104], .tt), ([9, 195], .tt), ([1, 8, 118, 8, 186, 120], .tt), ([], (Jvm.Cond.privateMethod ({ cls := "WhoMentionsIt$Care", name := "fewestReached", desc := "()I" } : Jvm.MethodName))), ([2, 8, 186, 120], .tt), ([9, 198], .tt), ([1, 1, 57, 2, 187, 90], .tt), ([2, 2, 187, 90], .tt), ([5, 2, 187, 90], .tt), ([9, 12], .tt), ([1, 2, 197, 7, 188, 90], .tt), ([2, 7, 188, 90], .tt), ([5, 7, 188, 90], .tt), ([9, 273], .tt), ([1, 7, 90, 7, 189, 104], .tt), ([2, 7, 189, 104], .tt), ([5, 7, 189, 104], .tt), ([9, 272], .tt), ([1, 1, 61, 2, 190, 90], .tt), ([2, 2, 190, 90], .tt), ([5, 2, 190, 90], .tt), ([9, 13], .tt), ([1, 2, 201, 3, 109, 100], .tt), ([1, 2, 204, 7, 189, 104], .tt), ([1, 2, 207, 3, 40, 104], .tt), ([1, 1, 65, 2, 191, 104], .tt), ([2, 2, 191, 104], .tt), ([5, 2, 191, 104], .tt), ([9, 14], .tt), ([1, 1, 69, 2, 192, 104], .tt), ([2, 2, 192, 104], .tt), ([5, 2, 192, 104], .tt), ([9, 15], .tt), ([1, 2, 210, 3, 161, 104], .tt), ([1, 1, 73, 2, 193, 104], .tt), ([2, 2, 193, 104], .tt), ([5, 2, 193, 104], .tt), ([9, 16], .tt), ([1, 2, 213, 2, 194, 104], .tt), ([], (Jvm.Cond.privateMethod ({ cls := "WhoMentionsIt", name := "lastDayOf", desc := "(I)I" } : Jvm.MethodName))), ([2, 2, 194, 104], .tt), ([9, 17], .tt), ([1, 2, 216, 14, 139, 90], .tt), ([1, 1, 77, 2, 195, 104], .tt), ([2, 2, 195, 104], .tt), ([5, 2, 195, 104], .tt), ([9, 18], .tt), ([1, 1, 81, 2, 196, 104], .tt), ([2, 2, 196, 104], .tt), ([5, 2, 196, 104], .tt), ([9, 19], .tt), ([], (Jvm.Cond.constant "WhoMentionsIt" (224 : Nat) (-2000000000 : Int32))), ([1, 1, 85, 2, 197, 90], .tt)]
set_option maxRecDepth 100000 in
theorem eqC_3_ok : tables_1_3 = eqC_3.map (fun p => eqDc p.1 p.2) := rfl
set_option maxRecDepth 100000 in
theorem eqC_3_n : eqC_3.length = 240 := rfl
def eqC_4 : List (List Nat × Cond) := [([2, 2, 197, 90], .tt), ([5, 2, 197, 90], .tt), ([9, 20], .tt), ([1, 2, 225, 3, 198, 104], .tt), ([2, 3, 198, 104], .tt), ([5, 3, 198, 104], .tt), ([9, 252], .tt), ([1, 3, 61, 3, 199, 90], .tt), ([], (Jvm.Cond.privateMethod ({ cls := "WhoMentionsIt$Numbers", name := "partOf", desc := "(II)I" } : Jvm.MethodName))), ([2, 3, 199, 90], .tt), ([9, 253], .tt), ([1, 1, 89, 2, 200, 90], .tt), ([2, 2, 200, 90], .tt), ([5, 2, 200, 90], .tt), ([9, 21], .tt), ([1, 2, 228, 2, 201, 90], .tt), ([], (Jvm.Cond.privateMethod ({ cls := "WhoMentionsIt", name := "levelOfSaying", desc := "(II)I" } : Jvm.MethodName))), ([2, 2, 201, 90], .tt), ([9, 22], .tt), ([1, 2, 231, 3, 160, 100], .tt), ([1, 1, 93, 2, 202, 98], .tt), ([2, 2, 202, 98], .tt), ([5, 2, 202, 98], .tt), ([9, 23], .tt), ([1, 2, 234, 7, 203, 104], .tt), ([2, 7, 203, 104], .tt), ([5, 7, 203, 104], .tt), ([9, 274], .tt), ([1, 7, 96, 7, 188, 90], .tt), ([1, 2, 237, 2, 204, 100], .tt), ([], (Jvm.Cond.privateMethod ({ cls := "WhoMentionsIt", name := "isSafeAnswer", desc := "(I)Z" } : Jvm.MethodName))), ([2, 2, 204, 100], .tt), ([9, 24], .tt), ([1, 1, 97, 2, 205, 104], .tt), ([2, 2, 205, 104], .tt), ([5, 2, 205, 104], .tt), ([9, 25], .tt), ([1, 2, 240, 3, 206, 104], .tt), ([2, 3, 206, 104], .tt), ([5, 3, 206, 104], .tt), ([9, 247], .tt), ([1, 3, 41, 3, 40, 104], .tt), ([1, 1, 101, 2, 207, 90], .tt), ([2, 2, 207, 90], .tt), ([5, 2, 207, 90], .tt), ([9, 26], .tt), ([1, 2, 243, 2, 208, 209], .tt), ([], (Jvm.Cond.privateMethod ({ cls := "WhoMentionsIt", name := "firstMentioned", desc := "(LWhoMentionsIt$Shelf;I)I" } : Jvm.MethodName))), ([2, 2, 208, 209], .tt), ([9, 27], .tt), ([1, 2, 247, 7, 210, 209], .tt), ([2, 7, 210, 209], .tt), ([5, 7, 210, 209], .tt), ([9, 279], .tt), ([1, 7, 114, 7, 211, 100], .tt), ([2, 7, 211, 100], .tt), ([5, 7, 211, 100], .tt), ([9, 277], .tt), ([1, 1, 105, 2, 212, 98], .tt), ([2, 2, 212, 98], .tt), ([5, 2, 212, 98], .tt), ([9, 28], .tt), ([1, 2, 250, 2, 213, 214], .tt), ([], (Jvm.Cond.privateMethod ({ cls := "WhoMentionsIt", name := "neverSaid", desc := "(LWhoMentionsIt$Shelf;)I" } : Jvm.MethodName))), ([2, 2, 213, 214], .tt), ([9, 29], .tt), ([1, 2, 260, 7, 215, 120], .tt), ([2, 7, 215, 120], .tt), ([5, 7, 215, 120], .tt), ([9, 276], .tt), ([1, 2, 254, 2, 216, 214], .tt), ([], (Jvm.Cond.privateMethod ({ cls := "WhoMentionsIt", name := "leastBound", desc := "(LWhoMentionsIt$Shelf;)I" } : Jvm.MethodName))), ([2, 2, 216, 214], .tt), ([9, 30], .tt), ([1, 2, 263, 14, 155, 90], .tt), ([0, 2, 266, 3, 96, 26], .tt), ([1, 2, 257, 2, 217, 214], .tt), ([], (Jvm.Cond.privateMethod ({ cls := "WhoMentionsIt", name := "tooNear", desc := "(LWhoMentionsIt$Shelf;)I" } : Jvm.MethodName))), ([2, 2, 217, 214], .tt), ([9, 31], .tt), ([1, 2, 269, 7, 211, 100], .tt), ([1, 2, 272, 7, 178, 104], .tt), ([2, 7, 178, 104], .tt), ([5, 7, 178, 104], .tt), ([9, 270], .tt), ([1, 1, 109, 2, 218, 90], .tt), ([2, 2, 218, 90], .tt), ([5, 2, 218, 90], .tt), ([9, 32], .tt), ([1, 1, 113, 2, 219, 98], .tt), ([2, 2, 219, 98], .tt), ([5, 2, 219, 98], .tt), ([9, 33], .tt), ([], (Jvm.Cond.constant "WhoMentionsIt" (275 : Nat) (1103515245 : Int32))), ([1, 1, 117, 2, 220, 90], .tt), ([2, 2, 220, 90], .tt), ([5, 2, 220, 90], .tt), ([9, 34], .tt), ([1, 2, 276, 9, 221, 90], .tt), ([2, 9, 221, 90], .tt), ([5, 9, 221, 90], .tt), ([9, 205], .tt), ([1, 9, 27, 3, 160, 100], .tt), ([1, 9, 35, 3, 159, 98], .tt), ([1, 9, 39, 14, 139, 90], .tt), ([1, 1, 121, 2, 222, 120], .tt), ([2, 2, 222, 120], .tt), ([5, 2, 222, 120], .tt), ([9, 35], .tt), ([1, 2, 282, 9, 223, 120], .tt), ([2, 9, 223, 120], .tt), ([5, 9, 223, 120], .tt), ([9, 206], .tt), ([1, 1, 125, 2, 224, 120], .tt), ([2, 2, 224, 120], .tt), ([5, 2, 224, 120], .tt), ([9, 36], .tt), ([1, 2, 285, 9, 225, 120], .tt), ([2, 9, 225, 120], .tt), ([5, 9, 225, 120], .tt), ([9, 207], .tt), ([1, 1, 129, 2, 61, 104], .tt), ([2, 2, 61, 104], .tt), ([5, 2, 61, 104], .tt), ([9, 37], .tt), ([1, 1, 133, 2, 226, 120], .tt), ([2, 2, 226, 120], .tt), ([5, 2, 226, 120], .tt), ([9, 38], .tt), ([1, 2, 288, 9, 227, 15], .tt), ([2, 9, 227, 15], .tt), ([5, 9, 227, 15], .tt), ([9, 208], .tt), ([1, 9, 56, 13, 114, 115], .tt), ([1, 1, 137, 2, 228, 120], .tt), ([2, 2, 228, 120], .tt), ([5, 2, 228, 120], .tt), ([9, 39], .tt), ([1, 2, 295, 9, 229, 15], .tt), ([2, 9, 229, 15], .tt), ([5, 9, 229, 15], .tt), ([9, 209], .tt), ([1, 1, 141, 2, 230, 120], .tt), ([2, 2, 230, 120], .tt), ([5, 2, 230, 120], .tt), ([9, 40], .tt), ([1, 2, 301, 4, 231, 120], .tt), ([2, 4, 231, 120], .tt), ([5, 4, 231, 120], .tt), ([9, 202], .tt), ([1, 1, 145, 2, 232, 120], .tt), ([2, 2, 232, 120], .tt), ([5, 2, 232, 120], .tt), ([9, 41], .tt), ([1, 2, 307, 4, 233, 120], .tt), ([2, 4, 233, 120], .tt), ([5, 4, 233, 120], .tt), ([9, 203], .tt), ([1, 1, 149, 2, 75, 104], .tt), ([2, 2, 75, 104], .tt), ([5, 2, 75, 104], .tt), ([9, 42], .tt), ([1, 2, 310, 10, 234, 100], .tt), ([3, 10, 234, 100], .tt), ([9, 171], .tt), ([1, 2, 313, 10, 235, 104], .tt), ([2, 10, 235, 104], .tt), ([5, 10, 235, 104], .tt), ([9, 176], .tt), ([1, 1, 153, 2, 236, 98], .tt), ([2, 2, 236, 98], .tt), ([5, 2, 236, 98], .tt), ([9, 43], .tt), ([1, 2, 316, 10, 237, 98], .tt), ([2, 10, 237, 98], .tt), ([5, 10, 237, 98], .tt), ([9, 177], .tt), ([1, 10, 32, 10, 108, 100], .tt), ([2, 10, 108, 100], .tt), ([5, 10, 108, 100], .tt), ([9, 173], .tt), ([1, 10, 41, 10, 238, 177], .tt), ([], (Jvm.Cond.privateMethod ({ cls := "WhoMentionsIt$Bodies", name := "from", desc := "(IIII)I" } : Jvm.MethodName))), ([2, 10, 238, 177], .tt), ([9, 178], .tt), ([1, 10, 18, 10, 234, 100], .tt), ([0, 10, 45, 10, 239, 26], .tt), ([], (Jvm.Cond.laysStatic "WhoMentionsIt$Bodies" "OWN" "[I")), ([0, 10, 22, 10, 240, 26], .tt), ([], (Jvm.Cond.laysStatic "WhoMentionsIt$Bodies" "ABOVE" "[I")), ([1, 10, 48, 10, 241, 98], .tt), ([], (Jvm.Cond.privateMethod ({ cls := "WhoMentionsIt$Bodies", name := "run", desc := "(III)I" } : Jvm.MethodName))), ([2, 10, 241, 98], .tt), ([9, 179], .tt), ([1, 1, 157, 2, 242, 104], .tt), ([2, 2, 242, 104], .tt), ([5, 2, 242, 104], .tt), ([9, 44], .tt), ([1, 2, 319, 10, 243, 100], .tt), ([2, 10, 243, 100], .tt), ([5, 10, 243, 100], .tt), ([9, 174], .tt), ([1, 1, 161, 2, 244, 90], .tt), ([2, 2, 244, 90], .tt), ([5, 2, 244, 90], .tt), ([9, 45], .tt), ([1, 2, 325, 10, 108, 100], .tt), ([1, 2, 327, 11, 245, 15], .tt), ([2, 11, 245, 15], .tt), ([5, 11, 245, 15], .tt), ([9, 255], .tt), ([1, 2, 330, 11, 246, 124], .tt), ([2, 11, 246, 124], .tt), ([5, 11, 246, 124], .tt), ([9, 256], .tt), ([1, 1, 165, 2, 247, 98], .tt), ([2, 2, 247, 98], .tt), ([5, 2, 247, 98], .tt), ([9, 46], .tt), ([1, 2, 333, 11, 248, 172], .tt), ([2, 11, 248, 172], .tt), ([5, 11, 248, 172], .tt), ([9, 257], .tt), ([1, 1, 171, 2, 249, 250], .tt), ([2, 2, 249, 250], .tt), ([5, 2, 249, 250], .tt), ([9, 47], .tt), ([1, 2, 337, 11, 251, 104], .tt), ([2, 11, 251, 104], .tt), ([5, 11, 251, 104], .tt), ([9, 260], .tt), ([1, 2, 340, 11, 252, 253], .tt), ([2, 11, 252, 253], .tt), ([5, 11, 252, 253], .tt), ([9, 262], .tt), ([1, 1, 176, 2, 254, 255], .tt), ([2, 2, 254, 255], .tt), ([5, 2, 254, 255], .tt), ([9, 48], .tt), ([], (Jvm.Cond.constantLong "WhoMentionsIt" (344 : Nat) (-9223372036854775808 : Int64)))]
set_option maxRecDepth 100000 in
theorem eqC_4_ok : tables_1_4 = eqC_4.map (fun p => eqDc p.1 p.2) := rfl
set_option maxRecDepth 100000 in
theorem eqC_4_n : eqC_4.length = 240 := rfl
def eqC_5 : List (List Nat × Cond) := [([1, 1, 181, 2, 256, 257], .tt), ([2, 2, 256, 257], .tt), ([5, 2, 256, 257], .tt), ([9, 49], .tt), ([1, 2, 353, 11, 258, 94], .tt), ([2, 11, 258, 94], .tt), ([5, 11, 258, 94], .tt), ([9, 261], .tt), ([1, 2, 356, 13, 114, 115], .tt), ([1, 1, 186, 2, 259, 90], .tt), ([2, 2, 259, 90], .tt), ([5, 2, 259, 90], .tt), ([9, 50], .tt), ([1, 2, 365, 10, 260, 104], .tt), ([2, 10, 260, 104], .tt), ([5, 10, 260, 104], .tt), ([9, 175], .tt), ([1, 2, 368, 10, 261, 94], .tt), ([3, 10, 261, 94], .tt), ([9, 172], .tt), ([1, 1, 190, 2, 262, 104], .tt), ([2, 2, 262, 104], .tt), ([5, 2, 262, 104], .tt), ([9, 51], .tt), ([], (Jvm.Cond.classLink "WhoMentionsItLaw" (10 : Nat) "WhoMentionsItModel")), ([], (Jvm.Cond.instantiable "WhoMentionsItModel" (62 : Nat))), ([1, 1, 12, 12, 0, 15], .tt), ([2, 12, 0, 15], .tt), ([9, 54], .tt), ([1, 12, 1, 16, 0, 15], .tt), ([0, 12, 119, 12, 19, 20], .tt), ([0, 12, 7, 12, 263, 26], .tt), ([0, 12, 13, 12, 40, 26], .tt), ([0, 12, 16, 12, 264, 26], .tt), ([0, 12, 126, 12, 21, 20], .tt), ([0, 12, 19, 12, 265, 26], .tt), ([0, 12, 22, 12, 44, 26], .tt), ([0, 12, 25, 12, 266, 26], .tt), ([0, 12, 28, 12, 267, 26], .tt), ([0, 12, 146, 12, 268, 20], .tt), ([0, 12, 143, 12, 269, 20], .tt), ([0, 12, 31, 12, 270, 26], .tt), ([0, 12, 34, 12, 271, 26], .tt), ([0, 12, 37, 12, 28, 26], .tt), ([0, 12, 40, 12, 272, 26], .tt), ([0, 12, 43, 12, 79, 273], .tt), ([0, 12, 169, 12, 274, 20], .tt), ([0, 12, 172, 12, 275, 20], .tt), ([0, 12, 175, 12, 37, 20], .tt), ([0, 12, 181, 12, 276, 20], .tt), ([0, 12, 178, 12, 277, 20], .tt), ([0, 12, 47, 12, 236, 273], .tt), ([0, 12, 50, 12, 278, 26], .tt), ([0, 12, 53, 12, 279, 26], .tt), ([0, 12, 56, 12, 280, 281], .tt), ([0, 12, 60, 12, 282, 281], .tt), ([0, 12, 63, 12, 283, 26], .tt), ([0, 12, 66, 12, 284, 26], .tt), ([0, 12, 236, 12, 285, 66], .tt), ([0, 12, 69, 12, 286, 26], .tt), ([0, 12, 243, 12, 287, 20], .tt), ([0, 12, 72, 12, 55, 26], .tt), ([0, 12, 277, 12, 288, 20], .tt), ([0, 12, 75, 12, 289, 26], .tt), ([0, 12, 78, 12, 290, 26], .tt), ([0, 12, 81, 12, 291, 26], .tt), ([0, 12, 332, 12, 292, 20], .tt), ([0, 12, 335, 12, 293, 20], .tt), ([0, 12, 338, 12, 294, 20], .tt), ([0, 12, 344, 12, 295, 20], .tt), ([0, 12, 347, 12, 296, 66], .tt), ([0, 12, 353, 12, 297, 20], .tt), ([0, 12, 356, 12, 298, 20], .tt), ([0, 12, 359, 12, 299, 20], .tt), ([0, 12, 372, 12, 300, 20], .tt), ([0, 12, 84, 12, 301, 20], .tt), ([0, 12, 88, 12, 302, 26], .tt), ([0, 12, 375, 12, 65, 66], .tt), ([0, 12, 378, 12, 303, 20], .tt), ([0, 12, 381, 12, 304, 20], .tt), ([0, 12, 384, 12, 305, 20], .tt), ([0, 12, 91, 12, 306, 26], .tt), ([0, 12, 94, 12, 307, 26], .tt), ([0, 12, 387, 12, 85, 20], .tt), ([0, 12, 97, 12, 70, 26], .tt), ([0, 12, 390, 12, 308, 20], .tt), ([0, 12, 100, 12, 68, 26], .tt), ([0, 12, 103, 12, 74, 26], .tt), ([0, 12, 106, 12, 35, 26], .tt), ([0, 12, 109, 12, 309, 73], .tt), ([0, 12, 113, 12, 310, 73], .tt), ([], (Jvm.Cond.lays "WhoMentionsItModel" "WhoMentionsItModel" "code" "I")), ([], (Jvm.Cond.soleField "WhoMentionsItModel" "code")), ([], (Jvm.Cond.lays "WhoMentionsItModel" "WhoMentionsItModel" "words" "I")), ([], (Jvm.Cond.soleField "WhoMentionsItModel" "words")), ([], (Jvm.Cond.laysFinal "WhoMentionsItModel" "WhoMentionsItModel" "nearOf" "[I")), ([], (Jvm.Cond.soleField "WhoMentionsItModel" "nearOf")), ([], (Jvm.Cond.laysFinal "WhoMentionsItModel" "WhoMentionsItModel" "kin" "[I")), ([], (Jvm.Cond.soleField "WhoMentionsItModel" "kin")), ([], (Jvm.Cond.laysFinal "WhoMentionsItModel" "WhoMentionsItModel" "longOf" "[I")), ([], (Jvm.Cond.soleField "WhoMentionsItModel" "longOf")), ([], (Jvm.Cond.lays "WhoMentionsItModel" "WhoMentionsItModel" "people" "I")), ([], (Jvm.Cond.soleField "WhoMentionsItModel" "people")), ([], (Jvm.Cond.laysFinal "WhoMentionsItModel" "WhoMentionsItModel" "means" "[I")), ([], (Jvm.Cond.soleField "WhoMentionsItModel" "means")), ([], (Jvm.Cond.laysFinal "WhoMentionsItModel" "WhoMentionsItModel" "nerve" "[I")), ([], (Jvm.Cond.soleField "WhoMentionsItModel" "nerve")), ([], (Jvm.Cond.laysFinal "WhoMentionsItModel" "WhoMentionsItModel" "earsOf" "[I")), ([], (Jvm.Cond.soleField "WhoMentionsItModel" "earsOf")), ([], (Jvm.Cond.laysFinal "WhoMentionsItModel" "WhoMentionsItModel" "told" "[I")), ([], (Jvm.Cond.soleField "WhoMentionsItModel" "told")), ([], (Jvm.Cond.lays "WhoMentionsItModel" "WhoMentionsItModel" "doneMany" "I")), ([], (Jvm.Cond.soleField "WhoMentionsItModel" "doneMany")), ([], (Jvm.Cond.lays "WhoMentionsItModel" "WhoMentionsItModel" "undoneMany" "I")), ([], (Jvm.Cond.soleField "WhoMentionsItModel" "undoneMany")), ([], (Jvm.Cond.laysFinal "WhoMentionsItModel" "WhoMentionsItModel" "changeOf" "[I")), ([], (Jvm.Cond.soleField "WhoMentionsItModel" "changeOf")), ([], (Jvm.Cond.laysFinal "WhoMentionsItModel" "WhoMentionsItModel" "changeAt" "[I")), ([], (Jvm.Cond.soleField "WhoMentionsItModel" "changeAt")), ([], (Jvm.Cond.laysFinal "WhoMentionsItModel" "WhoMentionsItModel" "before" "[I")), ([], (Jvm.Cond.soleField "WhoMentionsItModel" "before")), ([], (Jvm.Cond.laysFinal "WhoMentionsItModel" "WhoMentionsItModel" "behind" "[I")), ([], (Jvm.Cond.soleField "WhoMentionsItModel" "behind")), ([], (Jvm.Cond.laysFinal "WhoMentionsItModel" "WhoMentionsItModel" "tape" "[B")), ([], (Jvm.Cond.soleField "WhoMentionsItModel" "tape")), ([], (Jvm.Cond.lays "WhoMentionsItModel" "WhoMentionsItModel" "taped" "I")), ([], (Jvm.Cond.soleField "WhoMentionsItModel" "taped")), ([], (Jvm.Cond.lays "WhoMentionsItModel" "WhoMentionsItModel" "here" "I")), ([], (Jvm.Cond.soleField "WhoMentionsItModel" "here")), ([], (Jvm.Cond.lays "WhoMentionsItModel" "WhoMentionsItModel" "fault" "I")), ([], (Jvm.Cond.soleField "WhoMentionsItModel" "fault")), ([], (Jvm.Cond.lays "WhoMentionsItModel" "WhoMentionsItModel" "open" "I")), ([], (Jvm.Cond.soleField "WhoMentionsItModel" "open")), ([], (Jvm.Cond.lays "WhoMentionsItModel" "WhoMentionsItModel" "laid" "I")), ([], (Jvm.Cond.soleField "WhoMentionsItModel" "laid")), ([], (Jvm.Cond.laysFinal "WhoMentionsItModel" "WhoMentionsItModel" "act" "[B")), ([], (Jvm.Cond.soleField "WhoMentionsItModel" "act")), ([], (Jvm.Cond.laysFinal "WhoMentionsItModel" "WhoMentionsItModel" "with" "[I")), ([], (Jvm.Cond.soleField "WhoMentionsItModel" "with")), ([], (Jvm.Cond.laysFinal "WhoMentionsItModel" "WhoMentionsItModel" "lineMany" "[I")), ([], (Jvm.Cond.soleField "WhoMentionsItModel" "lineMany")), ([], (Jvm.Cond.laysFinal "WhoMentionsItModel" "WhoMentionsItModel" "testEnd" "[S")), ([], (Jvm.Cond.soleField "WhoMentionsItModel" "testEnd")), ([], (Jvm.Cond.laysFinal "WhoMentionsItModel" "WhoMentionsItModel" "lineEnd" "[S")), ([], (Jvm.Cond.soleField "WhoMentionsItModel" "lineEnd")), ([], (Jvm.Cond.laysFinal "WhoMentionsItModel" "WhoMentionsItModel" "facts" "[I")), ([], (Jvm.Cond.soleField "WhoMentionsItModel" "facts")), ([], (Jvm.Cond.laysFinal "WhoMentionsItModel" "WhoMentionsItModel" "pile" "[I")), ([], (Jvm.Cond.soleField "WhoMentionsItModel" "pile")), ([], (Jvm.Cond.lays "WhoMentionsItModel" "WhoMentionsItModel" "hasLaw" "Z")), ([], (Jvm.Cond.soleField "WhoMentionsItModel" "hasLaw")), ([], (Jvm.Cond.laysFinal "WhoMentionsItModel" "WhoMentionsItModel" "sentence" "[I")), ([], (Jvm.Cond.soleField "WhoMentionsItModel" "sentence")), ([], (Jvm.Cond.lays "WhoMentionsItModel" "WhoMentionsItModel" "long1" "I")), ([], (Jvm.Cond.soleField "WhoMentionsItModel" "long1")), ([], (Jvm.Cond.laysFinal "WhoMentionsItModel" "WhoMentionsItModel" "kins" "[I")), ([], (Jvm.Cond.soleField "WhoMentionsItModel" "kins")), ([], (Jvm.Cond.lays "WhoMentionsItModel" "WhoMentionsItModel" "kinMany" "I")), ([], (Jvm.Cond.soleField "WhoMentionsItModel" "kinMany")), ([], (Jvm.Cond.laysFinal "WhoMentionsItModel" "WhoMentionsItModel" "given" "[I")), ([], (Jvm.Cond.soleField "WhoMentionsItModel" "given")), ([], (Jvm.Cond.laysFinal "WhoMentionsItModel" "WhoMentionsItModel" "leastLong" "[I")), ([], (Jvm.Cond.soleField "WhoMentionsItModel" "leastLong")), ([], (Jvm.Cond.laysFinal "WhoMentionsItModel" "WhoMentionsItModel" "share" "[I")), ([], (Jvm.Cond.soleField "WhoMentionsItModel" "share")), ([], (Jvm.Cond.lays "WhoMentionsItModel" "WhoMentionsItModel" "talkDay" "I")), ([], (Jvm.Cond.soleField "WhoMentionsItModel" "talkDay")), ([], (Jvm.Cond.lays "WhoMentionsItModel" "WhoMentionsItModel" "talkWho" "I")), ([], (Jvm.Cond.soleField "WhoMentionsItModel" "talkWho")), ([], (Jvm.Cond.lays "WhoMentionsItModel" "WhoMentionsItModel" "halves" "I")), ([], (Jvm.Cond.soleField "WhoMentionsItModel" "halves")), ([], (Jvm.Cond.lays "WhoMentionsItModel" "WhoMentionsItModel" "safest" "I")), ([], (Jvm.Cond.soleField "WhoMentionsItModel" "safest")), ([], (Jvm.Cond.lays "WhoMentionsItModel" "WhoMentionsItModel" "isSafe" "Z")), ([], (Jvm.Cond.soleField "WhoMentionsItModel" "isSafe")), ([], (Jvm.Cond.lays "WhoMentionsItModel" "WhoMentionsItModel" "readAt" "I")), ([], (Jvm.Cond.soleField "WhoMentionsItModel" "readAt")), ([], (Jvm.Cond.lays "WhoMentionsItModel" "WhoMentionsItModel" "nearest1" "I")), ([], (Jvm.Cond.soleField "WhoMentionsItModel" "nearest1")), ([], (Jvm.Cond.lays "WhoMentionsItModel" "WhoMentionsItModel" "occur" "I")), ([], (Jvm.Cond.soleField "WhoMentionsItModel" "occur")), ([], (Jvm.Cond.lays "WhoMentionsItModel" "WhoMentionsItModel" "now1" "I")), ([], (Jvm.Cond.soleField "WhoMentionsItModel" "now1")), ([], (Jvm.Cond.lays "WhoMentionsItModel" "WhoMentionsItModel" "toldBy" "I")), ([], (Jvm.Cond.soleField "WhoMentionsItModel" "toldBy")), ([], (Jvm.Cond.laysFinal "WhoMentionsItModel" "WhoMentionsItModel" "ledOf" "[I")), ([], (Jvm.Cond.soleField "WhoMentionsItModel" "ledOf")), ([], (Jvm.Cond.lays "WhoMentionsItModel" "WhoMentionsItModel" "hasImage" "Z")), ([], (Jvm.Cond.soleField "WhoMentionsItModel" "hasImage")), ([], (Jvm.Cond.lays "WhoMentionsItModel" "WhoMentionsItModel" "keptMany" "I")), ([], (Jvm.Cond.soleField "WhoMentionsItModel" "keptMany")), ([], (Jvm.Cond.lays "WhoMentionsItModel" "WhoMentionsItModel" "keptNow" "I")), ([], (Jvm.Cond.soleField "WhoMentionsItModel" "keptNow")), ([], (Jvm.Cond.lays "WhoMentionsItModel" "WhoMentionsItModel" "keptBy" "I")), ([], (Jvm.Cond.soleField "WhoMentionsItModel" "keptBy")), ([], (Jvm.Cond.laysFinal "WhoMentionsItModel" "WhoMentionsItModel" "keptMeans" "[I")), ([], (Jvm.Cond.soleField "WhoMentionsItModel" "keptMeans")), ([], (Jvm.Cond.laysFinal "WhoMentionsItModel" "WhoMentionsItModel" "keptLed" "[I")), ([], (Jvm.Cond.soleField "WhoMentionsItModel" "keptLed")), ([], (Jvm.Cond.lays "WhoMentionsItModel" "WhoMentionsItModel" "bodies" "I")), ([], (Jvm.Cond.soleField "WhoMentionsItModel" "bodies")), ([], (Jvm.Cond.laysFinal "WhoMentionsItModel" "WhoMentionsItModel" "kind" "[I")), ([], (Jvm.Cond.soleField "WhoMentionsItModel" "kind")), ([], (Jvm.Cond.lays "WhoMentionsItModel" "WhoMentionsItModel" "traces" "I")), ([], (Jvm.Cond.soleField "WhoMentionsItModel" "traces")), ([], (Jvm.Cond.laysFinal "WhoMentionsItModel" "WhoMentionsItModel" "traced" "[I")), ([], (Jvm.Cond.soleField "WhoMentionsItModel" "traced")), ([], (Jvm.Cond.laysFinal "WhoMentionsItModel" "WhoMentionsItModel" "holds" "[I")), ([], (Jvm.Cond.soleField "WhoMentionsItModel" "holds")), ([], (Jvm.Cond.laysFinal "WhoMentionsItModel" "WhoMentionsItModel" "size" "[I")), ([], (Jvm.Cond.soleField "WhoMentionsItModel" "size")), ([], (Jvm.Cond.laysFinal "WhoMentionsItModel" "WhoMentionsItModel" "elements" "[J")), ([], (Jvm.Cond.soleField "WhoMentionsItModel" "elements")), ([], (Jvm.Cond.laysFinal "WhoMentionsItModel" "WhoMentionsItModel" "shifted" "[J")), ([], (Jvm.Cond.soleField "WhoMentionsItModel" "shifted")), ([], (Jvm.Cond.superclass "WhoMentionsItModel" "java/lang/Object")), ([], (Jvm.Cond.arrayClass Jvm.ClassFile.FieldType.byte)), ([], (Jvm.Cond.arrayClass Jvm.ClassFile.FieldType.short)), ([1, 1, 17, 12, 89, 90], .tt), ([2, 12, 89, 90], .tt), ([5, 12, 89, 90], .tt), ([9, 59], .tt), ([1, 12, 122, 12, 311, 92], .tt), ([3, 12, 311, 92], .tt), ([9, 55], .tt), ([1, 12, 129, 12, 97, 98], .tt), ([], (Jvm.Cond.privateMethod ({ cls := "WhoMentionsItModel", name := "addWord", desc := "(III)I" } : Jvm.MethodName))), ([2, 12, 97, 98], .tt), ([9, 58], .tt), ([1, 1, 22, 12, 19, 98], .tt), ([2, 12, 19, 98], .tt), ([5, 12, 19, 98], .tt), ([9, 60], .tt), ([1, 12, 133, 12, 99, 100], .tt), ([3, 12, 99, 100], .tt), ([9, 162], .tt), ([], (Jvm.Cond.constantLong "WhoMentionsItModel" (137 : Nat) (2 : Int64))), ([1, 1, 27, 12, 105, 104], .tt), ([2, 12, 105, 104], .tt), ([5, 12, 105, 104], .tt)]
set_option maxRecDepth 100000 in
theorem eqC_5_ok : tables_1_5 = eqC_5.map (fun p => eqDc p.1 p.2) := rfl
set_option maxRecDepth 100000 in
theorem eqC_5_n : eqC_5.length = 240 := rfl
def eqC_6 : List (List Nat × Cond) := [([9, 61], .tt), ([1, 1, 144, 12, 230, 120], .tt), ([2, 12, 230, 120], .tt), ([5, 12, 230, 120], .tt), ([9, 65], .tt), ([1, 12, 149, 12, 312, 112], .tt), ([], (Jvm.Cond.privateMethod ({ cls := "WhoMentionsItModel", name := "lays", desc := "(III)V" } : Jvm.MethodName))), ([2, 12, 312, 112], .tt), ([9, 63], .tt), ([1, 1, 148, 12, 232, 120], .tt), ([2, 12, 232, 120], .tt), ([5, 12, 232, 120], .tt), ([9, 66], .tt), ([1, 1, 31, 12, 107, 98], .tt), ([2, 12, 107, 98], .tt), ([5, 12, 107, 98], .tt), ([9, 69], .tt), ([1, 12, 159, 12, 313, 94], .tt), ([], (Jvm.Cond.privateMethod ({ cls := "WhoMentionsItModel", name := "isOne", desc := "(II)Z" } : Jvm.MethodName))), ([2, 12, 313, 94], .tt), ([9, 67], .tt), ([1, 12, 153, 12, 109, 100], .tt), ([], (Jvm.Cond.privateMethod ({ cls := "WhoMentionsItModel", name := "isWord", desc := "(I)Z" } : Jvm.MethodName))), ([2, 12, 109, 100], .tt), ([9, 56], .tt), ([1, 12, 156, 12, 110, 100], .tt), ([], (Jvm.Cond.privateMethod ({ cls := "WhoMentionsItModel", name := "isPerson", desc := "(I)Z" } : Jvm.MethodName))), ([2, 12, 110, 100], .tt), ([9, 57], .tt), ([1, 12, 163, 12, 314, 94], .tt), ([3, 12, 314, 94], .tt), ([9, 68], .tt), ([1, 12, 166, 12, 77, 98], .tt), ([], (Jvm.Cond.privateMethod ({ cls := "WhoMentionsItModel", name := "changes", desc := "(III)I" } : Jvm.MethodName))), ([2, 12, 77, 98], .tt), ([9, 64], .tt), ([1, 12, 139, 12, 315, 90], .tt), ([], (Jvm.Cond.privateMethod ({ cls := "WhoMentionsItModel", name := "valueAt", desc := "(II)I" } : Jvm.MethodName))), ([2, 12, 315, 90], .tt), ([9, 62], .tt), ([1, 1, 35, 12, 116, 90], .tt), ([2, 12, 116, 90], .tt), ([5, 12, 116, 90], .tt), ([9, 70], .tt), ([1, 1, 39, 12, 117, 104], .tt), ([2, 12, 117, 104], .tt), ([5, 12, 117, 104], .tt), ([9, 71], .tt), ([1, 1, 44, 12, 119, 120], .tt), ([2, 12, 119, 120], .tt), ([5, 12, 119, 120], .tt), ([9, 89], .tt), ([1, 12, 233, 12, 316, 104], .tt), ([], (Jvm.Cond.privateMethod ({ cls := "WhoMentionsItModel", name := "readText", desc := "(I)I" } : Jvm.MethodName))), ([2, 12, 316, 104], .tt), ([9, 85], .tt), ([1, 12, 224, 12, 317, 15], .tt), ([], (Jvm.Cond.privateMethod ({ cls := "WhoMentionsItModel", name := "line", desc := "()V" } : Jvm.MethodName))), ([2, 12, 317, 15], .tt), ([9, 84], .tt), ([1, 12, 206, 12, 318, 15], .tt), ([], (Jvm.Cond.privateMethod ({ cls := "WhoMentionsItModel", name := "either", desc := "()V" } : Jvm.MethodName))), ([2, 12, 318, 15], .tt), ([9, 83], .tt), ([1, 12, 221, 12, 319, 15], .tt), ([], (Jvm.Cond.privateMethod ({ cls := "WhoMentionsItModel", name := "both", desc := "()V" } : Jvm.MethodName))), ([2, 12, 319, 15], .tt), ([9, 82], .tt), ([1, 12, 218, 12, 320, 15], .tt), ([], (Jvm.Cond.privateMethod ({ cls := "WhoMentionsItModel", name := "compared", desc := "()V" } : Jvm.MethodName))), ([2, 12, 320, 15], .tt), ([9, 81], .tt), ([1, 12, 215, 12, 321, 15], .tt), ([], (Jvm.Cond.privateMethod ({ cls := "WhoMentionsItModel", name := "oneSum", desc := "()V" } : Jvm.MethodName))), ([2, 12, 321, 15], .tt), ([9, 80], .tt), ([1, 12, 212, 12, 322, 15], .tt), ([], (Jvm.Cond.privateMethod ({ cls := "WhoMentionsItModel", name := "product", desc := "()V" } : Jvm.MethodName))), ([2, 12, 322, 15], .tt), ([9, 79], .tt), ([1, 12, 203, 12, 323, 15], .tt), ([], (Jvm.Cond.privateMethod ({ cls := "WhoMentionsItModel", name := "operand", desc := "()V" } : Jvm.MethodName))), ([2, 12, 323, 15], .tt), ([9, 78], .tt), ([1, 12, 187, 12, 324, 120], .tt), ([], (Jvm.Cond.privateMethod ({ cls := "WhoMentionsItModel", name := "look", desc := "()I" } : Jvm.MethodName))), ([2, 12, 324, 120], .tt), ([9, 72], .tt), ([1, 12, 195, 12, 325, 104], .tt), ([3, 12, 325, 104], .tt), ([9, 75], .tt), ([1, 12, 191, 12, 326, 172], .tt), ([], (Jvm.Cond.privateMethod ({ cls := "WhoMentionsItModel", name := "addStep", desc := "(II)V" } : Jvm.MethodName))), ([2, 12, 326, 172], .tt), ([9, 74], .tt), ([1, 12, 199, 12, 327, 150], .tt), ([], (Jvm.Cond.privateMethod ({ cls := "WhoMentionsItModel", name := "opens", desc := "()Z" } : Jvm.MethodName))), ([2, 12, 327, 150], .tt), ([9, 76], .tt), ([1, 12, 184, 12, 328, 15], .tt), ([], (Jvm.Cond.privateMethod ({ cls := "WhoMentionsItModel", name := "wrong", desc := "()V" } : Jvm.MethodName))), ([2, 12, 328, 15], .tt), ([9, 73], .tt), ([1, 12, 209, 12, 329, 15], .tt), ([], (Jvm.Cond.privateMethod ({ cls := "WhoMentionsItModel", name := "figure", desc := "()V" } : Jvm.MethodName))), ([2, 12, 329, 15], .tt), ([9, 77], .tt), ([1, 1, 48, 12, 140, 98], .tt), ([2, 12, 140, 98], .tt), ([5, 12, 140, 98], .tt), ([9, 102], .tt), ([1, 12, 264, 12, 330, 90], .tt), ([], (Jvm.Cond.privateMethod ({ cls := "WhoMentionsItModel", name := "rowFault", desc := "(II)I" } : Jvm.MethodName))), ([2, 12, 330, 90], .tt), ([9, 91], .tt), ([1, 12, 267, 12, 331, 124], .tt), ([], (Jvm.Cond.privateMethod ({ cls := "WhoMentionsItModel", name := "laySentence", desc := "(I)V" } : Jvm.MethodName))), ([2, 12, 331, 124], .tt), ([9, 93], .tt), ([1, 12, 246, 12, 36, 90], .tt), ([], (Jvm.Cond.privateMethod ({ cls := "WhoMentionsItModel", name := "at", desc := "(II)I" } : Jvm.MethodName))), ([2, 12, 36, 90], .tt), ([9, 92], .tt), ([1, 12, 253, 12, 332, 90], .tt), ([], (Jvm.Cond.privateMethod ({ cls := "WhoMentionsItModel", name := "nearBy", desc := "(II)I" } : Jvm.MethodName))), ([2, 12, 332, 90], .tt), ([9, 94], .tt), ([1, 12, 249, 12, 333, 177], .tt), ([], (Jvm.Cond.privateMethod ({ cls := "WhoMentionsItModel", name := "givesBy", desc := "(IIII)I" } : Jvm.MethodName))), ([2, 12, 333, 177], .tt), ([9, 90], .tt), ([1, 12, 240, 12, 334, 104], .tt), ([], (Jvm.Cond.privateMethod ({ cls := "WhoMentionsItModel", name := "gives", desc := "(I)I" } : Jvm.MethodName))), ([2, 12, 334, 104], .tt), ([9, 88], .tt), ([1, 12, 230, 12, 335, 98], .tt), ([], (Jvm.Cond.privateMethod ({ cls := "WhoMentionsItModel", name := "worked", desc := "(III)I" } : Jvm.MethodName))), ([2, 12, 335, 98], .tt), ([9, 87], .tt), ([1, 12, 227, 12, 336, 98], .tt), ([3, 12, 336, 98], .tt), ([9, 86], .tt), ([1, 12, 261, 12, 337, 104], .tt), ([], (Jvm.Cond.privateMethod ({ cls := "WhoMentionsItModel", name := "saidBy", desc := "(I)I" } : Jvm.MethodName))), ([2, 12, 337, 104], .tt), ([9, 97], .tt), ([1, 12, 271, 12, 338, 98], .tt), ([], (Jvm.Cond.privateMethod ({ cls := "WhoMentionsItModel", name := "owesBy", desc := "(III)I" } : Jvm.MethodName))), ([2, 12, 338, 98], .tt), ([9, 100], .tt), ([1, 12, 258, 12, 160, 100], .tt), ([], (Jvm.Cond.privateMethod ({ cls := "WhoMentionsItModel", name := "isHeard", desc := "(I)Z" } : Jvm.MethodName))), ([2, 12, 160, 100], .tt), ([9, 98], .tt), ([1, 12, 274, 12, 208, 104], .tt), ([], (Jvm.Cond.privateMethod ({ cls := "WhoMentionsItModel", name := "firstMentioned", desc := "(I)I" } : Jvm.MethodName))), ([2, 12, 208, 104], .tt), ([9, 101], .tt), ([1, 1, 52, 12, 163, 98], .tt), ([2, 12, 163, 98], .tt), ([5, 12, 163, 98], .tt), ([9, 110], .tt), ([1, 12, 287, 12, 339, 100], .tt), ([], (Jvm.Cond.privateMethod ({ cls := "WhoMentionsItModel", name := "areOx", desc := "(I)Z" } : Jvm.MethodName))), ([2, 12, 339, 100], .tt), ([9, 109], .tt), ([1, 12, 290, 12, 340, 124], .tt), ([], (Jvm.Cond.privateMethod ({ cls := "WhoMentionsItModel", name := "layKins", desc := "(I)V" } : Jvm.MethodName))), ([2, 12, 340, 124], .tt), ([9, 103], .tt), ([1, 12, 293, 12, 341, 172], .tt), ([], (Jvm.Cond.privateMethod ({ cls := "WhoMentionsItModel", name := "findGiven", desc := "(II)V" } : Jvm.MethodName))), ([2, 12, 341, 172], .tt), ([9, 104], .tt), ([1, 12, 296, 12, 342, 124], .tt), ([], (Jvm.Cond.privateMethod ({ cls := "WhoMentionsItModel", name := "findLeast", desc := "(I)V" } : Jvm.MethodName))), ([2, 12, 342, 124], .tt), ([9, 107], .tt), ([1, 12, 280, 12, 343, 257], .tt), ([], (Jvm.Cond.privateMethod ({ cls := "WhoMentionsItModel", name := "openBy", desc := "(IIIII)I" } : Jvm.MethodName))), ([2, 12, 343, 257], .tt), ([9, 105], .tt), ([1, 12, 284, 12, 344, 98], .tt), ([], (Jvm.Cond.privateMethod ({ cls := "WhoMentionsItModel", name := "leastFrom", desc := "(III)I" } : Jvm.MethodName))), ([2, 12, 344, 98], .tt), ([9, 106], .tt), ([1, 12, 299, 12, 345, 90], .tt), ([], (Jvm.Cond.privateMethod ({ cls := "WhoMentionsItModel", name := "wordAt", desc := "(II)I" } : Jvm.MethodName))), ([2, 12, 345, 90], .tt), ([9, 108], .tt), ([1, 1, 56, 12, 179, 90], .tt), ([2, 12, 179, 90], .tt), ([5, 12, 179, 90], .tt), ([9, 115], .tt), ([1, 12, 312, 12, 346, 172], .tt), ([], (Jvm.Cond.privateMethod ({ cls := "WhoMentionsItModel", name := "goKin", desc := "(II)V" } : Jvm.MethodName))), ([2, 12, 346, 172], .tt), ([9, 114], .tt), ([1, 12, 305, 12, 211, 347], .tt), ([], (Jvm.Cond.privateMethod ({ cls := "WhoMentionsItModel", name := "goesOn", desc := "(IIIII)V" } : Jvm.MethodName))), ([2, 12, 211, 347], .tt), ([9, 113], .tt), ([1, 12, 302, 12, 348, 124], .tt), ([], (Jvm.Cond.privateMethod ({ cls := "WhoMentionsItModel", name := "canNext", desc := "(I)V" } : Jvm.MethodName))), ([2, 12, 348, 124], .tt), ([9, 112], .tt), ([1, 12, 309, 12, 349, 100], .tt), ([], (Jvm.Cond.privateMethod ({ cls := "WhoMentionsItModel", name := "canBe", desc := "(I)Z" } : Jvm.MethodName))), ([2, 12, 349, 100], .tt), ([9, 111], .tt), ([1, 1, 60, 12, 187, 90], .tt), ([2, 12, 187, 90], .tt), ([5, 12, 187, 90], .tt), ([9, 116], .tt), ([1, 12, 315, 12, 350, 98], .tt), ([], (Jvm.Cond.privateMethod ({ cls := "WhoMentionsItModel", name := "nearTwo", desc := "(III)I" } : Jvm.MethodName))), ([2, 12, 350, 98], .tt), ([9, 96], .tt), ([1, 1, 64, 12, 190, 90], .tt), ([2, 12, 190, 90], .tt), ([5, 12, 190, 90], .tt), ([9, 117], .tt), ([1, 12, 318, 12, 351, 90], .tt), ([], (Jvm.Cond.privateMethod ({ cls := "WhoMentionsItModel", name := "nearOne", desc := "(II)I" } : Jvm.MethodName))), ([2, 12, 351, 90], .tt), ([9, 95], .tt), ([1, 1, 68, 12, 191, 104], .tt), ([2, 12, 191, 104], .tt), ([5, 12, 191, 104], .tt), ([9, 118], .tt), ([1, 1, 72, 12, 192, 104], .tt), ([2, 12, 192, 104], .tt), ([5, 12, 192, 104], .tt), ([9, 119], .tt), ([1, 12, 321, 12, 161, 352], .tt), ([], (Jvm.Cond.privateMethod ({ cls := "WhoMentionsItModel", name := "sumOn", desc := "(J)I" } : Jvm.MethodName))), ([2, 12, 161, 352], .tt), ([9, 99], .tt), ([], (Jvm.Cond.constantLong "WhoMentionsItModel" (256 : Nat) (9999 : Int64))), ([1, 1, 76, 12, 193, 104], .tt)]
set_option maxRecDepth 100000 in
theorem eqC_6_ok : tables_1_6 = eqC_6.map (fun p => eqDc p.1 p.2) := rfl
set_option maxRecDepth 100000 in
theorem eqC_6_n : eqC_6.length = 240 := rfl
def eqC_7 : List (List Nat × Cond) := [([2, 12, 193, 104], .tt), ([5, 12, 193, 104], .tt), ([9, 121], .tt), ([1, 12, 325, 12, 353, 104], .tt), ([], (Jvm.Cond.privateMethod ({ cls := "WhoMentionsItModel", name := "canOf", desc := "(I)I" } : Jvm.MethodName))), ([2, 12, 353, 104], .tt), ([9, 120], .tt), ([1, 1, 80, 12, 195, 104], .tt), ([2, 12, 195, 104], .tt), ([5, 12, 195, 104], .tt), ([9, 122], .tt), ([1, 1, 84, 12, 196, 104], .tt), ([2, 12, 196, 104], .tt), ([5, 12, 196, 104], .tt), ([9, 123], .tt), ([], (Jvm.Cond.constant "WhoMentionsItModel" (328 : Nat) (-2000000000 : Int32))), ([1, 1, 88, 12, 197, 90], .tt), ([2, 12, 197, 90], .tt), ([5, 12, 197, 90], .tt), ([9, 125], .tt), ([1, 12, 329, 12, 354, 15], .tt), ([], (Jvm.Cond.privateMethod ({ cls := "WhoMentionsItModel", name := "findShares", desc := "()V" } : Jvm.MethodName))), ([2, 12, 354, 15], .tt), ([9, 124], .tt), ([1, 1, 92, 12, 200, 90], .tt), ([2, 12, 200, 90], .tt), ([5, 12, 200, 90], .tt), ([9, 127], .tt), ([1, 12, 341, 12, 355, 124], .tt), ([], (Jvm.Cond.privateMethod ({ cls := "WhoMentionsItModel", name := "goTalk", desc := "(I)V" } : Jvm.MethodName))), ([2, 12, 355, 124], .tt), ([9, 126], .tt), ([1, 1, 96, 12, 202, 98], .tt), ([2, 12, 202, 98], .tt), ([5, 12, 202, 98], .tt), ([9, 129], .tt), ([1, 12, 350, 12, 356, 172], .tt), ([], (Jvm.Cond.privateMethod ({ cls := "WhoMentionsItModel", name := "findAnswer", desc := "(II)V" } : Jvm.MethodName))), ([2, 12, 356, 172], .tt), ([9, 128], .tt), ([1, 1, 100, 12, 205, 104], .tt), ([2, 12, 205, 104], .tt), ([5, 12, 205, 104], .tt), ([9, 130], .tt), ([1, 1, 104, 12, 207, 90], .tt), ([2, 12, 207, 90], .tt), ([5, 12, 207, 90], .tt), ([9, 133], .tt), ([1, 12, 365, 12, 357, 90], .tt), ([], (Jvm.Cond.privateMethod ({ cls := "WhoMentionsItModel", name := "wrongMonth", desc := "(II)I" } : Jvm.MethodName))), ([2, 12, 357, 90], .tt), ([9, 132], .tt), ([1, 12, 362, 12, 358, 100], .tt), ([], (Jvm.Cond.privateMethod ({ cls := "WhoMentionsItModel", name := "readsNext", desc := "(I)Z" } : Jvm.MethodName))), ([2, 12, 358, 100], .tt), ([9, 131], .tt), ([1, 1, 108, 12, 212, 98], .tt), ([2, 12, 212, 98], .tt), ([5, 12, 212, 98], .tt), ([9, 135], .tt), ([1, 12, 368, 12, 217, 90], .tt), ([], (Jvm.Cond.privateMethod ({ cls := "WhoMentionsItModel", name := "tooNear", desc := "(II)I" } : Jvm.MethodName))), ([2, 12, 217, 90], .tt), ([9, 134], .tt), ([1, 1, 112, 12, 218, 90], .tt), ([2, 12, 218, 90], .tt), ([5, 12, 218, 90], .tt), ([9, 136], .tt), ([1, 1, 116, 12, 219, 98], .tt), ([2, 12, 219, 98], .tt), ([5, 12, 219, 98], .tt), ([9, 137], .tt), ([], (Jvm.Cond.constant "WhoMentionsItModel" (371 : Nat) (1103515245 : Int32))), ([1, 1, 120, 12, 220, 90], .tt), ([2, 12, 220, 90], .tt), ([5, 12, 220, 90], .tt), ([9, 138], .tt), ([1, 1, 124, 12, 222, 120], .tt), ([2, 12, 222, 120], .tt), ([5, 12, 222, 120], .tt), ([9, 139], .tt), ([1, 1, 128, 12, 224, 120], .tt), ([2, 12, 224, 120], .tt), ([5, 12, 224, 120], .tt), ([9, 140], .tt), ([1, 1, 132, 12, 61, 104], .tt), ([2, 12, 61, 104], .tt), ([5, 12, 61, 104], .tt), ([9, 141], .tt), ([1, 1, 136, 12, 226, 120], .tt), ([2, 12, 226, 120], .tt), ([5, 12, 226, 120], .tt), ([9, 142], .tt), ([1, 1, 140, 12, 228, 120], .tt), ([2, 12, 228, 120], .tt), ([5, 12, 228, 120], .tt), ([9, 143], .tt), ([1, 1, 160, 12, 242, 104], .tt), ([2, 12, 242, 104], .tt), ([5, 12, 242, 104], .tt), ([9, 146], .tt), ([1, 1, 152, 12, 75, 104], .tt), ([2, 12, 75, 104], .tt), ([5, 12, 75, 104], .tt), ([9, 147], .tt), ([1, 1, 156, 12, 236, 98], .tt), ([2, 12, 236, 98], .tt), ([5, 12, 236, 98], .tt), ([9, 160], .tt), ([1, 12, 429, 12, 359, 100], .tt), ([], (Jvm.Cond.privateMethod ({ cls := "WhoMentionsItModel", name := "isBody", desc := "(I)Z" } : Jvm.MethodName))), ([2, 12, 359, 100], .tt), ([9, 144], .tt), ([1, 12, 405, 12, 221, 90], .tt), ([], (Jvm.Cond.privateMethod ({ cls := "WhoMentionsItModel", name := "saying", desc := "(II)I" } : Jvm.MethodName))), ([2, 12, 221, 90], .tt), ([9, 151], .tt), ([1, 12, 399, 12, 261, 94], .tt), ([3, 12, 261, 94], .tt), ([9, 148], .tt), ([1, 12, 393, 12, 69, 124], .tt), ([], (Jvm.Cond.privateMethod ({ cls := "WhoMentionsItModel", name := "ran", desc := "(I)V" } : Jvm.MethodName))), ([2, 12, 69, 124], .tt), ([9, 145], .tt), ([1, 12, 396, 12, 360, 90], .tt), ([], (Jvm.Cond.privateMethod ({ cls := "WhoMentionsItModel", name := "plainSays", desc := "(II)I" } : Jvm.MethodName))), ([2, 12, 360, 90], .tt), ([9, 149], .tt), ([1, 12, 402, 12, 361, 90], .tt), ([], (Jvm.Cond.privateMethod ({ cls := "WhoMentionsItModel", name := "foreignSays", desc := "(II)I" } : Jvm.MethodName))), ([2, 12, 361, 90], .tt), ([9, 150], .tt), ([1, 12, 423, 12, 362, 90], .tt), ([], (Jvm.Cond.privateMethod ({ cls := "WhoMentionsItModel", name := "nearing", desc := "(II)I" } : Jvm.MethodName))), ([2, 12, 362, 90], .tt), ([9, 154], .tt), ([1, 12, 411, 12, 363, 90], .tt), ([], (Jvm.Cond.privateMethod ({ cls := "WhoMentionsItModel", name := "stammerNears", desc := "(II)I" } : Jvm.MethodName))), ([2, 12, 363, 90], .tt), ([9, 153], .tt), ([1, 12, 408, 12, 364, 90], .tt), ([], (Jvm.Cond.privateMethod ({ cls := "WhoMentionsItModel", name := "plainNears", desc := "(II)I" } : Jvm.MethodName))), ([2, 12, 364, 90], .tt), ([9, 152], .tt), ([1, 12, 414, 12, 365, 90], .tt), ([], (Jvm.Cond.privateMethod ({ cls := "WhoMentionsItModel", name := "paying", desc := "(II)I" } : Jvm.MethodName))), ([2, 12, 365, 90], .tt), ([9, 157], .tt), ([1, 12, 420, 12, 366, 90], .tt), ([], (Jvm.Cond.privateMethod ({ cls := "WhoMentionsItModel", name := "songPays", desc := "(II)I" } : Jvm.MethodName))), ([2, 12, 366, 90], .tt), ([9, 156], .tt), ([1, 12, 417, 12, 367, 90], .tt), ([], (Jvm.Cond.privateMethod ({ cls := "WhoMentionsItModel", name := "plainPays", desc := "(II)I" } : Jvm.MethodName))), ([2, 12, 367, 90], .tt), ([9, 155], .tt), ([1, 12, 432, 12, 368, 90], .tt), ([], (Jvm.Cond.privateMethod ({ cls := "WhoMentionsItModel", name := "telling", desc := "(II)I" } : Jvm.MethodName))), ([2, 12, 368, 90], .tt), ([9, 159], .tt), ([1, 12, 426, 12, 369, 90], .tt), ([], (Jvm.Cond.privateMethod ({ cls := "WhoMentionsItModel", name := "plainTells", desc := "(II)I" } : Jvm.MethodName))), ([2, 12, 369, 90], .tt), ([9, 158], .tt), ([1, 1, 193, 12, 262, 104], .tt), ([2, 12, 262, 104], .tt), ([5, 12, 262, 104], .tt), ([9, 161], .tt), ([1, 1, 164, 12, 244, 90], .tt), ([2, 12, 244, 90], .tt), ([5, 12, 244, 90], .tt), ([9, 163], .tt), ([1, 1, 168, 12, 247, 98], .tt), ([2, 12, 247, 98], .tt), ([5, 12, 247, 98], .tt), ([9, 164], .tt), ([1, 1, 175, 12, 249, 250], .tt), ([2, 12, 249, 250], .tt), ([5, 12, 249, 250], .tt), ([9, 166], .tt), ([1, 12, 435, 12, 370, 90], .tt), ([], (Jvm.Cond.privateMethod ({ cls := "WhoMentionsItModel", name := "whyNoPlace", desc := "(II)I" } : Jvm.MethodName))), ([2, 12, 370, 90], .tt), ([9, 165], .tt), ([1, 1, 180, 12, 254, 255], .tt), ([2, 12, 254, 255], .tt), ([5, 12, 254, 255], .tt), ([9, 167], .tt), ([], (Jvm.Cond.constantLong "WhoMentionsItModel" (440 : Nat) (-9223372036854775808 : Int64))), ([1, 1, 185, 12, 256, 257], .tt), ([2, 12, 256, 257], .tt), ([5, 12, 256, 257], .tt), ([9, 168], .tt), ([1, 1, 189, 12, 259, 90], .tt), ([2, 12, 259, 90], .tt), ([5, 12, 259, 90], .tt), ([9, 169], .tt), ([], (Jvm.Cond.constantLong "WhoMentionsItLaw" (169 : Nat) (4294967295 : Int64)))]
set_option maxRecDepth 100000 in
theorem eqC_7_ok : tables_1_7 = eqC_7.map (fun p => eqDc p.1 p.2) := rfl
set_option maxRecDepth 100000 in
theorem eqC_7_n : eqC_7.length = 198 := rfl
def eqC : List (List Nat × Cond) := eqC_0 ++ (eqC_1 ++ (eqC_2 ++ (eqC_3 ++ (eqC_4 ++ (eqC_5 ++ (eqC_6 ++ (eqC_7)))))))
theorem eqC_ok : lw_tbl = eqC.map (fun p => eqDc p.1 p.2) := by
  show k2_sels lw_privs ++ (tables_1_1 ++ (tables_1_2 ++ (tables_1_3 ++ (tables_1_4 ++ (tables_1_5 ++ (tables_1_6 ++ (tables_1_7))))))) = (eqC_0 ++ (eqC_1 ++ (eqC_2 ++ (eqC_3 ++ (eqC_4 ++ (eqC_5 ++ (eqC_6 ++ (eqC_7)))))))).map (fun p => eqDc p.1 p.2)
  rw [eqC_0_ok, eqC_1_ok, eqC_2_ok, eqC_3_ok, eqC_4_ok, eqC_5_ok, eqC_6_ok, eqC_7_ok]
  simp only [List.map_append]
def eqCat (i : Nat) : Option (List Nat × Cond) := (eqApp eqC_0 105 (eqApp eqC_1 240 (eqApp eqC_2 240 (eqApp eqC_3 240 (eqApp eqC_4 240 (eqApp eqC_5 240 (eqApp eqC_6 240 (eqAt eqC_7)))))))) i
theorem eqCat_ok (i : Nat) : eqCat i = eqC[i]? := (eqApp_eq eqC_0_n (eqApp_eq eqC_1_n (eqApp_eq eqC_2_n (eqApp_eq eqC_3_n (eqApp_eq eqC_4_n (eqApp_eq eqC_5_n (eqApp_eq eqC_6_n (eqAt_eq eqC_7)))))))) i
def eqRel (o : Option eM) (c : Option eqN) : Prop := ∀ M, o = some M → ∃ q, c = some q ∧ M.1 = eqM q
theorem eqRel_b {t : Bool} {a b : Option eM} {a' b' : Option eqN} (ha : eqRel a a') (hb : eqRel b b') : eqRel (@Bool.rec (fun _ => Option eM) a b t) (@Bool.rec (fun _ => Option eqN) a' b' t) := by
  cases t
  · exact ha
  · exact hb
theorem eqRel_n {c : Option eqN} : eqRel none c := fun M h => by cases h
theorem eqRel_s {M : eM} {q : eqN} (h : M.1 = eqM q) : eqRel (some M) (some q) := fun M' e => by
  cases e
  exact ⟨q, rfl, h⟩
theorem eqN_0 : em_0.1 = eqM (2, 0, 15) := rfl
theorem eqN_1 : em_1.1 = eqM (2, 89, 90) := rfl
theorem eqN_2 : em_2.1 = eqM (2, 19, 98) := rfl
theorem eqN_3 : em_3.1 = eqM (2, 102, 103) := rfl
theorem eqN_4 : em_4.1 = eqM (2, 105, 104) := rfl
theorem eqN_5 : em_5.1 = eqM (2, 107, 98) := rfl
theorem eqN_6 : em_6.1 = eqM (2, 116, 90) := rfl
theorem eqN_7 : em_7.1 = eqM (2, 117, 104) := rfl
theorem eqN_8 : em_8.1 = eqM (2, 119, 120) := rfl
theorem eqN_9 : em_9.1 = eqM (2, 140, 98) := rfl
theorem eqN_10 : em_10.1 = eqM (2, 163, 98) := rfl
theorem eqN_11 : em_11.1 = eqM (2, 179, 90) := rfl
theorem eqN_12 : em_12.1 = eqM (2, 187, 90) := rfl
theorem eqN_13 : em_13.1 = eqM (2, 190, 90) := rfl
theorem eqN_14 : em_14.1 = eqM (2, 191, 104) := rfl
theorem eqN_15 : em_15.1 = eqM (2, 192, 104) := rfl
theorem eqN_16 : em_16.1 = eqM (2, 193, 104) := rfl
theorem eqN_17 : em_17.1 = eqM (2, 194, 104) := rfl
theorem eqN_18 : em_18.1 = eqM (2, 195, 104) := rfl
theorem eqN_19 : em_19.1 = eqM (2, 196, 104) := rfl
theorem eqN_20 : em_20.1 = eqM (2, 197, 90) := rfl
theorem eqN_21 : em_21.1 = eqM (2, 200, 90) := rfl
theorem eqN_22 : em_22.1 = eqM (2, 201, 90) := rfl
theorem eqN_23 : em_23.1 = eqM (2, 202, 98) := rfl
theorem eqN_24 : em_24.1 = eqM (2, 204, 100) := rfl
theorem eqN_25 : em_25.1 = eqM (2, 205, 104) := rfl
theorem eqN_26 : em_26.1 = eqM (2, 207, 90) := rfl
theorem eqN_27 : em_27.1 = eqM (2, 208, 209) := rfl
theorem eqN_28 : em_28.1 = eqM (2, 212, 98) := rfl
theorem eqN_29 : em_29.1 = eqM (2, 213, 214) := rfl
theorem eqN_30 : em_30.1 = eqM (2, 216, 214) := rfl
theorem eqN_31 : em_31.1 = eqM (2, 217, 214) := rfl
theorem eqN_32 : em_32.1 = eqM (2, 218, 90) := rfl
theorem eqN_33 : em_33.1 = eqM (2, 219, 98) := rfl
theorem eqN_34 : em_34.1 = eqM (2, 220, 90) := rfl
theorem eqN_35 : em_35.1 = eqM (2, 222, 120) := rfl
theorem eqN_36 : em_36.1 = eqM (2, 224, 120) := rfl
theorem eqN_37 : em_37.1 = eqM (2, 61, 104) := rfl
theorem eqN_38 : em_38.1 = eqM (2, 226, 120) := rfl
theorem eqN_39 : em_39.1 = eqM (2, 228, 120) := rfl
theorem eqN_40 : em_40.1 = eqM (2, 230, 120) := rfl
theorem eqN_41 : em_41.1 = eqM (2, 232, 120) := rfl
theorem eqN_42 : em_42.1 = eqM (2, 75, 104) := rfl
theorem eqN_43 : em_43.1 = eqM (2, 236, 98) := rfl
theorem eqN_44 : em_44.1 = eqM (2, 242, 104) := rfl
theorem eqN_45 : em_45.1 = eqM (2, 244, 90) := rfl
theorem eqN_46 : em_46.1 = eqM (2, 247, 98) := rfl
theorem eqN_47 : em_47.1 = eqM (2, 249, 250) := rfl
theorem eqN_48 : em_48.1 = eqM (2, 254, 255) := rfl
theorem eqN_49 : em_49.1 = eqM (2, 256, 257) := rfl
theorem eqN_50 : em_50.1 = eqM (2, 259, 90) := rfl
theorem eqN_51 : em_51.1 = eqM (2, 262, 104) := rfl
theorem eqN_52 : em_52.1 = eqM (2, 99, 100) := rfl
theorem eqN_53 : em_53.1 = eqM (2, 164, 100) := rfl
theorem eqN_54 : em_54.1 = eqM (12, 0, 15) := rfl
theorem eqN_55 : em_55.1 = eqM (12, 311, 92) := rfl
theorem eqN_56 : em_56.1 = eqM (12, 109, 100) := rfl
theorem eqN_57 : em_57.1 = eqM (12, 110, 100) := rfl
theorem eqN_58 : em_58.1 = eqM (12, 97, 98) := rfl
theorem eqN_59 : em_59.1 = eqM (12, 89, 90) := rfl
theorem eqN_60 : em_60.1 = eqM (12, 19, 98) := rfl
theorem eqN_61 : em_61.1 = eqM (12, 105, 104) := rfl
theorem eqN_62 : em_62.1 = eqM (12, 315, 90) := rfl
theorem eqN_63 : em_63.1 = eqM (12, 312, 112) := rfl
theorem eqN_64 : em_64.1 = eqM (12, 77, 98) := rfl
theorem eqN_65 : em_65.1 = eqM (12, 230, 120) := rfl
theorem eqN_66 : em_66.1 = eqM (12, 232, 120) := rfl
theorem eqN_67 : em_67.1 = eqM (12, 313, 94) := rfl
theorem eqN_68 : em_68.1 = eqM (12, 314, 94) := rfl
theorem eqN_69 : em_69.1 = eqM (12, 107, 98) := rfl
theorem eqN_70 : em_70.1 = eqM (12, 116, 90) := rfl
theorem eqN_71 : em_71.1 = eqM (12, 117, 104) := rfl
theorem eqN_72 : em_72.1 = eqM (12, 324, 120) := rfl
theorem eqN_73 : em_73.1 = eqM (12, 328, 15) := rfl
theorem eqN_74 : em_74.1 = eqM (12, 326, 172) := rfl
theorem eqN_75 : em_75.1 = eqM (12, 325, 104) := rfl
theorem eqN_76 : em_76.1 = eqM (12, 327, 150) := rfl
theorem eqN_77 : em_77.1 = eqM (12, 329, 15) := rfl
theorem eqN_78 : em_78.1 = eqM (12, 323, 15) := rfl
theorem eqN_79 : em_79.1 = eqM (12, 322, 15) := rfl
theorem eqN_80 : em_80.1 = eqM (12, 321, 15) := rfl
theorem eqN_81 : em_81.1 = eqM (12, 320, 15) := rfl
theorem eqN_82 : em_82.1 = eqM (12, 319, 15) := rfl
theorem eqN_83 : em_83.1 = eqM (12, 318, 15) := rfl
theorem eqN_84 : em_84.1 = eqM (12, 317, 15) := rfl
theorem eqN_85 : em_85.1 = eqM (12, 316, 104) := rfl
theorem eqN_86 : em_86.1 = eqM (12, 336, 98) := rfl
theorem eqN_87 : em_87.1 = eqM (12, 335, 98) := rfl
theorem eqN_88 : em_88.1 = eqM (12, 334, 104) := rfl
theorem eqN_89 : em_89.1 = eqM (12, 119, 120) := rfl
theorem eqN_90 : em_90.1 = eqM (12, 333, 177) := rfl
theorem eqN_91 : em_91.1 = eqM (12, 330, 90) := rfl
theorem eqN_92 : em_92.1 = eqM (12, 36, 90) := rfl
theorem eqN_93 : em_93.1 = eqM (12, 331, 124) := rfl
theorem eqN_94 : em_94.1 = eqM (12, 332, 90) := rfl
theorem eqN_95 : em_95.1 = eqM (12, 351, 90) := rfl
theorem eqN_96 : em_96.1 = eqM (12, 350, 98) := rfl
theorem eqN_97 : em_97.1 = eqM (12, 337, 104) := rfl
theorem eqN_98 : em_98.1 = eqM (12, 160, 100) := rfl
theorem eqN_99 : em_99.1 = eqM (12, 161, 352) := rfl
theorem eqN_100 : em_100.1 = eqM (12, 338, 98) := rfl
theorem eqN_101 : em_101.1 = eqM (12, 208, 104) := rfl
theorem eqN_102 : em_102.1 = eqM (12, 140, 98) := rfl
theorem eqN_103 : em_103.1 = eqM (12, 340, 124) := rfl
theorem eqN_104 : em_104.1 = eqM (12, 341, 172) := rfl
theorem eqN_105 : em_105.1 = eqM (12, 343, 257) := rfl
theorem eqN_106 : em_106.1 = eqM (12, 344, 98) := rfl
theorem eqN_107 : em_107.1 = eqM (12, 342, 124) := rfl
theorem eqN_108 : em_108.1 = eqM (12, 345, 90) := rfl
theorem eqN_109 : em_109.1 = eqM (12, 339, 100) := rfl
theorem eqN_110 : em_110.1 = eqM (12, 163, 98) := rfl
theorem eqN_111 : em_111.1 = eqM (12, 349, 100) := rfl
theorem eqN_112 : em_112.1 = eqM (12, 348, 124) := rfl
theorem eqN_113 : em_113.1 = eqM (12, 211, 347) := rfl
theorem eqN_114 : em_114.1 = eqM (12, 346, 172) := rfl
theorem eqN_115 : em_115.1 = eqM (12, 179, 90) := rfl
theorem eqN_116 : em_116.1 = eqM (12, 187, 90) := rfl
theorem eqN_117 : em_117.1 = eqM (12, 190, 90) := rfl
theorem eqN_118 : em_118.1 = eqM (12, 191, 104) := rfl
theorem eqN_119 : em_119.1 = eqM (12, 192, 104) := rfl
theorem eqN_120 : em_120.1 = eqM (12, 353, 104) := rfl
theorem eqN_121 : em_121.1 = eqM (12, 193, 104) := rfl
theorem eqN_122 : em_122.1 = eqM (12, 195, 104) := rfl
theorem eqN_123 : em_123.1 = eqM (12, 196, 104) := rfl
theorem eqN_124 : em_124.1 = eqM (12, 354, 15) := rfl
theorem eqN_125 : em_125.1 = eqM (12, 197, 90) := rfl
theorem eqN_126 : em_126.1 = eqM (12, 355, 124) := rfl
theorem eqN_127 : em_127.1 = eqM (12, 200, 90) := rfl
theorem eqN_128 : em_128.1 = eqM (12, 356, 172) := rfl
theorem eqN_129 : em_129.1 = eqM (12, 202, 98) := rfl
theorem eqN_130 : em_130.1 = eqM (12, 205, 104) := rfl
theorem eqN_131 : em_131.1 = eqM (12, 358, 100) := rfl
theorem eqN_132 : em_132.1 = eqM (12, 357, 90) := rfl
theorem eqN_133 : em_133.1 = eqM (12, 207, 90) := rfl
theorem eqN_134 : em_134.1 = eqM (12, 217, 90) := rfl
theorem eqN_135 : em_135.1 = eqM (12, 212, 98) := rfl
theorem eqN_136 : em_136.1 = eqM (12, 218, 90) := rfl
theorem eqN_137 : em_137.1 = eqM (12, 219, 98) := rfl
theorem eqN_138 : em_138.1 = eqM (12, 220, 90) := rfl
theorem eqN_139 : em_139.1 = eqM (12, 222, 120) := rfl
theorem eqN_140 : em_140.1 = eqM (12, 224, 120) := rfl
theorem eqN_141 : em_141.1 = eqM (12, 61, 104) := rfl
theorem eqN_142 : em_142.1 = eqM (12, 226, 120) := rfl
theorem eqN_143 : em_143.1 = eqM (12, 228, 120) := rfl
theorem eqN_144 : em_144.1 = eqM (12, 359, 100) := rfl
theorem eqN_145 : em_145.1 = eqM (12, 69, 124) := rfl
theorem eqN_146 : em_146.1 = eqM (12, 242, 104) := rfl
theorem eqN_147 : em_147.1 = eqM (12, 75, 104) := rfl
theorem eqN_148 : em_148.1 = eqM (12, 261, 94) := rfl
theorem eqN_149 : em_149.1 = eqM (12, 360, 90) := rfl
theorem eqN_150 : em_150.1 = eqM (12, 361, 90) := rfl
theorem eqN_151 : em_151.1 = eqM (12, 221, 90) := rfl
theorem eqN_152 : em_152.1 = eqM (12, 364, 90) := rfl
theorem eqN_153 : em_153.1 = eqM (12, 363, 90) := rfl
theorem eqN_154 : em_154.1 = eqM (12, 362, 90) := rfl
theorem eqN_155 : em_155.1 = eqM (12, 367, 90) := rfl
theorem eqN_156 : em_156.1 = eqM (12, 366, 90) := rfl
theorem eqN_157 : em_157.1 = eqM (12, 365, 90) := rfl
theorem eqN_158 : em_158.1 = eqM (12, 369, 90) := rfl
theorem eqN_159 : em_159.1 = eqM (12, 368, 90) := rfl
theorem eqN_160 : em_160.1 = eqM (12, 236, 98) := rfl
theorem eqN_161 : em_161.1 = eqM (12, 262, 104) := rfl
theorem eqN_162 : em_162.1 = eqM (12, 99, 100) := rfl
theorem eqN_163 : em_163.1 = eqM (12, 244, 90) := rfl
theorem eqN_164 : em_164.1 = eqM (12, 247, 98) := rfl
theorem eqN_165 : em_165.1 = eqM (12, 370, 90) := rfl
theorem eqN_166 : em_166.1 = eqM (12, 249, 250) := rfl
theorem eqN_167 : em_167.1 = eqM (12, 254, 255) := rfl
theorem eqN_168 : em_168.1 = eqM (12, 256, 257) := rfl
theorem eqN_169 : em_169.1 = eqM (12, 259, 90) := rfl
theorem eqN_170 : em_170.1 = eqM (10, 0, 15) := rfl
theorem eqN_171 : em_171.1 = eqM (10, 234, 100) := rfl
theorem eqN_172 : em_172.1 = eqM (10, 261, 94) := rfl
theorem eqN_173 : em_173.1 = eqM (10, 108, 100) := rfl
theorem eqN_174 : em_174.1 = eqM (10, 243, 100) := rfl
theorem eqN_175 : em_175.1 = eqM (10, 260, 104) := rfl
theorem eqN_176 : em_176.1 = eqM (10, 235, 104) := rfl
theorem eqN_177 : em_177.1 = eqM (10, 237, 98) := rfl
theorem eqN_178 : em_178.1 = eqM (10, 238, 177) := rfl
theorem eqN_179 : em_179.1 = eqM (10, 241, 98) := rfl
theorem eqN_180 : em_180.1 = eqM (8, 0, 52) := rfl
theorem eqN_181 : em_181.1 = eqM (8, 165, 166) := rfl
theorem eqN_182 : em_182.1 = eqM (8, 167, 100) := rfl
theorem eqN_183 : em_183.1 = eqM (8, 168, 15) := rfl
theorem eqN_184 : em_184.1 = eqM (8, 169, 104) := rfl
theorem eqN_185 : em_185.1 = eqM (8, 171, 172) := rfl
theorem eqN_186 : em_186.1 = eqM (8, 173, 98) := rfl
theorem eqN_187 : em_187.1 = eqM (8, 174, 120) := rfl
theorem eqN_188 : em_188.1 = eqM (8, 175, 104) := rfl
theorem eqN_189 : em_189.1 = eqM (8, 176, 177) := rfl
theorem eqN_190 : em_190.1 = eqM (8, 178, 177) := rfl
theorem eqN_191 : em_191.1 = eqM (8, 170, 90) := rfl
theorem eqN_192 : em_192.1 = eqM (8, 180, 120) := rfl
theorem eqN_193 : em_193.1 = eqM (8, 183, 172) := rfl
theorem eqN_194 : em_194.1 = eqM (8, 184, 172) := rfl
theorem eqN_195 : em_195.1 = eqM (8, 185, 104) := rfl
theorem eqN_196 : em_196.1 = eqM (8, 181, 15) := rfl
theorem eqN_197 : em_197.1 = eqM (8, 182, 112) := rfl
theorem eqN_198 : em_198.1 = eqM (8, 186, 120) := rfl
theorem eqN_199 : em_199.1 = eqM (4, 0, 22) := rfl
theorem eqN_200 : em_200.1 = eqM (4, 111, 112) := rfl
theorem eqN_201 : em_201.1 = eqM (4, 113, 15) := rfl
theorem eqN_202 : em_202.1 = eqM (4, 231, 120) := rfl
theorem eqN_203 : em_203.1 = eqM (4, 233, 120) := rfl
theorem eqN_204 : em_204.1 = eqM (9, 0, 22) := rfl
theorem eqN_205 : em_205.1 = eqM (9, 221, 90) := rfl
theorem eqN_206 : em_206.1 = eqM (9, 223, 120) := rfl
theorem eqN_207 : em_207.1 = eqM (9, 225, 120) := rfl
theorem eqN_208 : em_208.1 = eqM (9, 227, 15) := rfl
theorem eqN_209 : em_209.1 = eqM (9, 229, 15) := rfl
theorem eqN_210 : em_210.1 = eqM (6, 0, 15) := rfl
theorem eqN_211 : em_211.1 = eqM (6, 137, 138) := rfl
theorem eqN_212 : em_212.1 = eqM (6, 149, 150) := rfl
theorem eqN_213 : em_213.1 = eqM (6, 151, 112) := rfl
theorem eqN_214 : em_214.1 = eqM (6, 152, 112) := rfl
theorem eqN_215 : em_215.1 = eqM (6, 153, 120) := rfl
theorem eqN_216 : em_216.1 = eqM (6, 134, 100) := rfl
theorem eqN_217 : em_217.1 = eqM (6, 154, 104) := rfl
theorem eqN_218 : em_218.1 = eqM (6, 156, 98) := rfl
theorem eqN_219 : em_219.1 = eqM (5, 0, 15) := rfl
theorem eqN_220 : em_220.1 = eqM (5, 118, 104) := rfl
theorem eqN_221 : em_221.1 = eqM (5, 121, 120) := rfl
theorem eqN_222 : em_222.1 = eqM (5, 122, 15) := rfl
theorem eqN_223 : em_223.1 = eqM (5, 123, 124) := rfl
theorem eqN_224 : em_224.1 = eqM (5, 125, 124) := rfl
theorem eqN_225 : em_225.1 = eqM (5, 126, 124) := rfl
theorem eqN_226 : em_226.1 = eqM (5, 127, 124) := rfl
theorem eqN_227 : em_227.1 = eqM (5, 128, 124) := rfl
theorem eqN_228 : em_228.1 = eqM (5, 136, 100) := rfl
theorem eqN_229 : em_229.1 = eqM (5, 129, 124) := rfl
theorem eqN_230 : em_230.1 = eqM (5, 135, 15) := rfl
theorem eqN_231 : em_231.1 = eqM (5, 132, 15) := rfl
theorem eqN_232 : em_232.1 = eqM (5, 131, 100) := rfl
theorem eqN_233 : em_233.1 = eqM (5, 130, 120) := rfl
theorem eqN_234 : em_234.1 = eqM (5, 133, 124) := rfl
theorem eqN_235 : em_235.1 = eqM (3, 0, 15) := rfl
theorem eqN_236 : em_236.1 = eqM (3, 109, 100) := rfl
theorem eqN_237 : em_237.1 = eqM (3, 110, 100) := rfl
theorem eqN_238 : em_238.1 = eqM (3, 108, 94) := rfl
theorem eqN_239 : em_239.1 = eqM (3, 93, 94) := rfl
theorem eqN_240 : em_240.1 = eqM (3, 91, 92) := rfl
theorem eqN_241 : em_241.1 = eqM (3, 97, 98) := rfl
theorem eqN_242 : em_242.1 = eqM (3, 106, 104) := rfl
theorem eqN_243 : em_243.1 = eqM (3, 39, 104) := rfl
theorem eqN_244 : em_244.1 = eqM (3, 40, 104) := rfl
theorem eqN_245 : em_245.1 = eqM (3, 35, 104) := rfl
theorem eqN_246 : em_246.1 = eqM (3, 158, 120) := rfl
theorem eqN_247 : em_247.1 = eqM (3, 206, 104) := rfl
theorem eqN_248 : em_248.1 = eqM (3, 157, 104) := rfl
theorem eqN_249 : em_249.1 = eqM (3, 161, 104) := rfl
theorem eqN_250 : em_250.1 = eqM (3, 160, 100) := rfl
theorem eqN_251 : em_251.1 = eqM (3, 159, 98) := rfl
theorem eqN_252 : em_252.1 = eqM (3, 198, 104) := rfl
theorem eqN_253 : em_253.1 = eqM (3, 199, 90) := rfl
theorem eqN_254 : em_254.1 = eqM (11, 0, 15) := rfl
theorem eqN_255 : em_255.1 = eqM (11, 245, 15) := rfl
theorem eqN_256 : em_256.1 = eqM (11, 246, 124) := rfl
theorem eqN_257 : em_257.1 = eqM (11, 248, 172) := rfl
theorem eqN_258 : em_258.1 = eqM (11, 101, 100) := rfl
theorem eqN_259 : em_259.1 = eqM (11, 141, 104) := rfl
theorem eqN_260 : em_260.1 = eqM (11, 251, 104) := rfl
theorem eqN_261 : em_261.1 = eqM (11, 258, 94) := rfl
theorem eqN_262 : em_262.1 = eqM (11, 252, 253) := rfl
theorem eqN_263 : em_263.1 = eqM (11, 71, 104) := rfl
theorem eqN_264 : em_264.1 = eqM (7, 0, 45) := rfl
theorem eqN_265 : em_265.1 = eqM (7, 142, 124) := rfl
theorem eqN_266 : em_266.1 = eqM (7, 148, 98) := rfl
theorem eqN_267 : em_267.1 = eqM (7, 147, 90) := rfl
theorem eqN_268 : em_268.1 = eqM (7, 146, 104) := rfl
theorem eqN_269 : em_269.1 = eqM (7, 145, 120) := rfl
theorem eqN_270 : em_270.1 = eqM (7, 178, 104) := rfl
theorem eqN_271 : em_271.1 = eqM (7, 162, 104) := rfl
theorem eqN_272 : em_272.1 = eqM (7, 189, 104) := rfl
theorem eqN_273 : em_273.1 = eqM (7, 188, 90) := rfl
theorem eqN_274 : em_274.1 = eqM (7, 203, 104) := rfl
theorem eqN_275 : em_275.1 = eqM (7, 118, 124) := rfl
theorem eqN_276 : em_276.1 = eqM (7, 215, 120) := rfl
theorem eqN_277 : em_277.1 = eqM (7, 211, 100) := rfl
theorem eqN_278 : em_278.1 = eqM (7, 143, 144) := rfl
theorem eqN_279 : em_279.1 = eqM (7, 210, 209) := rfl
theorem eqN_280 : em_280.1 = eqM (1, 119, 371) := rfl
def eqMc (mi : Nat) : Option eqN := @Bool.rec (fun _ => Option eqN)
 (@Bool.rec (fun _ => Option eqN)
  (@Bool.rec (fun _ => Option eqN)
   (@Bool.rec (fun _ => Option eqN)
    (@Bool.rec (fun _ => Option eqN)
     (@Bool.rec (fun _ => Option eqN)
      (@Bool.rec (fun _ => Option eqN)
       (@Bool.rec (fun _ => Option eqN)
        (@Bool.rec (fun _ => Option eqN)
         (@Bool.rec (fun _ => Option eqN) none (some (1, 119, 371)) (Nat.beq mi 280))
         (@Bool.rec (fun _ => Option eqN) none (some (7, 210, 209)) (Nat.beq mi 279)) (Nat.blt mi 280))
        (@Bool.rec (fun _ => Option eqN) none (some (7, 143, 144)) (Nat.beq mi 278)) (Nat.blt mi 279))
       (@Bool.rec (fun _ => Option eqN)
        (@Bool.rec (fun _ => Option eqN) none (some (7, 211, 100)) (Nat.beq mi 277))
        (@Bool.rec (fun _ => Option eqN) none (some (7, 215, 120)) (Nat.beq mi 276)) (Nat.blt mi 277)) (Nat.blt mi 278))
      (@Bool.rec (fun _ => Option eqN)
       (@Bool.rec (fun _ => Option eqN)
        (@Bool.rec (fun _ => Option eqN) none (some (7, 118, 124)) (Nat.beq mi 275))
        (@Bool.rec (fun _ => Option eqN) none (some (7, 203, 104)) (Nat.beq mi 274)) (Nat.blt mi 275))
       (@Bool.rec (fun _ => Option eqN)
        (@Bool.rec (fun _ => Option eqN) none (some (7, 188, 90)) (Nat.beq mi 273))
        (@Bool.rec (fun _ => Option eqN) none (some (7, 189, 104)) (Nat.beq mi 272)) (Nat.blt mi 273)) (Nat.blt mi 274)) (Nat.blt mi 276))
     (@Bool.rec (fun _ => Option eqN)
      (@Bool.rec (fun _ => Option eqN)
       (@Bool.rec (fun _ => Option eqN)
        (@Bool.rec (fun _ => Option eqN)
         (@Bool.rec (fun _ => Option eqN) none (some (7, 162, 104)) (Nat.beq mi 271))
         (@Bool.rec (fun _ => Option eqN) none (some (7, 178, 104)) (Nat.beq mi 270)) (Nat.blt mi 271))
        (@Bool.rec (fun _ => Option eqN) none (some (7, 145, 120)) (Nat.beq mi 269)) (Nat.blt mi 270))
       (@Bool.rec (fun _ => Option eqN)
        (@Bool.rec (fun _ => Option eqN) none (some (7, 146, 104)) (Nat.beq mi 268))
        (@Bool.rec (fun _ => Option eqN) none (some (7, 147, 90)) (Nat.beq mi 267)) (Nat.blt mi 268)) (Nat.blt mi 269))
      (@Bool.rec (fun _ => Option eqN)
       (@Bool.rec (fun _ => Option eqN)
        (@Bool.rec (fun _ => Option eqN) none (some (7, 148, 98)) (Nat.beq mi 266))
        (@Bool.rec (fun _ => Option eqN) none (some (7, 142, 124)) (Nat.beq mi 265)) (Nat.blt mi 266))
       (@Bool.rec (fun _ => Option eqN)
        (@Bool.rec (fun _ => Option eqN) none (some (7, 0, 45)) (Nat.beq mi 264))
        (@Bool.rec (fun _ => Option eqN) none (some (11, 71, 104)) (Nat.beq mi 263)) (Nat.blt mi 264)) (Nat.blt mi 265)) (Nat.blt mi 267)) (Nat.blt mi 272))
    (@Bool.rec (fun _ => Option eqN)
     (@Bool.rec (fun _ => Option eqN)
      (@Bool.rec (fun _ => Option eqN)
       (@Bool.rec (fun _ => Option eqN)
        (@Bool.rec (fun _ => Option eqN)
         (@Bool.rec (fun _ => Option eqN) none (some (11, 252, 253)) (Nat.beq mi 262))
         (@Bool.rec (fun _ => Option eqN) none (some (11, 258, 94)) (Nat.beq mi 261)) (Nat.blt mi 262))
        (@Bool.rec (fun _ => Option eqN) none (some (11, 251, 104)) (Nat.beq mi 260)) (Nat.blt mi 261))
       (@Bool.rec (fun _ => Option eqN)
        (@Bool.rec (fun _ => Option eqN) none (some (11, 141, 104)) (Nat.beq mi 259))
        (@Bool.rec (fun _ => Option eqN) none (some (11, 101, 100)) (Nat.beq mi 258)) (Nat.blt mi 259)) (Nat.blt mi 260))
      (@Bool.rec (fun _ => Option eqN)
       (@Bool.rec (fun _ => Option eqN)
        (@Bool.rec (fun _ => Option eqN) none (some (11, 248, 172)) (Nat.beq mi 257))
        (@Bool.rec (fun _ => Option eqN) none (some (11, 246, 124)) (Nat.beq mi 256)) (Nat.blt mi 257))
       (@Bool.rec (fun _ => Option eqN)
        (@Bool.rec (fun _ => Option eqN) none (some (11, 245, 15)) (Nat.beq mi 255))
        (@Bool.rec (fun _ => Option eqN) none (some (11, 0, 15)) (Nat.beq mi 254)) (Nat.blt mi 255)) (Nat.blt mi 256)) (Nat.blt mi 258))
     (@Bool.rec (fun _ => Option eqN)
      (@Bool.rec (fun _ => Option eqN)
       (@Bool.rec (fun _ => Option eqN)
        (@Bool.rec (fun _ => Option eqN)
         (@Bool.rec (fun _ => Option eqN) none (some (3, 199, 90)) (Nat.beq mi 253))
         (@Bool.rec (fun _ => Option eqN) none (some (3, 198, 104)) (Nat.beq mi 252)) (Nat.blt mi 253))
        (@Bool.rec (fun _ => Option eqN) none (some (3, 159, 98)) (Nat.beq mi 251)) (Nat.blt mi 252))
       (@Bool.rec (fun _ => Option eqN)
        (@Bool.rec (fun _ => Option eqN) none (some (3, 160, 100)) (Nat.beq mi 250))
        (@Bool.rec (fun _ => Option eqN) none (some (3, 161, 104)) (Nat.beq mi 249)) (Nat.blt mi 250)) (Nat.blt mi 251))
      (@Bool.rec (fun _ => Option eqN)
       (@Bool.rec (fun _ => Option eqN)
        (@Bool.rec (fun _ => Option eqN) none (some (3, 157, 104)) (Nat.beq mi 248))
        (@Bool.rec (fun _ => Option eqN) none (some (3, 206, 104)) (Nat.beq mi 247)) (Nat.blt mi 248))
       (@Bool.rec (fun _ => Option eqN)
        (@Bool.rec (fun _ => Option eqN) none (some (3, 158, 120)) (Nat.beq mi 246))
        (@Bool.rec (fun _ => Option eqN) none (some (3, 35, 104)) (Nat.beq mi 245)) (Nat.blt mi 246)) (Nat.blt mi 247)) (Nat.blt mi 249)) (Nat.blt mi 254)) (Nat.blt mi 263))
   (@Bool.rec (fun _ => Option eqN)
    (@Bool.rec (fun _ => Option eqN)
     (@Bool.rec (fun _ => Option eqN)
      (@Bool.rec (fun _ => Option eqN)
       (@Bool.rec (fun _ => Option eqN)
        (@Bool.rec (fun _ => Option eqN)
         (@Bool.rec (fun _ => Option eqN) none (some (3, 40, 104)) (Nat.beq mi 244))
         (@Bool.rec (fun _ => Option eqN) none (some (3, 39, 104)) (Nat.beq mi 243)) (Nat.blt mi 244))
        (@Bool.rec (fun _ => Option eqN) none (some (3, 106, 104)) (Nat.beq mi 242)) (Nat.blt mi 243))
       (@Bool.rec (fun _ => Option eqN)
        (@Bool.rec (fun _ => Option eqN) none (some (3, 97, 98)) (Nat.beq mi 241))
        (@Bool.rec (fun _ => Option eqN) none (some (3, 91, 92)) (Nat.beq mi 240)) (Nat.blt mi 241)) (Nat.blt mi 242))
      (@Bool.rec (fun _ => Option eqN)
       (@Bool.rec (fun _ => Option eqN)
        (@Bool.rec (fun _ => Option eqN) none (some (3, 93, 94)) (Nat.beq mi 239))
        (@Bool.rec (fun _ => Option eqN) none (some (3, 108, 94)) (Nat.beq mi 238)) (Nat.blt mi 239))
       (@Bool.rec (fun _ => Option eqN)
        (@Bool.rec (fun _ => Option eqN) none (some (3, 110, 100)) (Nat.beq mi 237))
        (@Bool.rec (fun _ => Option eqN) none (some (3, 109, 100)) (Nat.beq mi 236)) (Nat.blt mi 237)) (Nat.blt mi 238)) (Nat.blt mi 240))
     (@Bool.rec (fun _ => Option eqN)
      (@Bool.rec (fun _ => Option eqN)
       (@Bool.rec (fun _ => Option eqN)
        (@Bool.rec (fun _ => Option eqN)
         (@Bool.rec (fun _ => Option eqN) none (some (3, 0, 15)) (Nat.beq mi 235))
         (@Bool.rec (fun _ => Option eqN) none (some (5, 133, 124)) (Nat.beq mi 234)) (Nat.blt mi 235))
        (@Bool.rec (fun _ => Option eqN) none (some (5, 130, 120)) (Nat.beq mi 233)) (Nat.blt mi 234))
       (@Bool.rec (fun _ => Option eqN)
        (@Bool.rec (fun _ => Option eqN) none (some (5, 131, 100)) (Nat.beq mi 232))
        (@Bool.rec (fun _ => Option eqN) none (some (5, 132, 15)) (Nat.beq mi 231)) (Nat.blt mi 232)) (Nat.blt mi 233))
      (@Bool.rec (fun _ => Option eqN)
       (@Bool.rec (fun _ => Option eqN)
        (@Bool.rec (fun _ => Option eqN) none (some (5, 135, 15)) (Nat.beq mi 230))
        (@Bool.rec (fun _ => Option eqN) none (some (5, 129, 124)) (Nat.beq mi 229)) (Nat.blt mi 230))
       (@Bool.rec (fun _ => Option eqN)
        (@Bool.rec (fun _ => Option eqN) none (some (5, 136, 100)) (Nat.beq mi 228))
        (@Bool.rec (fun _ => Option eqN) none (some (5, 128, 124)) (Nat.beq mi 227)) (Nat.blt mi 228)) (Nat.blt mi 229)) (Nat.blt mi 231)) (Nat.blt mi 236))
    (@Bool.rec (fun _ => Option eqN)
     (@Bool.rec (fun _ => Option eqN)
      (@Bool.rec (fun _ => Option eqN)
       (@Bool.rec (fun _ => Option eqN)
        (@Bool.rec (fun _ => Option eqN)
         (@Bool.rec (fun _ => Option eqN) none (some (5, 127, 124)) (Nat.beq mi 226))
         (@Bool.rec (fun _ => Option eqN) none (some (5, 126, 124)) (Nat.beq mi 225)) (Nat.blt mi 226))
        (@Bool.rec (fun _ => Option eqN) none (some (5, 125, 124)) (Nat.beq mi 224)) (Nat.blt mi 225))
       (@Bool.rec (fun _ => Option eqN)
        (@Bool.rec (fun _ => Option eqN) none (some (5, 123, 124)) (Nat.beq mi 223))
        (@Bool.rec (fun _ => Option eqN) none (some (5, 122, 15)) (Nat.beq mi 222)) (Nat.blt mi 223)) (Nat.blt mi 224))
      (@Bool.rec (fun _ => Option eqN)
       (@Bool.rec (fun _ => Option eqN)
        (@Bool.rec (fun _ => Option eqN) none (some (5, 121, 120)) (Nat.beq mi 221))
        (@Bool.rec (fun _ => Option eqN) none (some (5, 118, 104)) (Nat.beq mi 220)) (Nat.blt mi 221))
       (@Bool.rec (fun _ => Option eqN)
        (@Bool.rec (fun _ => Option eqN) none (some (5, 0, 15)) (Nat.beq mi 219))
        (@Bool.rec (fun _ => Option eqN) none (some (6, 156, 98)) (Nat.beq mi 218)) (Nat.blt mi 219)) (Nat.blt mi 220)) (Nat.blt mi 222))
     (@Bool.rec (fun _ => Option eqN)
      (@Bool.rec (fun _ => Option eqN)
       (@Bool.rec (fun _ => Option eqN)
        (@Bool.rec (fun _ => Option eqN) none (some (6, 154, 104)) (Nat.beq mi 217))
        (@Bool.rec (fun _ => Option eqN) none (some (6, 134, 100)) (Nat.beq mi 216)) (Nat.blt mi 217))
       (@Bool.rec (fun _ => Option eqN)
        (@Bool.rec (fun _ => Option eqN) none (some (6, 153, 120)) (Nat.beq mi 215))
        (@Bool.rec (fun _ => Option eqN) none (some (6, 152, 112)) (Nat.beq mi 214)) (Nat.blt mi 215)) (Nat.blt mi 216))
      (@Bool.rec (fun _ => Option eqN)
       (@Bool.rec (fun _ => Option eqN)
        (@Bool.rec (fun _ => Option eqN) none (some (6, 151, 112)) (Nat.beq mi 213))
        (@Bool.rec (fun _ => Option eqN) none (some (6, 149, 150)) (Nat.beq mi 212)) (Nat.blt mi 213))
       (@Bool.rec (fun _ => Option eqN)
        (@Bool.rec (fun _ => Option eqN) none (some (6, 137, 138)) (Nat.beq mi 211))
        (@Bool.rec (fun _ => Option eqN) none (some (6, 0, 15)) (Nat.beq mi 210)) (Nat.blt mi 211)) (Nat.blt mi 212)) (Nat.blt mi 214)) (Nat.blt mi 218)) (Nat.blt mi 227)) (Nat.blt mi 245))
  (@Bool.rec (fun _ => Option eqN)
   (@Bool.rec (fun _ => Option eqN)
    (@Bool.rec (fun _ => Option eqN)
     (@Bool.rec (fun _ => Option eqN)
      (@Bool.rec (fun _ => Option eqN)
       (@Bool.rec (fun _ => Option eqN)
        (@Bool.rec (fun _ => Option eqN)
         (@Bool.rec (fun _ => Option eqN) none (some (9, 229, 15)) (Nat.beq mi 209))
         (@Bool.rec (fun _ => Option eqN) none (some (9, 227, 15)) (Nat.beq mi 208)) (Nat.blt mi 209))
        (@Bool.rec (fun _ => Option eqN) none (some (9, 225, 120)) (Nat.beq mi 207)) (Nat.blt mi 208))
       (@Bool.rec (fun _ => Option eqN)
        (@Bool.rec (fun _ => Option eqN) none (some (9, 223, 120)) (Nat.beq mi 206))
        (@Bool.rec (fun _ => Option eqN) none (some (9, 221, 90)) (Nat.beq mi 205)) (Nat.blt mi 206)) (Nat.blt mi 207))
      (@Bool.rec (fun _ => Option eqN)
       (@Bool.rec (fun _ => Option eqN)
        (@Bool.rec (fun _ => Option eqN) none (some (9, 0, 22)) (Nat.beq mi 204))
        (@Bool.rec (fun _ => Option eqN) none (some (4, 233, 120)) (Nat.beq mi 203)) (Nat.blt mi 204))
       (@Bool.rec (fun _ => Option eqN)
        (@Bool.rec (fun _ => Option eqN) none (some (4, 231, 120)) (Nat.beq mi 202))
        (@Bool.rec (fun _ => Option eqN) none (some (4, 113, 15)) (Nat.beq mi 201)) (Nat.blt mi 202)) (Nat.blt mi 203)) (Nat.blt mi 205))
     (@Bool.rec (fun _ => Option eqN)
      (@Bool.rec (fun _ => Option eqN)
       (@Bool.rec (fun _ => Option eqN)
        (@Bool.rec (fun _ => Option eqN)
         (@Bool.rec (fun _ => Option eqN) none (some (4, 111, 112)) (Nat.beq mi 200))
         (@Bool.rec (fun _ => Option eqN) none (some (4, 0, 22)) (Nat.beq mi 199)) (Nat.blt mi 200))
        (@Bool.rec (fun _ => Option eqN) none (some (8, 186, 120)) (Nat.beq mi 198)) (Nat.blt mi 199))
       (@Bool.rec (fun _ => Option eqN)
        (@Bool.rec (fun _ => Option eqN) none (some (8, 182, 112)) (Nat.beq mi 197))
        (@Bool.rec (fun _ => Option eqN) none (some (8, 181, 15)) (Nat.beq mi 196)) (Nat.blt mi 197)) (Nat.blt mi 198))
      (@Bool.rec (fun _ => Option eqN)
       (@Bool.rec (fun _ => Option eqN)
        (@Bool.rec (fun _ => Option eqN) none (some (8, 185, 104)) (Nat.beq mi 195))
        (@Bool.rec (fun _ => Option eqN) none (some (8, 184, 172)) (Nat.beq mi 194)) (Nat.blt mi 195))
       (@Bool.rec (fun _ => Option eqN)
        (@Bool.rec (fun _ => Option eqN) none (some (8, 183, 172)) (Nat.beq mi 193))
        (@Bool.rec (fun _ => Option eqN) none (some (8, 180, 120)) (Nat.beq mi 192)) (Nat.blt mi 193)) (Nat.blt mi 194)) (Nat.blt mi 196)) (Nat.blt mi 201))
    (@Bool.rec (fun _ => Option eqN)
     (@Bool.rec (fun _ => Option eqN)
      (@Bool.rec (fun _ => Option eqN)
       (@Bool.rec (fun _ => Option eqN)
        (@Bool.rec (fun _ => Option eqN)
         (@Bool.rec (fun _ => Option eqN) none (some (8, 170, 90)) (Nat.beq mi 191))
         (@Bool.rec (fun _ => Option eqN) none (some (8, 178, 177)) (Nat.beq mi 190)) (Nat.blt mi 191))
        (@Bool.rec (fun _ => Option eqN) none (some (8, 176, 177)) (Nat.beq mi 189)) (Nat.blt mi 190))
       (@Bool.rec (fun _ => Option eqN)
        (@Bool.rec (fun _ => Option eqN) none (some (8, 175, 104)) (Nat.beq mi 188))
        (@Bool.rec (fun _ => Option eqN) none (some (8, 174, 120)) (Nat.beq mi 187)) (Nat.blt mi 188)) (Nat.blt mi 189))
      (@Bool.rec (fun _ => Option eqN)
       (@Bool.rec (fun _ => Option eqN)
        (@Bool.rec (fun _ => Option eqN) none (some (8, 173, 98)) (Nat.beq mi 186))
        (@Bool.rec (fun _ => Option eqN) none (some (8, 171, 172)) (Nat.beq mi 185)) (Nat.blt mi 186))
       (@Bool.rec (fun _ => Option eqN)
        (@Bool.rec (fun _ => Option eqN) none (some (8, 169, 104)) (Nat.beq mi 184))
        (@Bool.rec (fun _ => Option eqN) none (some (8, 168, 15)) (Nat.beq mi 183)) (Nat.blt mi 184)) (Nat.blt mi 185)) (Nat.blt mi 187))
     (@Bool.rec (fun _ => Option eqN)
      (@Bool.rec (fun _ => Option eqN)
       (@Bool.rec (fun _ => Option eqN)
        (@Bool.rec (fun _ => Option eqN) none (some (8, 167, 100)) (Nat.beq mi 182))
        (@Bool.rec (fun _ => Option eqN) none (some (8, 165, 166)) (Nat.beq mi 181)) (Nat.blt mi 182))
       (@Bool.rec (fun _ => Option eqN)
        (@Bool.rec (fun _ => Option eqN) none (some (8, 0, 52)) (Nat.beq mi 180))
        (@Bool.rec (fun _ => Option eqN) none (some (10, 241, 98)) (Nat.beq mi 179)) (Nat.blt mi 180)) (Nat.blt mi 181))
      (@Bool.rec (fun _ => Option eqN)
       (@Bool.rec (fun _ => Option eqN)
        (@Bool.rec (fun _ => Option eqN) none (some (10, 238, 177)) (Nat.beq mi 178))
        (@Bool.rec (fun _ => Option eqN) none (some (10, 237, 98)) (Nat.beq mi 177)) (Nat.blt mi 178))
       (@Bool.rec (fun _ => Option eqN)
        (@Bool.rec (fun _ => Option eqN) none (some (10, 235, 104)) (Nat.beq mi 176))
        (@Bool.rec (fun _ => Option eqN) none (some (10, 260, 104)) (Nat.beq mi 175)) (Nat.blt mi 176)) (Nat.blt mi 177)) (Nat.blt mi 179)) (Nat.blt mi 183)) (Nat.blt mi 192))
   (@Bool.rec (fun _ => Option eqN)
    (@Bool.rec (fun _ => Option eqN)
     (@Bool.rec (fun _ => Option eqN)
      (@Bool.rec (fun _ => Option eqN)
       (@Bool.rec (fun _ => Option eqN)
        (@Bool.rec (fun _ => Option eqN)
         (@Bool.rec (fun _ => Option eqN) none (some (10, 243, 100)) (Nat.beq mi 174))
         (@Bool.rec (fun _ => Option eqN) none (some (10, 108, 100)) (Nat.beq mi 173)) (Nat.blt mi 174))
        (@Bool.rec (fun _ => Option eqN) none (some (10, 261, 94)) (Nat.beq mi 172)) (Nat.blt mi 173))
       (@Bool.rec (fun _ => Option eqN)
        (@Bool.rec (fun _ => Option eqN) none (some (10, 234, 100)) (Nat.beq mi 171))
        (@Bool.rec (fun _ => Option eqN) none (some (10, 0, 15)) (Nat.beq mi 170)) (Nat.blt mi 171)) (Nat.blt mi 172))
      (@Bool.rec (fun _ => Option eqN)
       (@Bool.rec (fun _ => Option eqN)
        (@Bool.rec (fun _ => Option eqN) none (some (12, 259, 90)) (Nat.beq mi 169))
        (@Bool.rec (fun _ => Option eqN) none (some (12, 256, 257)) (Nat.beq mi 168)) (Nat.blt mi 169))
       (@Bool.rec (fun _ => Option eqN)
        (@Bool.rec (fun _ => Option eqN) none (some (12, 254, 255)) (Nat.beq mi 167))
        (@Bool.rec (fun _ => Option eqN) none (some (12, 249, 250)) (Nat.beq mi 166)) (Nat.blt mi 167)) (Nat.blt mi 168)) (Nat.blt mi 170))
     (@Bool.rec (fun _ => Option eqN)
      (@Bool.rec (fun _ => Option eqN)
       (@Bool.rec (fun _ => Option eqN)
        (@Bool.rec (fun _ => Option eqN)
         (@Bool.rec (fun _ => Option eqN) none (some (12, 370, 90)) (Nat.beq mi 165))
         (@Bool.rec (fun _ => Option eqN) none (some (12, 247, 98)) (Nat.beq mi 164)) (Nat.blt mi 165))
        (@Bool.rec (fun _ => Option eqN) none (some (12, 244, 90)) (Nat.beq mi 163)) (Nat.blt mi 164))
       (@Bool.rec (fun _ => Option eqN)
        (@Bool.rec (fun _ => Option eqN) none (some (12, 99, 100)) (Nat.beq mi 162))
        (@Bool.rec (fun _ => Option eqN) none (some (12, 262, 104)) (Nat.beq mi 161)) (Nat.blt mi 162)) (Nat.blt mi 163))
      (@Bool.rec (fun _ => Option eqN)
       (@Bool.rec (fun _ => Option eqN)
        (@Bool.rec (fun _ => Option eqN) none (some (12, 236, 98)) (Nat.beq mi 160))
        (@Bool.rec (fun _ => Option eqN) none (some (12, 368, 90)) (Nat.beq mi 159)) (Nat.blt mi 160))
       (@Bool.rec (fun _ => Option eqN)
        (@Bool.rec (fun _ => Option eqN) none (some (12, 369, 90)) (Nat.beq mi 158))
        (@Bool.rec (fun _ => Option eqN) none (some (12, 365, 90)) (Nat.beq mi 157)) (Nat.blt mi 158)) (Nat.blt mi 159)) (Nat.blt mi 161)) (Nat.blt mi 166))
    (@Bool.rec (fun _ => Option eqN)
     (@Bool.rec (fun _ => Option eqN)
      (@Bool.rec (fun _ => Option eqN)
       (@Bool.rec (fun _ => Option eqN)
        (@Bool.rec (fun _ => Option eqN)
         (@Bool.rec (fun _ => Option eqN) none (some (12, 366, 90)) (Nat.beq mi 156))
         (@Bool.rec (fun _ => Option eqN) none (some (12, 367, 90)) (Nat.beq mi 155)) (Nat.blt mi 156))
        (@Bool.rec (fun _ => Option eqN) none (some (12, 362, 90)) (Nat.beq mi 154)) (Nat.blt mi 155))
       (@Bool.rec (fun _ => Option eqN)
        (@Bool.rec (fun _ => Option eqN) none (some (12, 363, 90)) (Nat.beq mi 153))
        (@Bool.rec (fun _ => Option eqN) none (some (12, 364, 90)) (Nat.beq mi 152)) (Nat.blt mi 153)) (Nat.blt mi 154))
      (@Bool.rec (fun _ => Option eqN)
       (@Bool.rec (fun _ => Option eqN)
        (@Bool.rec (fun _ => Option eqN) none (some (12, 221, 90)) (Nat.beq mi 151))
        (@Bool.rec (fun _ => Option eqN) none (some (12, 361, 90)) (Nat.beq mi 150)) (Nat.blt mi 151))
       (@Bool.rec (fun _ => Option eqN)
        (@Bool.rec (fun _ => Option eqN) none (some (12, 360, 90)) (Nat.beq mi 149))
        (@Bool.rec (fun _ => Option eqN) none (some (12, 261, 94)) (Nat.beq mi 148)) (Nat.blt mi 149)) (Nat.blt mi 150)) (Nat.blt mi 152))
     (@Bool.rec (fun _ => Option eqN)
      (@Bool.rec (fun _ => Option eqN)
       (@Bool.rec (fun _ => Option eqN)
        (@Bool.rec (fun _ => Option eqN) none (some (12, 75, 104)) (Nat.beq mi 147))
        (@Bool.rec (fun _ => Option eqN) none (some (12, 242, 104)) (Nat.beq mi 146)) (Nat.blt mi 147))
       (@Bool.rec (fun _ => Option eqN)
        (@Bool.rec (fun _ => Option eqN) none (some (12, 69, 124)) (Nat.beq mi 145))
        (@Bool.rec (fun _ => Option eqN) none (some (12, 359, 100)) (Nat.beq mi 144)) (Nat.blt mi 145)) (Nat.blt mi 146))
      (@Bool.rec (fun _ => Option eqN)
       (@Bool.rec (fun _ => Option eqN)
        (@Bool.rec (fun _ => Option eqN) none (some (12, 228, 120)) (Nat.beq mi 143))
        (@Bool.rec (fun _ => Option eqN) none (some (12, 226, 120)) (Nat.beq mi 142)) (Nat.blt mi 143))
       (@Bool.rec (fun _ => Option eqN)
        (@Bool.rec (fun _ => Option eqN) none (some (12, 61, 104)) (Nat.beq mi 141))
        (@Bool.rec (fun _ => Option eqN) none (some (12, 224, 120)) (Nat.beq mi 140)) (Nat.blt mi 141)) (Nat.blt mi 142)) (Nat.blt mi 144)) (Nat.blt mi 148)) (Nat.blt mi 157)) (Nat.blt mi 175)) (Nat.blt mi 210))
 (@Bool.rec (fun _ => Option eqN)
  (@Bool.rec (fun _ => Option eqN)
   (@Bool.rec (fun _ => Option eqN)
    (@Bool.rec (fun _ => Option eqN)
     (@Bool.rec (fun _ => Option eqN)
      (@Bool.rec (fun _ => Option eqN)
       (@Bool.rec (fun _ => Option eqN)
        (@Bool.rec (fun _ => Option eqN)
         (@Bool.rec (fun _ => Option eqN) none (some (12, 222, 120)) (Nat.beq mi 139))
         (@Bool.rec (fun _ => Option eqN) none (some (12, 220, 90)) (Nat.beq mi 138)) (Nat.blt mi 139))
        (@Bool.rec (fun _ => Option eqN) none (some (12, 219, 98)) (Nat.beq mi 137)) (Nat.blt mi 138))
       (@Bool.rec (fun _ => Option eqN)
        (@Bool.rec (fun _ => Option eqN) none (some (12, 218, 90)) (Nat.beq mi 136))
        (@Bool.rec (fun _ => Option eqN) none (some (12, 212, 98)) (Nat.beq mi 135)) (Nat.blt mi 136)) (Nat.blt mi 137))
      (@Bool.rec (fun _ => Option eqN)
       (@Bool.rec (fun _ => Option eqN)
        (@Bool.rec (fun _ => Option eqN) none (some (12, 217, 90)) (Nat.beq mi 134))
        (@Bool.rec (fun _ => Option eqN) none (some (12, 207, 90)) (Nat.beq mi 133)) (Nat.blt mi 134))
       (@Bool.rec (fun _ => Option eqN)
        (@Bool.rec (fun _ => Option eqN) none (some (12, 357, 90)) (Nat.beq mi 132))
        (@Bool.rec (fun _ => Option eqN) none (some (12, 358, 100)) (Nat.beq mi 131)) (Nat.blt mi 132)) (Nat.blt mi 133)) (Nat.blt mi 135))
     (@Bool.rec (fun _ => Option eqN)
      (@Bool.rec (fun _ => Option eqN)
       (@Bool.rec (fun _ => Option eqN)
        (@Bool.rec (fun _ => Option eqN)
         (@Bool.rec (fun _ => Option eqN) none (some (12, 205, 104)) (Nat.beq mi 130))
         (@Bool.rec (fun _ => Option eqN) none (some (12, 202, 98)) (Nat.beq mi 129)) (Nat.blt mi 130))
        (@Bool.rec (fun _ => Option eqN) none (some (12, 356, 172)) (Nat.beq mi 128)) (Nat.blt mi 129))
       (@Bool.rec (fun _ => Option eqN)
        (@Bool.rec (fun _ => Option eqN) none (some (12, 200, 90)) (Nat.beq mi 127))
        (@Bool.rec (fun _ => Option eqN) none (some (12, 355, 124)) (Nat.beq mi 126)) (Nat.blt mi 127)) (Nat.blt mi 128))
      (@Bool.rec (fun _ => Option eqN)
       (@Bool.rec (fun _ => Option eqN)
        (@Bool.rec (fun _ => Option eqN) none (some (12, 197, 90)) (Nat.beq mi 125))
        (@Bool.rec (fun _ => Option eqN) none (some (12, 354, 15)) (Nat.beq mi 124)) (Nat.blt mi 125))
       (@Bool.rec (fun _ => Option eqN)
        (@Bool.rec (fun _ => Option eqN) none (some (12, 196, 104)) (Nat.beq mi 123))
        (@Bool.rec (fun _ => Option eqN) none (some (12, 195, 104)) (Nat.beq mi 122)) (Nat.blt mi 123)) (Nat.blt mi 124)) (Nat.blt mi 126)) (Nat.blt mi 131))
    (@Bool.rec (fun _ => Option eqN)
     (@Bool.rec (fun _ => Option eqN)
      (@Bool.rec (fun _ => Option eqN)
       (@Bool.rec (fun _ => Option eqN)
        (@Bool.rec (fun _ => Option eqN)
         (@Bool.rec (fun _ => Option eqN) none (some (12, 193, 104)) (Nat.beq mi 121))
         (@Bool.rec (fun _ => Option eqN) none (some (12, 353, 104)) (Nat.beq mi 120)) (Nat.blt mi 121))
        (@Bool.rec (fun _ => Option eqN) none (some (12, 192, 104)) (Nat.beq mi 119)) (Nat.blt mi 120))
       (@Bool.rec (fun _ => Option eqN)
        (@Bool.rec (fun _ => Option eqN) none (some (12, 191, 104)) (Nat.beq mi 118))
        (@Bool.rec (fun _ => Option eqN) none (some (12, 190, 90)) (Nat.beq mi 117)) (Nat.blt mi 118)) (Nat.blt mi 119))
      (@Bool.rec (fun _ => Option eqN)
       (@Bool.rec (fun _ => Option eqN)
        (@Bool.rec (fun _ => Option eqN) none (some (12, 187, 90)) (Nat.beq mi 116))
        (@Bool.rec (fun _ => Option eqN) none (some (12, 179, 90)) (Nat.beq mi 115)) (Nat.blt mi 116))
       (@Bool.rec (fun _ => Option eqN)
        (@Bool.rec (fun _ => Option eqN) none (some (12, 346, 172)) (Nat.beq mi 114))
        (@Bool.rec (fun _ => Option eqN) none (some (12, 211, 347)) (Nat.beq mi 113)) (Nat.blt mi 114)) (Nat.blt mi 115)) (Nat.blt mi 117))
     (@Bool.rec (fun _ => Option eqN)
      (@Bool.rec (fun _ => Option eqN)
       (@Bool.rec (fun _ => Option eqN)
        (@Bool.rec (fun _ => Option eqN) none (some (12, 348, 124)) (Nat.beq mi 112))
        (@Bool.rec (fun _ => Option eqN) none (some (12, 349, 100)) (Nat.beq mi 111)) (Nat.blt mi 112))
       (@Bool.rec (fun _ => Option eqN)
        (@Bool.rec (fun _ => Option eqN) none (some (12, 163, 98)) (Nat.beq mi 110))
        (@Bool.rec (fun _ => Option eqN) none (some (12, 339, 100)) (Nat.beq mi 109)) (Nat.blt mi 110)) (Nat.blt mi 111))
      (@Bool.rec (fun _ => Option eqN)
       (@Bool.rec (fun _ => Option eqN)
        (@Bool.rec (fun _ => Option eqN) none (some (12, 345, 90)) (Nat.beq mi 108))
        (@Bool.rec (fun _ => Option eqN) none (some (12, 342, 124)) (Nat.beq mi 107)) (Nat.blt mi 108))
       (@Bool.rec (fun _ => Option eqN)
        (@Bool.rec (fun _ => Option eqN) none (some (12, 344, 98)) (Nat.beq mi 106))
        (@Bool.rec (fun _ => Option eqN) none (some (12, 343, 257)) (Nat.beq mi 105)) (Nat.blt mi 106)) (Nat.blt mi 107)) (Nat.blt mi 109)) (Nat.blt mi 113)) (Nat.blt mi 122))
   (@Bool.rec (fun _ => Option eqN)
    (@Bool.rec (fun _ => Option eqN)
     (@Bool.rec (fun _ => Option eqN)
      (@Bool.rec (fun _ => Option eqN)
       (@Bool.rec (fun _ => Option eqN)
        (@Bool.rec (fun _ => Option eqN)
         (@Bool.rec (fun _ => Option eqN) none (some (12, 341, 172)) (Nat.beq mi 104))
         (@Bool.rec (fun _ => Option eqN) none (some (12, 340, 124)) (Nat.beq mi 103)) (Nat.blt mi 104))
        (@Bool.rec (fun _ => Option eqN) none (some (12, 140, 98)) (Nat.beq mi 102)) (Nat.blt mi 103))
       (@Bool.rec (fun _ => Option eqN)
        (@Bool.rec (fun _ => Option eqN) none (some (12, 208, 104)) (Nat.beq mi 101))
        (@Bool.rec (fun _ => Option eqN) none (some (12, 338, 98)) (Nat.beq mi 100)) (Nat.blt mi 101)) (Nat.blt mi 102))
      (@Bool.rec (fun _ => Option eqN)
       (@Bool.rec (fun _ => Option eqN)
        (@Bool.rec (fun _ => Option eqN) none (some (12, 161, 352)) (Nat.beq mi 99))
        (@Bool.rec (fun _ => Option eqN) none (some (12, 160, 100)) (Nat.beq mi 98)) (Nat.blt mi 99))
       (@Bool.rec (fun _ => Option eqN)
        (@Bool.rec (fun _ => Option eqN) none (some (12, 337, 104)) (Nat.beq mi 97))
        (@Bool.rec (fun _ => Option eqN) none (some (12, 350, 98)) (Nat.beq mi 96)) (Nat.blt mi 97)) (Nat.blt mi 98)) (Nat.blt mi 100))
     (@Bool.rec (fun _ => Option eqN)
      (@Bool.rec (fun _ => Option eqN)
       (@Bool.rec (fun _ => Option eqN)
        (@Bool.rec (fun _ => Option eqN)
         (@Bool.rec (fun _ => Option eqN) none (some (12, 351, 90)) (Nat.beq mi 95))
         (@Bool.rec (fun _ => Option eqN) none (some (12, 332, 90)) (Nat.beq mi 94)) (Nat.blt mi 95))
        (@Bool.rec (fun _ => Option eqN) none (some (12, 331, 124)) (Nat.beq mi 93)) (Nat.blt mi 94))
       (@Bool.rec (fun _ => Option eqN)
        (@Bool.rec (fun _ => Option eqN) none (some (12, 36, 90)) (Nat.beq mi 92))
        (@Bool.rec (fun _ => Option eqN) none (some (12, 330, 90)) (Nat.beq mi 91)) (Nat.blt mi 92)) (Nat.blt mi 93))
      (@Bool.rec (fun _ => Option eqN)
       (@Bool.rec (fun _ => Option eqN)
        (@Bool.rec (fun _ => Option eqN) none (some (12, 333, 177)) (Nat.beq mi 90))
        (@Bool.rec (fun _ => Option eqN) none (some (12, 119, 120)) (Nat.beq mi 89)) (Nat.blt mi 90))
       (@Bool.rec (fun _ => Option eqN)
        (@Bool.rec (fun _ => Option eqN) none (some (12, 334, 104)) (Nat.beq mi 88))
        (@Bool.rec (fun _ => Option eqN) none (some (12, 335, 98)) (Nat.beq mi 87)) (Nat.blt mi 88)) (Nat.blt mi 89)) (Nat.blt mi 91)) (Nat.blt mi 96))
    (@Bool.rec (fun _ => Option eqN)
     (@Bool.rec (fun _ => Option eqN)
      (@Bool.rec (fun _ => Option eqN)
       (@Bool.rec (fun _ => Option eqN)
        (@Bool.rec (fun _ => Option eqN)
         (@Bool.rec (fun _ => Option eqN) none (some (12, 336, 98)) (Nat.beq mi 86))
         (@Bool.rec (fun _ => Option eqN) none (some (12, 316, 104)) (Nat.beq mi 85)) (Nat.blt mi 86))
        (@Bool.rec (fun _ => Option eqN) none (some (12, 317, 15)) (Nat.beq mi 84)) (Nat.blt mi 85))
       (@Bool.rec (fun _ => Option eqN)
        (@Bool.rec (fun _ => Option eqN) none (some (12, 318, 15)) (Nat.beq mi 83))
        (@Bool.rec (fun _ => Option eqN) none (some (12, 319, 15)) (Nat.beq mi 82)) (Nat.blt mi 83)) (Nat.blt mi 84))
      (@Bool.rec (fun _ => Option eqN)
       (@Bool.rec (fun _ => Option eqN)
        (@Bool.rec (fun _ => Option eqN) none (some (12, 320, 15)) (Nat.beq mi 81))
        (@Bool.rec (fun _ => Option eqN) none (some (12, 321, 15)) (Nat.beq mi 80)) (Nat.blt mi 81))
       (@Bool.rec (fun _ => Option eqN)
        (@Bool.rec (fun _ => Option eqN) none (some (12, 322, 15)) (Nat.beq mi 79))
        (@Bool.rec (fun _ => Option eqN) none (some (12, 323, 15)) (Nat.beq mi 78)) (Nat.blt mi 79)) (Nat.blt mi 80)) (Nat.blt mi 82))
     (@Bool.rec (fun _ => Option eqN)
      (@Bool.rec (fun _ => Option eqN)
       (@Bool.rec (fun _ => Option eqN)
        (@Bool.rec (fun _ => Option eqN) none (some (12, 329, 15)) (Nat.beq mi 77))
        (@Bool.rec (fun _ => Option eqN) none (some (12, 327, 150)) (Nat.beq mi 76)) (Nat.blt mi 77))
       (@Bool.rec (fun _ => Option eqN)
        (@Bool.rec (fun _ => Option eqN) none (some (12, 325, 104)) (Nat.beq mi 75))
        (@Bool.rec (fun _ => Option eqN) none (some (12, 326, 172)) (Nat.beq mi 74)) (Nat.blt mi 75)) (Nat.blt mi 76))
      (@Bool.rec (fun _ => Option eqN)
       (@Bool.rec (fun _ => Option eqN)
        (@Bool.rec (fun _ => Option eqN) none (some (12, 328, 15)) (Nat.beq mi 73))
        (@Bool.rec (fun _ => Option eqN) none (some (12, 324, 120)) (Nat.beq mi 72)) (Nat.blt mi 73))
       (@Bool.rec (fun _ => Option eqN)
        (@Bool.rec (fun _ => Option eqN) none (some (12, 117, 104)) (Nat.beq mi 71))
        (@Bool.rec (fun _ => Option eqN) none (some (12, 116, 90)) (Nat.beq mi 70)) (Nat.blt mi 71)) (Nat.blt mi 72)) (Nat.blt mi 74)) (Nat.blt mi 78)) (Nat.blt mi 87)) (Nat.blt mi 105))
  (@Bool.rec (fun _ => Option eqN)
   (@Bool.rec (fun _ => Option eqN)
    (@Bool.rec (fun _ => Option eqN)
     (@Bool.rec (fun _ => Option eqN)
      (@Bool.rec (fun _ => Option eqN)
       (@Bool.rec (fun _ => Option eqN)
        (@Bool.rec (fun _ => Option eqN)
         (@Bool.rec (fun _ => Option eqN) none (some (12, 107, 98)) (Nat.beq mi 69))
         (@Bool.rec (fun _ => Option eqN) none (some (12, 314, 94)) (Nat.beq mi 68)) (Nat.blt mi 69))
        (@Bool.rec (fun _ => Option eqN) none (some (12, 313, 94)) (Nat.beq mi 67)) (Nat.blt mi 68))
       (@Bool.rec (fun _ => Option eqN)
        (@Bool.rec (fun _ => Option eqN) none (some (12, 232, 120)) (Nat.beq mi 66))
        (@Bool.rec (fun _ => Option eqN) none (some (12, 230, 120)) (Nat.beq mi 65)) (Nat.blt mi 66)) (Nat.blt mi 67))
      (@Bool.rec (fun _ => Option eqN)
       (@Bool.rec (fun _ => Option eqN)
        (@Bool.rec (fun _ => Option eqN) none (some (12, 77, 98)) (Nat.beq mi 64))
        (@Bool.rec (fun _ => Option eqN) none (some (12, 312, 112)) (Nat.beq mi 63)) (Nat.blt mi 64))
       (@Bool.rec (fun _ => Option eqN)
        (@Bool.rec (fun _ => Option eqN) none (some (12, 315, 90)) (Nat.beq mi 62))
        (@Bool.rec (fun _ => Option eqN) none (some (12, 105, 104)) (Nat.beq mi 61)) (Nat.blt mi 62)) (Nat.blt mi 63)) (Nat.blt mi 65))
     (@Bool.rec (fun _ => Option eqN)
      (@Bool.rec (fun _ => Option eqN)
       (@Bool.rec (fun _ => Option eqN)
        (@Bool.rec (fun _ => Option eqN)
         (@Bool.rec (fun _ => Option eqN) none (some (12, 19, 98)) (Nat.beq mi 60))
         (@Bool.rec (fun _ => Option eqN) none (some (12, 89, 90)) (Nat.beq mi 59)) (Nat.blt mi 60))
        (@Bool.rec (fun _ => Option eqN) none (some (12, 97, 98)) (Nat.beq mi 58)) (Nat.blt mi 59))
       (@Bool.rec (fun _ => Option eqN)
        (@Bool.rec (fun _ => Option eqN) none (some (12, 110, 100)) (Nat.beq mi 57))
        (@Bool.rec (fun _ => Option eqN) none (some (12, 109, 100)) (Nat.beq mi 56)) (Nat.blt mi 57)) (Nat.blt mi 58))
      (@Bool.rec (fun _ => Option eqN)
       (@Bool.rec (fun _ => Option eqN)
        (@Bool.rec (fun _ => Option eqN) none (some (12, 311, 92)) (Nat.beq mi 55))
        (@Bool.rec (fun _ => Option eqN) none (some (12, 0, 15)) (Nat.beq mi 54)) (Nat.blt mi 55))
       (@Bool.rec (fun _ => Option eqN)
        (@Bool.rec (fun _ => Option eqN) none (some (2, 164, 100)) (Nat.beq mi 53))
        (@Bool.rec (fun _ => Option eqN) none (some (2, 99, 100)) (Nat.beq mi 52)) (Nat.blt mi 53)) (Nat.blt mi 54)) (Nat.blt mi 56)) (Nat.blt mi 61))
    (@Bool.rec (fun _ => Option eqN)
     (@Bool.rec (fun _ => Option eqN)
      (@Bool.rec (fun _ => Option eqN)
       (@Bool.rec (fun _ => Option eqN)
        (@Bool.rec (fun _ => Option eqN)
         (@Bool.rec (fun _ => Option eqN) none (some (2, 262, 104)) (Nat.beq mi 51))
         (@Bool.rec (fun _ => Option eqN) none (some (2, 259, 90)) (Nat.beq mi 50)) (Nat.blt mi 51))
        (@Bool.rec (fun _ => Option eqN) none (some (2, 256, 257)) (Nat.beq mi 49)) (Nat.blt mi 50))
       (@Bool.rec (fun _ => Option eqN)
        (@Bool.rec (fun _ => Option eqN) none (some (2, 254, 255)) (Nat.beq mi 48))
        (@Bool.rec (fun _ => Option eqN) none (some (2, 249, 250)) (Nat.beq mi 47)) (Nat.blt mi 48)) (Nat.blt mi 49))
      (@Bool.rec (fun _ => Option eqN)
       (@Bool.rec (fun _ => Option eqN)
        (@Bool.rec (fun _ => Option eqN) none (some (2, 247, 98)) (Nat.beq mi 46))
        (@Bool.rec (fun _ => Option eqN) none (some (2, 244, 90)) (Nat.beq mi 45)) (Nat.blt mi 46))
       (@Bool.rec (fun _ => Option eqN)
        (@Bool.rec (fun _ => Option eqN) none (some (2, 242, 104)) (Nat.beq mi 44))
        (@Bool.rec (fun _ => Option eqN) none (some (2, 236, 98)) (Nat.beq mi 43)) (Nat.blt mi 44)) (Nat.blt mi 45)) (Nat.blt mi 47))
     (@Bool.rec (fun _ => Option eqN)
      (@Bool.rec (fun _ => Option eqN)
       (@Bool.rec (fun _ => Option eqN)
        (@Bool.rec (fun _ => Option eqN) none (some (2, 75, 104)) (Nat.beq mi 42))
        (@Bool.rec (fun _ => Option eqN) none (some (2, 232, 120)) (Nat.beq mi 41)) (Nat.blt mi 42))
       (@Bool.rec (fun _ => Option eqN)
        (@Bool.rec (fun _ => Option eqN) none (some (2, 230, 120)) (Nat.beq mi 40))
        (@Bool.rec (fun _ => Option eqN) none (some (2, 228, 120)) (Nat.beq mi 39)) (Nat.blt mi 40)) (Nat.blt mi 41))
      (@Bool.rec (fun _ => Option eqN)
       (@Bool.rec (fun _ => Option eqN)
        (@Bool.rec (fun _ => Option eqN) none (some (2, 226, 120)) (Nat.beq mi 38))
        (@Bool.rec (fun _ => Option eqN) none (some (2, 61, 104)) (Nat.beq mi 37)) (Nat.blt mi 38))
       (@Bool.rec (fun _ => Option eqN)
        (@Bool.rec (fun _ => Option eqN) none (some (2, 224, 120)) (Nat.beq mi 36))
        (@Bool.rec (fun _ => Option eqN) none (some (2, 222, 120)) (Nat.beq mi 35)) (Nat.blt mi 36)) (Nat.blt mi 37)) (Nat.blt mi 39)) (Nat.blt mi 43)) (Nat.blt mi 52))
   (@Bool.rec (fun _ => Option eqN)
    (@Bool.rec (fun _ => Option eqN)
     (@Bool.rec (fun _ => Option eqN)
      (@Bool.rec (fun _ => Option eqN)
       (@Bool.rec (fun _ => Option eqN)
        (@Bool.rec (fun _ => Option eqN)
         (@Bool.rec (fun _ => Option eqN) none (some (2, 220, 90)) (Nat.beq mi 34))
         (@Bool.rec (fun _ => Option eqN) none (some (2, 219, 98)) (Nat.beq mi 33)) (Nat.blt mi 34))
        (@Bool.rec (fun _ => Option eqN) none (some (2, 218, 90)) (Nat.beq mi 32)) (Nat.blt mi 33))
       (@Bool.rec (fun _ => Option eqN)
        (@Bool.rec (fun _ => Option eqN) none (some (2, 217, 214)) (Nat.beq mi 31))
        (@Bool.rec (fun _ => Option eqN) none (some (2, 216, 214)) (Nat.beq mi 30)) (Nat.blt mi 31)) (Nat.blt mi 32))
      (@Bool.rec (fun _ => Option eqN)
       (@Bool.rec (fun _ => Option eqN)
        (@Bool.rec (fun _ => Option eqN) none (some (2, 213, 214)) (Nat.beq mi 29))
        (@Bool.rec (fun _ => Option eqN) none (some (2, 212, 98)) (Nat.beq mi 28)) (Nat.blt mi 29))
       (@Bool.rec (fun _ => Option eqN)
        (@Bool.rec (fun _ => Option eqN) none (some (2, 208, 209)) (Nat.beq mi 27))
        (@Bool.rec (fun _ => Option eqN) none (some (2, 207, 90)) (Nat.beq mi 26)) (Nat.blt mi 27)) (Nat.blt mi 28)) (Nat.blt mi 30))
     (@Bool.rec (fun _ => Option eqN)
      (@Bool.rec (fun _ => Option eqN)
       (@Bool.rec (fun _ => Option eqN)
        (@Bool.rec (fun _ => Option eqN)
         (@Bool.rec (fun _ => Option eqN) none (some (2, 205, 104)) (Nat.beq mi 25))
         (@Bool.rec (fun _ => Option eqN) none (some (2, 204, 100)) (Nat.beq mi 24)) (Nat.blt mi 25))
        (@Bool.rec (fun _ => Option eqN) none (some (2, 202, 98)) (Nat.beq mi 23)) (Nat.blt mi 24))
       (@Bool.rec (fun _ => Option eqN)
        (@Bool.rec (fun _ => Option eqN) none (some (2, 201, 90)) (Nat.beq mi 22))
        (@Bool.rec (fun _ => Option eqN) none (some (2, 200, 90)) (Nat.beq mi 21)) (Nat.blt mi 22)) (Nat.blt mi 23))
      (@Bool.rec (fun _ => Option eqN)
       (@Bool.rec (fun _ => Option eqN)
        (@Bool.rec (fun _ => Option eqN) none (some (2, 197, 90)) (Nat.beq mi 20))
        (@Bool.rec (fun _ => Option eqN) none (some (2, 196, 104)) (Nat.beq mi 19)) (Nat.blt mi 20))
       (@Bool.rec (fun _ => Option eqN)
        (@Bool.rec (fun _ => Option eqN) none (some (2, 195, 104)) (Nat.beq mi 18))
        (@Bool.rec (fun _ => Option eqN) none (some (2, 194, 104)) (Nat.beq mi 17)) (Nat.blt mi 18)) (Nat.blt mi 19)) (Nat.blt mi 21)) (Nat.blt mi 26))
    (@Bool.rec (fun _ => Option eqN)
     (@Bool.rec (fun _ => Option eqN)
      (@Bool.rec (fun _ => Option eqN)
       (@Bool.rec (fun _ => Option eqN)
        (@Bool.rec (fun _ => Option eqN)
         (@Bool.rec (fun _ => Option eqN) none (some (2, 193, 104)) (Nat.beq mi 16))
         (@Bool.rec (fun _ => Option eqN) none (some (2, 192, 104)) (Nat.beq mi 15)) (Nat.blt mi 16))
        (@Bool.rec (fun _ => Option eqN) none (some (2, 191, 104)) (Nat.beq mi 14)) (Nat.blt mi 15))
       (@Bool.rec (fun _ => Option eqN)
        (@Bool.rec (fun _ => Option eqN) none (some (2, 190, 90)) (Nat.beq mi 13))
        (@Bool.rec (fun _ => Option eqN) none (some (2, 187, 90)) (Nat.beq mi 12)) (Nat.blt mi 13)) (Nat.blt mi 14))
      (@Bool.rec (fun _ => Option eqN)
       (@Bool.rec (fun _ => Option eqN)
        (@Bool.rec (fun _ => Option eqN) none (some (2, 179, 90)) (Nat.beq mi 11))
        (@Bool.rec (fun _ => Option eqN) none (some (2, 163, 98)) (Nat.beq mi 10)) (Nat.blt mi 11))
       (@Bool.rec (fun _ => Option eqN)
        (@Bool.rec (fun _ => Option eqN) none (some (2, 140, 98)) (Nat.beq mi 9))
        (@Bool.rec (fun _ => Option eqN) none (some (2, 119, 120)) (Nat.beq mi 8)) (Nat.blt mi 9)) (Nat.blt mi 10)) (Nat.blt mi 12))
     (@Bool.rec (fun _ => Option eqN)
      (@Bool.rec (fun _ => Option eqN)
       (@Bool.rec (fun _ => Option eqN)
        (@Bool.rec (fun _ => Option eqN) none (some (2, 117, 104)) (Nat.beq mi 7))
        (@Bool.rec (fun _ => Option eqN) none (some (2, 116, 90)) (Nat.beq mi 6)) (Nat.blt mi 7))
       (@Bool.rec (fun _ => Option eqN)
        (@Bool.rec (fun _ => Option eqN) none (some (2, 107, 98)) (Nat.beq mi 5))
        (@Bool.rec (fun _ => Option eqN) none (some (2, 105, 104)) (Nat.beq mi 4)) (Nat.blt mi 5)) (Nat.blt mi 6))
      (@Bool.rec (fun _ => Option eqN)
       (@Bool.rec (fun _ => Option eqN)
        (@Bool.rec (fun _ => Option eqN) none (some (2, 102, 103)) (Nat.beq mi 3))
        (@Bool.rec (fun _ => Option eqN) none (some (2, 19, 98)) (Nat.beq mi 2)) (Nat.blt mi 3))
       (@Bool.rec (fun _ => Option eqN)
        (@Bool.rec (fun _ => Option eqN) none (some (2, 89, 90)) (Nat.beq mi 1))
        (@Bool.rec (fun _ => Option eqN) none (some (2, 0, 15)) (Nat.beq mi 0)) (Nat.blt mi 1)) (Nat.blt mi 2)) (Nat.blt mi 4)) (Nat.blt mi 8)) (Nat.blt mi 17)) (Nat.blt mi 35)) (Nat.blt mi 70)) (Nat.blt mi 140)
theorem eqMc_rel (mi : Nat) : eqRel (eMT mi) (eqMc mi) := by
  delta eMT eqMc
  exact (eqRel_b (eqRel_b (eqRel_b (eqRel_b (eqRel_b (eqRel_b (eqRel_b (eqRel_b (eqRel_b (eqRel_b eqRel_n (eqRel_s eqN_280)) (eqRel_b eqRel_n (eqRel_s eqN_279))) (eqRel_b eqRel_n (eqRel_s eqN_278))) (eqRel_b (eqRel_b eqRel_n (eqRel_s eqN_277)) (eqRel_b eqRel_n (eqRel_s eqN_276)))) (eqRel_b (eqRel_b (eqRel_b eqRel_n (eqRel_s eqN_275)) (eqRel_b eqRel_n (eqRel_s eqN_274))) (eqRel_b (eqRel_b eqRel_n (eqRel_s eqN_273)) (eqRel_b eqRel_n (eqRel_s eqN_272))))) (eqRel_b (eqRel_b (eqRel_b (eqRel_b (eqRel_b eqRel_n (eqRel_s eqN_271)) (eqRel_b eqRel_n (eqRel_s eqN_270))) (eqRel_b eqRel_n (eqRel_s eqN_269))) (eqRel_b (eqRel_b eqRel_n (eqRel_s eqN_268)) (eqRel_b eqRel_n (eqRel_s eqN_267)))) (eqRel_b (eqRel_b (eqRel_b eqRel_n (eqRel_s eqN_266)) (eqRel_b eqRel_n (eqRel_s eqN_265))) (eqRel_b (eqRel_b eqRel_n (eqRel_s eqN_264)) (eqRel_b eqRel_n (eqRel_s eqN_263)))))) (eqRel_b (eqRel_b (eqRel_b (eqRel_b (eqRel_b (eqRel_b eqRel_n (eqRel_s eqN_262)) (eqRel_b eqRel_n (eqRel_s eqN_261))) (eqRel_b eqRel_n (eqRel_s eqN_260))) (eqRel_b (eqRel_b eqRel_n (eqRel_s eqN_259)) (eqRel_b eqRel_n (eqRel_s eqN_258)))) (eqRel_b (eqRel_b (eqRel_b eqRel_n (eqRel_s eqN_257)) (eqRel_b eqRel_n (eqRel_s eqN_256))) (eqRel_b (eqRel_b eqRel_n (eqRel_s eqN_255)) (eqRel_b eqRel_n (eqRel_s eqN_254))))) (eqRel_b (eqRel_b (eqRel_b (eqRel_b (eqRel_b eqRel_n (eqRel_s eqN_253)) (eqRel_b eqRel_n (eqRel_s eqN_252))) (eqRel_b eqRel_n (eqRel_s eqN_251))) (eqRel_b (eqRel_b eqRel_n (eqRel_s eqN_250)) (eqRel_b eqRel_n (eqRel_s eqN_249)))) (eqRel_b (eqRel_b (eqRel_b eqRel_n (eqRel_s eqN_248)) (eqRel_b eqRel_n (eqRel_s eqN_247))) (eqRel_b (eqRel_b eqRel_n (eqRel_s eqN_246)) (eqRel_b eqRel_n (eqRel_s eqN_245))))))) (eqRel_b (eqRel_b (eqRel_b (eqRel_b (eqRel_b (eqRel_b (eqRel_b eqRel_n (eqRel_s eqN_244)) (eqRel_b eqRel_n (eqRel_s eqN_243))) (eqRel_b eqRel_n (eqRel_s eqN_242))) (eqRel_b (eqRel_b eqRel_n (eqRel_s eqN_241)) (eqRel_b eqRel_n (eqRel_s eqN_240)))) (eqRel_b (eqRel_b (eqRel_b eqRel_n (eqRel_s eqN_239)) (eqRel_b eqRel_n (eqRel_s eqN_238))) (eqRel_b (eqRel_b eqRel_n (eqRel_s eqN_237)) (eqRel_b eqRel_n (eqRel_s eqN_236))))) (eqRel_b (eqRel_b (eqRel_b (eqRel_b (eqRel_b eqRel_n (eqRel_s eqN_235)) (eqRel_b eqRel_n (eqRel_s eqN_234))) (eqRel_b eqRel_n (eqRel_s eqN_233))) (eqRel_b (eqRel_b eqRel_n (eqRel_s eqN_232)) (eqRel_b eqRel_n (eqRel_s eqN_231)))) (eqRel_b (eqRel_b (eqRel_b eqRel_n (eqRel_s eqN_230)) (eqRel_b eqRel_n (eqRel_s eqN_229))) (eqRel_b (eqRel_b eqRel_n (eqRel_s eqN_228)) (eqRel_b eqRel_n (eqRel_s eqN_227)))))) (eqRel_b (eqRel_b (eqRel_b (eqRel_b (eqRel_b (eqRel_b eqRel_n (eqRel_s eqN_226)) (eqRel_b eqRel_n (eqRel_s eqN_225))) (eqRel_b eqRel_n (eqRel_s eqN_224))) (eqRel_b (eqRel_b eqRel_n (eqRel_s eqN_223)) (eqRel_b eqRel_n (eqRel_s eqN_222)))) (eqRel_b (eqRel_b (eqRel_b eqRel_n (eqRel_s eqN_221)) (eqRel_b eqRel_n (eqRel_s eqN_220))) (eqRel_b (eqRel_b eqRel_n (eqRel_s eqN_219)) (eqRel_b eqRel_n (eqRel_s eqN_218))))) (eqRel_b (eqRel_b (eqRel_b (eqRel_b eqRel_n (eqRel_s eqN_217)) (eqRel_b eqRel_n (eqRel_s eqN_216))) (eqRel_b (eqRel_b eqRel_n (eqRel_s eqN_215)) (eqRel_b eqRel_n (eqRel_s eqN_214)))) (eqRel_b (eqRel_b (eqRel_b eqRel_n (eqRel_s eqN_213)) (eqRel_b eqRel_n (eqRel_s eqN_212))) (eqRel_b (eqRel_b eqRel_n (eqRel_s eqN_211)) (eqRel_b eqRel_n (eqRel_s eqN_210)))))))) (eqRel_b (eqRel_b (eqRel_b (eqRel_b (eqRel_b (eqRel_b (eqRel_b (eqRel_b eqRel_n (eqRel_s eqN_209)) (eqRel_b eqRel_n (eqRel_s eqN_208))) (eqRel_b eqRel_n (eqRel_s eqN_207))) (eqRel_b (eqRel_b eqRel_n (eqRel_s eqN_206)) (eqRel_b eqRel_n (eqRel_s eqN_205)))) (eqRel_b (eqRel_b (eqRel_b eqRel_n (eqRel_s eqN_204)) (eqRel_b eqRel_n (eqRel_s eqN_203))) (eqRel_b (eqRel_b eqRel_n (eqRel_s eqN_202)) (eqRel_b eqRel_n (eqRel_s eqN_201))))) (eqRel_b (eqRel_b (eqRel_b (eqRel_b (eqRel_b eqRel_n (eqRel_s eqN_200)) (eqRel_b eqRel_n (eqRel_s eqN_199))) (eqRel_b eqRel_n (eqRel_s eqN_198))) (eqRel_b (eqRel_b eqRel_n (eqRel_s eqN_197)) (eqRel_b eqRel_n (eqRel_s eqN_196)))) (eqRel_b (eqRel_b (eqRel_b eqRel_n (eqRel_s eqN_195)) (eqRel_b eqRel_n (eqRel_s eqN_194))) (eqRel_b (eqRel_b eqRel_n (eqRel_s eqN_193)) (eqRel_b eqRel_n (eqRel_s eqN_192)))))) (eqRel_b (eqRel_b (eqRel_b (eqRel_b (eqRel_b (eqRel_b eqRel_n (eqRel_s eqN_191)) (eqRel_b eqRel_n (eqRel_s eqN_190))) (eqRel_b eqRel_n (eqRel_s eqN_189))) (eqRel_b (eqRel_b eqRel_n (eqRel_s eqN_188)) (eqRel_b eqRel_n (eqRel_s eqN_187)))) (eqRel_b (eqRel_b (eqRel_b eqRel_n (eqRel_s eqN_186)) (eqRel_b eqRel_n (eqRel_s eqN_185))) (eqRel_b (eqRel_b eqRel_n (eqRel_s eqN_184)) (eqRel_b eqRel_n (eqRel_s eqN_183))))) (eqRel_b (eqRel_b (eqRel_b (eqRel_b eqRel_n (eqRel_s eqN_182)) (eqRel_b eqRel_n (eqRel_s eqN_181))) (eqRel_b (eqRel_b eqRel_n (eqRel_s eqN_180)) (eqRel_b eqRel_n (eqRel_s eqN_179)))) (eqRel_b (eqRel_b (eqRel_b eqRel_n (eqRel_s eqN_178)) (eqRel_b eqRel_n (eqRel_s eqN_177))) (eqRel_b (eqRel_b eqRel_n (eqRel_s eqN_176)) (eqRel_b eqRel_n (eqRel_s eqN_175))))))) (eqRel_b (eqRel_b (eqRel_b (eqRel_b (eqRel_b (eqRel_b (eqRel_b eqRel_n (eqRel_s eqN_174)) (eqRel_b eqRel_n (eqRel_s eqN_173))) (eqRel_b eqRel_n (eqRel_s eqN_172))) (eqRel_b (eqRel_b eqRel_n (eqRel_s eqN_171)) (eqRel_b eqRel_n (eqRel_s eqN_170)))) (eqRel_b (eqRel_b (eqRel_b eqRel_n (eqRel_s eqN_169)) (eqRel_b eqRel_n (eqRel_s eqN_168))) (eqRel_b (eqRel_b eqRel_n (eqRel_s eqN_167)) (eqRel_b eqRel_n (eqRel_s eqN_166))))) (eqRel_b (eqRel_b (eqRel_b (eqRel_b (eqRel_b eqRel_n (eqRel_s eqN_165)) (eqRel_b eqRel_n (eqRel_s eqN_164))) (eqRel_b eqRel_n (eqRel_s eqN_163))) (eqRel_b (eqRel_b eqRel_n (eqRel_s eqN_162)) (eqRel_b eqRel_n (eqRel_s eqN_161)))) (eqRel_b (eqRel_b (eqRel_b eqRel_n (eqRel_s eqN_160)) (eqRel_b eqRel_n (eqRel_s eqN_159))) (eqRel_b (eqRel_b eqRel_n (eqRel_s eqN_158)) (eqRel_b eqRel_n (eqRel_s eqN_157)))))) (eqRel_b (eqRel_b (eqRel_b (eqRel_b (eqRel_b (eqRel_b eqRel_n (eqRel_s eqN_156)) (eqRel_b eqRel_n (eqRel_s eqN_155))) (eqRel_b eqRel_n (eqRel_s eqN_154))) (eqRel_b (eqRel_b eqRel_n (eqRel_s eqN_153)) (eqRel_b eqRel_n (eqRel_s eqN_152)))) (eqRel_b (eqRel_b (eqRel_b eqRel_n (eqRel_s eqN_151)) (eqRel_b eqRel_n (eqRel_s eqN_150))) (eqRel_b (eqRel_b eqRel_n (eqRel_s eqN_149)) (eqRel_b eqRel_n (eqRel_s eqN_148))))) (eqRel_b (eqRel_b (eqRel_b (eqRel_b eqRel_n (eqRel_s eqN_147)) (eqRel_b eqRel_n (eqRel_s eqN_146))) (eqRel_b (eqRel_b eqRel_n (eqRel_s eqN_145)) (eqRel_b eqRel_n (eqRel_s eqN_144)))) (eqRel_b (eqRel_b (eqRel_b eqRel_n (eqRel_s eqN_143)) (eqRel_b eqRel_n (eqRel_s eqN_142))) (eqRel_b (eqRel_b eqRel_n (eqRel_s eqN_141)) (eqRel_b eqRel_n (eqRel_s eqN_140))))))))) (eqRel_b (eqRel_b (eqRel_b (eqRel_b (eqRel_b (eqRel_b (eqRel_b (eqRel_b (eqRel_b eqRel_n (eqRel_s eqN_139)) (eqRel_b eqRel_n (eqRel_s eqN_138))) (eqRel_b eqRel_n (eqRel_s eqN_137))) (eqRel_b (eqRel_b eqRel_n (eqRel_s eqN_136)) (eqRel_b eqRel_n (eqRel_s eqN_135)))) (eqRel_b (eqRel_b (eqRel_b eqRel_n (eqRel_s eqN_134)) (eqRel_b eqRel_n (eqRel_s eqN_133))) (eqRel_b (eqRel_b eqRel_n (eqRel_s eqN_132)) (eqRel_b eqRel_n (eqRel_s eqN_131))))) (eqRel_b (eqRel_b (eqRel_b (eqRel_b (eqRel_b eqRel_n (eqRel_s eqN_130)) (eqRel_b eqRel_n (eqRel_s eqN_129))) (eqRel_b eqRel_n (eqRel_s eqN_128))) (eqRel_b (eqRel_b eqRel_n (eqRel_s eqN_127)) (eqRel_b eqRel_n (eqRel_s eqN_126)))) (eqRel_b (eqRel_b (eqRel_b eqRel_n (eqRel_s eqN_125)) (eqRel_b eqRel_n (eqRel_s eqN_124))) (eqRel_b (eqRel_b eqRel_n (eqRel_s eqN_123)) (eqRel_b eqRel_n (eqRel_s eqN_122)))))) (eqRel_b (eqRel_b (eqRel_b (eqRel_b (eqRel_b (eqRel_b eqRel_n (eqRel_s eqN_121)) (eqRel_b eqRel_n (eqRel_s eqN_120))) (eqRel_b eqRel_n (eqRel_s eqN_119))) (eqRel_b (eqRel_b eqRel_n (eqRel_s eqN_118)) (eqRel_b eqRel_n (eqRel_s eqN_117)))) (eqRel_b (eqRel_b (eqRel_b eqRel_n (eqRel_s eqN_116)) (eqRel_b eqRel_n (eqRel_s eqN_115))) (eqRel_b (eqRel_b eqRel_n (eqRel_s eqN_114)) (eqRel_b eqRel_n (eqRel_s eqN_113))))) (eqRel_b (eqRel_b (eqRel_b (eqRel_b eqRel_n (eqRel_s eqN_112)) (eqRel_b eqRel_n (eqRel_s eqN_111))) (eqRel_b (eqRel_b eqRel_n (eqRel_s eqN_110)) (eqRel_b eqRel_n (eqRel_s eqN_109)))) (eqRel_b (eqRel_b (eqRel_b eqRel_n (eqRel_s eqN_108)) (eqRel_b eqRel_n (eqRel_s eqN_107))) (eqRel_b (eqRel_b eqRel_n (eqRel_s eqN_106)) (eqRel_b eqRel_n (eqRel_s eqN_105))))))) (eqRel_b (eqRel_b (eqRel_b (eqRel_b (eqRel_b (eqRel_b (eqRel_b eqRel_n (eqRel_s eqN_104)) (eqRel_b eqRel_n (eqRel_s eqN_103))) (eqRel_b eqRel_n (eqRel_s eqN_102))) (eqRel_b (eqRel_b eqRel_n (eqRel_s eqN_101)) (eqRel_b eqRel_n (eqRel_s eqN_100)))) (eqRel_b (eqRel_b (eqRel_b eqRel_n (eqRel_s eqN_99)) (eqRel_b eqRel_n (eqRel_s eqN_98))) (eqRel_b (eqRel_b eqRel_n (eqRel_s eqN_97)) (eqRel_b eqRel_n (eqRel_s eqN_96))))) (eqRel_b (eqRel_b (eqRel_b (eqRel_b (eqRel_b eqRel_n (eqRel_s eqN_95)) (eqRel_b eqRel_n (eqRel_s eqN_94))) (eqRel_b eqRel_n (eqRel_s eqN_93))) (eqRel_b (eqRel_b eqRel_n (eqRel_s eqN_92)) (eqRel_b eqRel_n (eqRel_s eqN_91)))) (eqRel_b (eqRel_b (eqRel_b eqRel_n (eqRel_s eqN_90)) (eqRel_b eqRel_n (eqRel_s eqN_89))) (eqRel_b (eqRel_b eqRel_n (eqRel_s eqN_88)) (eqRel_b eqRel_n (eqRel_s eqN_87)))))) (eqRel_b (eqRel_b (eqRel_b (eqRel_b (eqRel_b (eqRel_b eqRel_n (eqRel_s eqN_86)) (eqRel_b eqRel_n (eqRel_s eqN_85))) (eqRel_b eqRel_n (eqRel_s eqN_84))) (eqRel_b (eqRel_b eqRel_n (eqRel_s eqN_83)) (eqRel_b eqRel_n (eqRel_s eqN_82)))) (eqRel_b (eqRel_b (eqRel_b eqRel_n (eqRel_s eqN_81)) (eqRel_b eqRel_n (eqRel_s eqN_80))) (eqRel_b (eqRel_b eqRel_n (eqRel_s eqN_79)) (eqRel_b eqRel_n (eqRel_s eqN_78))))) (eqRel_b (eqRel_b (eqRel_b (eqRel_b eqRel_n (eqRel_s eqN_77)) (eqRel_b eqRel_n (eqRel_s eqN_76))) (eqRel_b (eqRel_b eqRel_n (eqRel_s eqN_75)) (eqRel_b eqRel_n (eqRel_s eqN_74)))) (eqRel_b (eqRel_b (eqRel_b eqRel_n (eqRel_s eqN_73)) (eqRel_b eqRel_n (eqRel_s eqN_72))) (eqRel_b (eqRel_b eqRel_n (eqRel_s eqN_71)) (eqRel_b eqRel_n (eqRel_s eqN_70)))))))) (eqRel_b (eqRel_b (eqRel_b (eqRel_b (eqRel_b (eqRel_b (eqRel_b (eqRel_b eqRel_n (eqRel_s eqN_69)) (eqRel_b eqRel_n (eqRel_s eqN_68))) (eqRel_b eqRel_n (eqRel_s eqN_67))) (eqRel_b (eqRel_b eqRel_n (eqRel_s eqN_66)) (eqRel_b eqRel_n (eqRel_s eqN_65)))) (eqRel_b (eqRel_b (eqRel_b eqRel_n (eqRel_s eqN_64)) (eqRel_b eqRel_n (eqRel_s eqN_63))) (eqRel_b (eqRel_b eqRel_n (eqRel_s eqN_62)) (eqRel_b eqRel_n (eqRel_s eqN_61))))) (eqRel_b (eqRel_b (eqRel_b (eqRel_b (eqRel_b eqRel_n (eqRel_s eqN_60)) (eqRel_b eqRel_n (eqRel_s eqN_59))) (eqRel_b eqRel_n (eqRel_s eqN_58))) (eqRel_b (eqRel_b eqRel_n (eqRel_s eqN_57)) (eqRel_b eqRel_n (eqRel_s eqN_56)))) (eqRel_b (eqRel_b (eqRel_b eqRel_n (eqRel_s eqN_55)) (eqRel_b eqRel_n (eqRel_s eqN_54))) (eqRel_b (eqRel_b eqRel_n (eqRel_s eqN_53)) (eqRel_b eqRel_n (eqRel_s eqN_52)))))) (eqRel_b (eqRel_b (eqRel_b (eqRel_b (eqRel_b (eqRel_b eqRel_n (eqRel_s eqN_51)) (eqRel_b eqRel_n (eqRel_s eqN_50))) (eqRel_b eqRel_n (eqRel_s eqN_49))) (eqRel_b (eqRel_b eqRel_n (eqRel_s eqN_48)) (eqRel_b eqRel_n (eqRel_s eqN_47)))) (eqRel_b (eqRel_b (eqRel_b eqRel_n (eqRel_s eqN_46)) (eqRel_b eqRel_n (eqRel_s eqN_45))) (eqRel_b (eqRel_b eqRel_n (eqRel_s eqN_44)) (eqRel_b eqRel_n (eqRel_s eqN_43))))) (eqRel_b (eqRel_b (eqRel_b (eqRel_b eqRel_n (eqRel_s eqN_42)) (eqRel_b eqRel_n (eqRel_s eqN_41))) (eqRel_b (eqRel_b eqRel_n (eqRel_s eqN_40)) (eqRel_b eqRel_n (eqRel_s eqN_39)))) (eqRel_b (eqRel_b (eqRel_b eqRel_n (eqRel_s eqN_38)) (eqRel_b eqRel_n (eqRel_s eqN_37))) (eqRel_b (eqRel_b eqRel_n (eqRel_s eqN_36)) (eqRel_b eqRel_n (eqRel_s eqN_35))))))) (eqRel_b (eqRel_b (eqRel_b (eqRel_b (eqRel_b (eqRel_b (eqRel_b eqRel_n (eqRel_s eqN_34)) (eqRel_b eqRel_n (eqRel_s eqN_33))) (eqRel_b eqRel_n (eqRel_s eqN_32))) (eqRel_b (eqRel_b eqRel_n (eqRel_s eqN_31)) (eqRel_b eqRel_n (eqRel_s eqN_30)))) (eqRel_b (eqRel_b (eqRel_b eqRel_n (eqRel_s eqN_29)) (eqRel_b eqRel_n (eqRel_s eqN_28))) (eqRel_b (eqRel_b eqRel_n (eqRel_s eqN_27)) (eqRel_b eqRel_n (eqRel_s eqN_26))))) (eqRel_b (eqRel_b (eqRel_b (eqRel_b (eqRel_b eqRel_n (eqRel_s eqN_25)) (eqRel_b eqRel_n (eqRel_s eqN_24))) (eqRel_b eqRel_n (eqRel_s eqN_23))) (eqRel_b (eqRel_b eqRel_n (eqRel_s eqN_22)) (eqRel_b eqRel_n (eqRel_s eqN_21)))) (eqRel_b (eqRel_b (eqRel_b eqRel_n (eqRel_s eqN_20)) (eqRel_b eqRel_n (eqRel_s eqN_19))) (eqRel_b (eqRel_b eqRel_n (eqRel_s eqN_18)) (eqRel_b eqRel_n (eqRel_s eqN_17)))))) (eqRel_b (eqRel_b (eqRel_b (eqRel_b (eqRel_b (eqRel_b eqRel_n (eqRel_s eqN_16)) (eqRel_b eqRel_n (eqRel_s eqN_15))) (eqRel_b eqRel_n (eqRel_s eqN_14))) (eqRel_b (eqRel_b eqRel_n (eqRel_s eqN_13)) (eqRel_b eqRel_n (eqRel_s eqN_12)))) (eqRel_b (eqRel_b (eqRel_b eqRel_n (eqRel_s eqN_11)) (eqRel_b eqRel_n (eqRel_s eqN_10))) (eqRel_b (eqRel_b eqRel_n (eqRel_s eqN_9)) (eqRel_b eqRel_n (eqRel_s eqN_8))))) (eqRel_b (eqRel_b (eqRel_b (eqRel_b eqRel_n (eqRel_s eqN_7)) (eqRel_b eqRel_n (eqRel_s eqN_6))) (eqRel_b (eqRel_b eqRel_n (eqRel_s eqN_5)) (eqRel_b eqRel_n (eqRel_s eqN_4)))) (eqRel_b (eqRel_b (eqRel_b eqRel_n (eqRel_s eqN_3)) (eqRel_b eqRel_n (eqRel_s eqN_2))) (eqRel_b (eqRel_b eqRel_n (eqRel_s eqN_1)) (eqRel_b eqRel_n (eqRel_s eqN_0))))))))))
theorem eqMc_ok (mi : Nat) (M : eM) (h : eMTg mi = some M) : ∃ q, eqMc mi = some q ∧ M.1 = eqM q := by
  unfold eMTg at h
  split at h
  · exact eqMc_rel mi M h
  · cases h
def eqNa : List Nat := [0, 2, 3, 3, 1, 3, 2, 1, 0, 3, 3, 2, 2, 2, 1, 1, 1, 1, 1, 1, 2, 2, 2, 3, 1, 1, 2, 2, 3, 1, 1, 1, 2, 3, 2, 0, 0, 1, 0, 0, 0, 0, 1, 3, 1, 2, 3, 3, 2, 5, 2, 1, 1, 1, 0, 3, 1, 1, 3, 2, 3, 1, 2, 3, 3, 0, 0, 2, 2, 3, 2, 1, 0, 0, 2, 1, 0, 0, 0, 0, 0, 0, 0, 0, 0, 1, 3, 3, 1, 0, 4, 2, 2, 1, 2, 2, 3, 1, 1, 1, 3, 1, 3, 1, 2, 5, 3, 1, 2, 1, 3, 1, 1, 5, 2, 2, 2, 2, 1, 1, 1, 1, 1, 1, 0, 2, 1, 2, 2, 3, 1, 1, 2, 2, 2, 3, 2, 3, 2, 0, 0, 1, 0, 0, 1, 1, 1, 1, 2, 2, 2, 2, 2, 2, 2, 2, 2, 2, 2, 2, 3, 1, 1, 2, 3, 2, 3, 2, 5, 2, 0, 1, 2, 1, 1, 1, 1, 3, 4, 3, 2, 2, 1, 0, 1, 2, 3, 0, 1, 4, 4, 2, 0, 2, 2, 1, 0, 3, 0, 1, 3, 0, 0, 0, 1, 2, 0, 0, 0, 0, 0, 2, 0, 3, 3, 0, 1, 1, 3, 0, 1, 0, 0, 1, 1, 1, 1, 1, 1, 1, 0, 0, 1, 0, 1, 0, 1, 1, 2, 2, 3, 3, 1, 1, 1, 1, 0, 1, 1, 1, 1, 3, 1, 2, 0, 0, 1, 2, 1, 1, 1, 2, 2, 1, 2, 1, 3, 2, 1, 0, 1, 1, 1, 2, 1, 1, 0, 1, 1, 2]
def eqNac (mi : Nat) : Bool := match eMTg mi with
  | none => true
  | some M => decide ((parseMethodDescriptor M.1.desc).map (fun d => d.parameters.length) = eqAt eqNa mi)
theorem eqNa_chk : (List.range 280).all eqNac = true := by decide +kernel
theorem eqNa_in {b : Nat} {M : eM} (hb : b < eNC) (h : eMTg b = some M) : (parseMethodDescriptor M.1.desc).map (fun d => d.parameters.length) = eqAt eqNa b := by
  have e := List.all_eq_true.mp eqNa_chk b (List.mem_range.mpr hb)
  unfold eqNac at e
  rw [h] at e
  exact of_decide_eq_true e
def eqInit : Nat := 0
theorem eqInit_ok : eqSt eqInit = "<init>" := rfl
def eqKl : List Nat := [10, 8, 4, 9, 6, 5, 3, 11, 7, 2, 12]
theorem eqKm : eCL.map (fun k => k.1) = eqKl.map eqSt := rfl
theorem eqKl_ok {a c : Nat} (h : eqAt eqKl a = some c) : ∃ k, eCL[a]? = some k ∧ k.1 = eqSt c := by
  rw [eqAt_eq] at h
  have e := congrArg (fun L => L[a]?) eqKm
  simp only [List.getElem?_map, h, Option.map_some] at e
  exact Option.map_eq_some_iff.mp e
def eqFr (k : vw_C) (l : List eqN) : Prop := (List.range k.2.2).map (fun z => ((k.2.1 z).1, (k.2.1 z).2.1, (k.2.1 z).2.2.1)) = l.map (fun q => (eqSt q.1, eqSt q.2.1, eqSt q.2.2))
theorem eqFr_ok {k : vw_C} {l : List eqN} (h : eqFr k l) {z : Nat} {q : eqN} (hq : l[z]? = some q) : z < k.2.2 ∧ (k.2.1 z).1 = eqSt q.1 ∧ (k.2.1 z).2.1 = eqSt q.2.1 ∧ (k.2.1 z).2.2.1 = eqSt q.2.2 := by
  have hz : z < l.length := (List.getElem?_eq_some_iff.mp hq).1
  have hl : k.2.2 = l.length := by
    have e := congrArg List.length h
    rw [List.length_map, List.length_map, List.length_range] at e
    exact e
  have hz2 : z < k.2.2 := by omega
  have e := congrArg (fun L => L[z]?) h
  simp only [List.getElem?_map, hq, List.getElem?_range hz2, Option.map_some, Option.some.injEq, Prod.mk.injEq] at e
  exact ⟨hz2, e.1, e.2.1, e.2.2⟩
def eqFl_0 : List eqN := [(10, 67, 26), (10, 68, 26), (10, 59, 20), (10, 69, 20), (10, 70, 20), (10, 71, 20)]
theorem eqF_0 : eqFr (RX0, TX0, 6) eqFl_0 := rfl
def eqFl_1 : List eqN := [(8, 23, 24), (8, 53, 54), (8, 55, 26), (8, 56, 26), (8, 57, 26), (8, 58, 26), (8, 59, 20), (8, 60, 20)]
theorem eqF_1 : eqFr (RX1, TX1, 8) eqFl_1 := rfl
def eqFl_2 : List eqN := [(4, 23, 24), (4, 25, 26), (4, 27, 26), (4, 28, 26), (4, 29, 26), (4, 30, 20), (4, 31, 20)]
theorem eqF_2 : eqFr (RX2, TX2, 7) eqFl_2 := rfl
def eqFl_3 : List eqN := [(9, 23, 24), (9, 61, 26), (9, 62, 26), (9, 63, 26), (9, 64, 20), (9, 65, 66)]
theorem eqF_3 : eqFr (RX3, TX3, 6) eqFl_3 := rfl
def eqFl_4 : List eqN := [(6, 33, 26), (6, 38, 26), (6, 35, 20), (6, 39, 20), (6, 40, 20), (6, 41, 20), (6, 42, 20), (6, 43, 20), (6, 44, 20)]
theorem eqF_4 : eqFr (RX4, TX4, 9) eqFl_4 := rfl
def eqFl_5 : List eqN := [(5, 32, 26), (5, 33, 26), (5, 34, 20), (5, 35, 20), (5, 36, 20), (5, 37, 20)]
theorem eqF_5 : eqFr (RX5, TX5, 6) eqFl_5 := rfl
def eqFl_6 : List eqN := [(3, 17, 18), (3, 19, 20), (3, 21, 20)]
theorem eqF_6 : eqFr (RX6, TX6, 3) eqFl_6 := rfl
def eqFl_7 : List eqN := [(11, 72, 73), (11, 74, 20), (11, 75, 20), (11, 76, 20), (11, 34, 20)]
theorem eqF_7 : eqFr (RX7, TX7, 5) eqFl_7 := rfl
def eqFl_8 : List eqN := [(7, 23, 24), (7, 46, 47), (7, 48, 26), (7, 49, 26), (7, 44, 20), (7, 50, 20), (7, 51, 20), (7, 34, 20)]
theorem eqF_8 : eqFr (RX8, TX8, 8) eqFl_8 := rfl
def eqFl_9 : List eqN := [(2, 23, 24), (2, 77, 78), (2, 79, 80), (2, 46, 47), (2, 53, 54), (2, 81, 82), (2, 83, 84), (2, 85, 86), (2, 87, 88)]
theorem eqF_9 : eqFr (RX9, TX9, 9) eqFl_9 := rfl
def eqFl_10 : List eqN := [(12, 33, 20), (12, 19, 20), (12, 263, 26), (12, 40, 26), (12, 264, 26), (12, 21, 20), (12, 265, 26), (12, 44, 26), (12, 266, 26), (12, 267, 26), (12, 268, 20), (12, 269, 20), (12, 270, 26), (12, 271, 26), (12, 28, 26), (12, 272, 26), (12, 79, 273), (12, 274, 20), (12, 275, 20), (12, 37, 20), (12, 276, 20), (12, 277, 20), (12, 236, 273), (12, 278, 26), (12, 279, 26), (12, 280, 281), (12, 282, 281), (12, 283, 26), (12, 284, 26), (12, 285, 66), (12, 286, 26), (12, 287, 20), (12, 55, 26), (12, 288, 20), (12, 289, 26), (12, 290, 26), (12, 291, 26), (12, 292, 20), (12, 293, 20), (12, 294, 20), (12, 295, 20), (12, 296, 66), (12, 297, 20), (12, 298, 20), (12, 299, 20), (12, 300, 20), (12, 301, 20), (12, 302, 26), (12, 65, 66), (12, 303, 20), (12, 304, 20), (12, 305, 20), (12, 306, 26), (12, 307, 26), (12, 85, 20), (12, 70, 26), (12, 308, 20), (12, 68, 26), (12, 74, 26), (12, 35, 26), (12, 309, 73), (12, 310, 73)]
theorem eqF_10 : eqFr (RX10, TX10, 62) eqFl_10 := rfl
def eqFl : List (List eqN) := [eqFl_0, eqFl_1, eqFl_2, eqFl_3, eqFl_4, eqFl_5, eqFl_6, eqFl_7, eqFl_8, eqFl_9, eqFl_10]
theorem eqFk : ∀ (b : Nat) (l : List eqN), eqFl[b]? = some l → ∃ k, eCL[b]? = some k ∧ eqFr k l
  | 0, _, h => by
    cases Option.some.inj (show some eqFl_0 = some _ from h)
    exact ⟨_, rfl, eqF_0⟩
  | 1, _, h => by
    cases Option.some.inj (show some eqFl_1 = some _ from h)
    exact ⟨_, rfl, eqF_1⟩
  | 2, _, h => by
    cases Option.some.inj (show some eqFl_2 = some _ from h)
    exact ⟨_, rfl, eqF_2⟩
  | 3, _, h => by
    cases Option.some.inj (show some eqFl_3 = some _ from h)
    exact ⟨_, rfl, eqF_3⟩
  | 4, _, h => by
    cases Option.some.inj (show some eqFl_4 = some _ from h)
    exact ⟨_, rfl, eqF_4⟩
  | 5, _, h => by
    cases Option.some.inj (show some eqFl_5 = some _ from h)
    exact ⟨_, rfl, eqF_5⟩
  | 6, _, h => by
    cases Option.some.inj (show some eqFl_6 = some _ from h)
    exact ⟨_, rfl, eqF_6⟩
  | 7, _, h => by
    cases Option.some.inj (show some eqFl_7 = some _ from h)
    exact ⟨_, rfl, eqF_7⟩
  | 8, _, h => by
    cases Option.some.inj (show some eqFl_8 = some _ from h)
    exact ⟨_, rfl, eqF_8⟩
  | 9, _, h => by
    cases Option.some.inj (show some eqFl_9 = some _ from h)
    exact ⟨_, rfl, eqF_9⟩
  | 10, _, h => by
    cases Option.some.inj (show some eqFl_10 = some _ from h)
    exact ⟨_, rfl, eqF_10⟩
  | _ + 11, _, h => by simp [eqFl] at h
def eqFc (b z : Nat) : Option eqN := match eqFl[b]? with
  | some l => l[z]?
  | none => none
theorem eqFc_ok {b z : Nat} {q : eqN} (h : eqFc b z = some q) : ∃ k, eCL[b]? = some k ∧ z < k.2.2 ∧ (k.2.1 z).1 = eqSt q.1 ∧ (k.2.1 z).2.1 = eqSt q.2.1 ∧ (k.2.1 z).2.2.1 = eqSt q.2.2 := by
  unfold eqFc at h
  split at h
  · rename_i l hl
    obtain ⟨k, h1, h2⟩ := eqFk b l hl
    exact ⟨k, h1, eqFr_ok h2 h⟩
  · cases h
end
