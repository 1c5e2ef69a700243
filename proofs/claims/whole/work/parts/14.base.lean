/-! the tables of the methods (by program) -/
def nmL : List MethodName := [⟨"java/lang/Math", "max", "(II)I"⟩, ⟨"java/lang/Math", "min", "(II)I"⟩, ⟨"java/lang/Math", "max", "(JJ)J"⟩, ⟨"java/lang/Math", "min", "(JJ)J"⟩, ⟨"java/lang/Math", "abs", "(I)I"⟩, ⟨"java/lang/Math", "floorDiv", "(II)I"⟩, ⟨"java/lang/Integer", "bitCount", "(I)I"⟩, ⟨"java/lang/Integer", "numberOfTrailingZeros", "(I)I"⟩, ⟨"java/lang/String", "length", "()I"⟩, ⟨"java/lang/String", "coder", "()B"⟩, ⟨"java/lang/String", "charAt", "(I)C"⟩, ⟨"java/lang/String", "isLatin1", "()Z"⟩, ⟨"java/lang/String", "checkIndex", "(II)V"⟩, ⟨"java/lang/StringLatin1", "charAt", "([BI)C"⟩, ⟨"jdk/internal/util/Preconditions", "checkIndex", "(IILjava/util/function/BiFunction;)I"⟩, ⟨"OwedToWinds", "<init>", "()V"⟩, ⟨"OwedToWinds", "wind", "(III)I"⟩, ⟨"OwedToWinds", "village", "(II)I"⟩, ⟨"OwedToWinds", "way", "(III)Z"⟩, ⟨"OwedToWinds", "feed", "(IIIII)I"⟩, ⟨"OwedToWinds", "feedFour", "(I)V"⟩, ⟨"OwedToWinds", "end", "(I)I"⟩, ⟨"OwedToWinds", "text", "()I"⟩, ⟨"OwedToWinds", "fault", "(I)I"⟩, ⟨"OwedToWinds", "by", "(I)Z"⟩, ⟨"OwedToWinds", "pay", "(III)I"⟩, ⟨"OwedToWinds", "merge", "(II)I"⟩, ⟨"OwedToWinds", "day", "(I)I"⟩, ⟨"OwedToWinds", "played", "(I)I"⟩, ⟨"OwedToWinds", "years", "(II)I"⟩, ⟨"OwedToWinds", "undo", "()I"⟩, ⟨"OwedToWinds", "ofWind", "(II)I"⟩, ⟨"OwedToWinds", "ofVillage", "(II)I"⟩, ⟨"OwedToWinds", "takes", "(III)I"⟩, ⟨"OwedToWinds", "catches", "(III)I"⟩, ⟨"OwedToWinds", "isForce", "(I)Z"⟩, ⟨"OwedToWinds", "isFar", "(I)Z"⟩, ⟨"OwedToWinds", "is", "(I)I"⟩, ⟨"OwedToWinds", "book", "(II)I"⟩, ⟨"OwedToWinds", "foretold", "(I)I"⟩, ⟨"OwedToWinds", "purse", "(II)I"⟩, ⟨"OwedToWinds", "owed", "(II)I"⟩, ⟨"OwedToWinds", "arrears", "()I"⟩, ⟨"OwedToWinds", "broke", "(I)I"⟩, ⟨"OwedToWinds", "whose", "(I)I"⟩, ⟨"OwedToWinds", "odds", "(IIZ)J"⟩, ⟨"OwedToWinds", "least", "(IIZ)I"⟩, ⟨"OwedToWinds", "share", "(IIIIZ)I"⟩, ⟨"OwedToWinds", "voyage", "(IIZ)I"⟩, ⟨"OwedToWinds", "took", "(II)I"⟩, ⟨"OwedToWinds", "whoseWind", "()I"⟩, ⟨"OwedToWinds", "strengths", "(I)I"⟩, ⟨"OwedToWinds", "vane", "()I"⟩, ⟨"OwedToWinds", "sail", "(I)I"⟩, ⟨"OwedToWinds", "sails", "(II)I"⟩, ⟨"OwedToWinds", "sure", "(III)I"⟩, ⟨"OwedToWinds", "kind", "(I)I"⟩, ⟨"OwedToWinds", "inKind", "(II)I"⟩, ⟨"OwedToWinds", "calms", "(IZ)I"⟩, ⟨"OwedToWinds", "strongest", "()I"⟩, ⟨"OwedToWinds", "richest", "()I"⟩, ⟨"OwedToWinds", "often", "(I)I"⟩, ⟨"OwedToWinds", "worstDay", "()I"⟩, ⟨"OwedToWinds", "image", "()I"⟩, ⟨"OwedToWinds", "back", "()I"⟩, ⟨"OwedToWinds", "about", "(I)I"⟩, ⟨"OwedToWindsModel", "<init>", "()V"⟩, ⟨"OwedToWindsModel", "copy", "([I[I)V"⟩, ⟨"OwedToWindsModel", "isIn", "(III)Z"⟩, ⟨"OwedToWindsModel", "cut", "(JII)I"⟩, ⟨"OwedToWindsModel", "has", "(II)Z"⟩, ⟨"OwedToWindsModel", "bits", "(I)I"⟩, ⟨"OwedToWindsModel", "isWind", "(I)Z"⟩, ⟨"OwedToWindsModel", "isVillage", "(I)Z"⟩, ⟨"OwedToWindsModel", "get", "(II)I"⟩, ⟨"OwedToWindsModel", "put", "(III)V"⟩, ⟨"OwedToWindsModel", "of", "(II)I"⟩, ⟨"OwedToWindsModel", "lay", "(III)V"⟩, ⟨"OwedToWindsModel", "isHere", "(I)Z"⟩, ⟨"OwedToWindsModel", "wind", "(III)I"⟩, ⟨"OwedToWindsModel", "begin", "(I)V"⟩, ⟨"OwedToWindsModel", "village", "(II)I"⟩, ⟨"OwedToWindsModel", "way", "(III)Z"⟩, ⟨"OwedToWindsModel", "four", "(I)V"⟩, ⟨"OwedToWindsModel", "feed", "(IIIII)I"⟩, ⟨"OwedToWindsModel", "end", "(I)I"⟩, ⟨"OwedToWindsModel", "byteAt", "(I)I"⟩, ⟨"OwedToWindsModel", "isLetterByte", "(I)Z"⟩, ⟨"OwedToWindsModel", "isFigure", "(I)Z"⟩, ⟨"OwedToWindsModel", "isSign", "(I)Z"⟩, ⟨"OwedToWindsModel", "nextToken", "()V"⟩, ⟨"OwedToWindsModel", "w2", "(II)J"⟩, ⟨"OwedToWindsModel", "w3", "(III)J"⟩, ⟨"OwedToWindsModel", "w4", "(IIII)J"⟩, ⟨"OwedToWindsModel", "w5", "(IIIII)J"⟩, ⟨"OwedToWindsModel", "w6", "(IIIIII)J"⟩, ⟨"OwedToWindsModel", "isWord", "(J)Z"⟩, ⟨"OwedToWindsModel", "emit", "(II)V"⟩, ⟨"OwedToWindsModel", "isLong", "(JJ)Z"⟩, ⟨"OwedToWindsModel", "nameOf", "()I"⟩, ⟨"OwedToWindsModel", "isOf", "(I)Z"⟩, ⟨"OwedToWindsModel", "rank", "(I)I"⟩, ⟨"OwedToWindsModel", "settle", "(I)V"⟩, ⟨"OwedToWindsModel", "isOpen", "()Z"⟩, ⟨"OwedToWindsModel", "isCompared", "()Z"⟩, ⟨"OwedToWindsModel", "isAskAhead", "()Z"⟩, ⟨"OwedToWindsModel", "opened", "(I)I"⟩, ⟨"OwedToWindsModel", "beginOne", "()I"⟩, ⟨"OwedToWindsModel", "endOne", "()I"⟩, ⟨"OwedToWindsModel", "compareOf", "()I"⟩, ⟨"OwedToWindsModel", "betweenOf", "()I"⟩, ⟨"OwedToWindsModel", "behindOne", "()I"⟩, ⟨"OwedToWindsModel", "parsed", "(Z)I"⟩, ⟨"OwedToWindsModel", "figure", "(III)I"⟩, ⟨"OwedToWindsModel", "worded", "(JIII)I"⟩, ⟨"OwedToWindsModel", "lawClause", "(IZ)I"⟩, ⟨"OwedToWindsModel", "three", "(IIJIJII)I"⟩, ⟨"OwedToWindsModel", "two0", "(IIJI)I"⟩, ⟨"OwedToWindsModel", "body", "(II)I"⟩, ⟨"OwedToWindsModel", "sortOf", "()I"⟩, ⟨"OwedToWindsModel", "clause", "()I"⟩, ⟨"OwedToWindsModel", "readText", "()I"⟩, ⟨"OwedToWindsModel", "text", "()I"⟩, ⟨"OwedToWindsModel", "fault", "(I)I"⟩, ⟨"OwedToWindsModel", "by", "(I)Z"⟩, ⟨"OwedToWindsModel", "clip", "(J)J"⟩, ⟨"OwedToWindsModel", "two", "(IJJ)J"⟩, ⟨"OwedToWindsModel", "isAsked", "(IJJ)Z"⟩, ⟨"OwedToWindsModel", "rounded", "(JJ)J"⟩, ⟨"OwedToWindsModel", "debtOf", "(J)J"⟩, ⟨"OwedToWindsModel", "joined", "(IZZ)Z"⟩, ⟨"OwedToWindsModel", "work", "(I)V"⟩, ⟨"OwedToWindsModel", "clauseOf", "(I)I"⟩, ⟨"OwedToWindsModel", "says", "(III)I"⟩, ⟨"OwedToWindsModel", "name", "(III)V"⟩, ⟨"OwedToWindsModel", "isComing", "(I)Z"⟩, ⟨"OwedToWindsModel", "blowsOf", "(III)I"⟩, ⟨"OwedToWindsModel", "blowsNow", "(I)I"⟩, ⟨"OwedToWindsModel", "duesOf", "(I)I"⟩, ⟨"OwedToWindsModel", "nameVillage", "(III)V"⟩, ⟨"OwedToWindsModel", "takesOf", "(III)I"⟩, ⟨"OwedToWindsModel", "catchOf", "(III)I"⟩, ⟨"OwedToWindsModel", "weights", "()I"⟩, ⟨"OwedToWindsModel", "anew", "()V"⟩, ⟨"OwedToWindsModel", "drawn", "()I"⟩, ⟨"OwedToWindsModel", "blow", "()V"⟩, ⟨"OwedToWindsModel", "takeFrom", "(I)V"⟩, ⟨"OwedToWindsModel", "write", "()V"⟩, ⟨"OwedToWindsModel", "pass", "()V"⟩, ⟨"OwedToWindsModel", "keep", "()V"⟩, ⟨"OwedToWindsModel", "undo", "()I"⟩, ⟨"OwedToWindsModel", "canPay", "(III)Z"⟩, ⟨"OwedToWindsModel", "payNow", "(III)V"⟩, ⟨"OwedToWindsModel", "pay", "(III)I"⟩, ⟨"OwedToWindsModel", "mergeNow", "(II)V"⟩, ⟨"OwedToWindsModel", "merge", "(II)I"⟩, ⟨"OwedToWindsModel", "arePassed", "(I)Z"⟩, ⟨"OwedToWindsModel", "day", "(I)I"⟩, ⟨"OwedToWindsModel", "isPlayed", "(I)Z"⟩, ⟨"OwedToWindsModel", "played", "(I)I"⟩, ⟨"OwedToWindsModel", "happens", "(I)V"⟩, ⟨"OwedToWindsModel", "years", "(II)I"⟩, ⟨"OwedToWindsModel", "ofWind", "(II)I"⟩, ⟨"OwedToWindsModel", "ofVillage", "(II)I"⟩, ⟨"OwedToWindsModel", "takes", "(III)I"⟩, ⟨"OwedToWindsModel", "catches", "(III)I"⟩, ⟨"OwedToWindsModel", "is", "(I)I"⟩, ⟨"OwedToWindsModel", "shown", "()I"⟩, ⟨"OwedToWindsModel", "entry", "(II)I"⟩, ⟨"OwedToWindsModel", "book", "(II)I"⟩, ⟨"OwedToWindsModel", "often", "(I)I"⟩, ⟨"OwedToWindsModel", "worstDay", "()I"⟩, ⟨"OwedToWindsModel", "strongest", "()I"⟩, ⟨"OwedToWindsModel", "richest", "()I"⟩, ⟨"OwedToWindsModel", "setAside", "()V"⟩, ⟨"OwedToWindsModel", "putBack", "()V"⟩, ⟨"OwedToWindsModel", "goOn", "()Z"⟩, ⟨"OwedToWindsModel", "behind", "(II)I"⟩, ⟨"OwedToWindsModel", "takenIn", "(I)I"⟩, ⟨"OwedToWindsModel", "foretold", "(I)I"⟩, ⟨"OwedToWindsModel", "purse", "(II)I"⟩, ⟨"OwedToWindsModel", "owed", "(II)I"⟩, ⟨"OwedToWindsModel", "isInArrears", "()Z"⟩, ⟨"OwedToWindsModel", "arrears", "()I"⟩, ⟨"OwedToWindsModel", "broke", "(I)I"⟩, ⟨"OwedToWindsModel", "whose", "(I)I"⟩, ⟨"OwedToWindsModel", "calms", "(IZ)I"⟩, ⟨"OwedToWindsModel", "common", "(JJ)J"⟩, ⟨"OwedToWindsModel", "part", "(JJZ)J"⟩, ⟨"OwedToWindsModel", "odds", "(IIZ)J"⟩, ⟨"OwedToWindsModel", "owedBy", "(IZ)I"⟩, ⟨"OwedToWindsModel", "takenBy", "(II)I"⟩, ⟨"OwedToWindsModel", "least", "(IIZ)I"⟩, ⟨"OwedToWindsModel", "nextRow", "(I)Z"⟩, ⟨"OwedToWindsModel", "added", "(II)I"⟩, ⟨"OwedToWindsModel", "share", "(IIIIZ)I"⟩, ⟨"OwedToWindsModel", "laySpeeds", "()V"⟩, ⟨"OwedToWindsModel", "reached", "(II)I"⟩, ⟨"OwedToWindsModel", "arrival", "(II)I"⟩, ⟨"OwedToWindsModel", "voyage", "(IIZ)I"⟩, ⟨"OwedToWindsModel", "took", "(II)I"⟩, ⟨"OwedToWindsModel", "isFitting", "(II)Z"⟩, ⟨"OwedToWindsModel", "strengthsOf", "(I)I"⟩, ⟨"OwedToWindsModel", "whoseWind", "()I"⟩, ⟨"OwedToWindsModel", "strengths", "(I)I"⟩, ⟨"OwedToWindsModel", "answers", "(I)I"⟩, ⟨"OwedToWindsModel", "isRead", "(I)Z"⟩, ⟨"OwedToWindsModel", "vane", "()I"⟩, ⟨"OwedToWindsModel", "sail", "(I)I"⟩, ⟨"OwedToWindsModel", "paymentOf", "(II)I"⟩, ⟨"OwedToWindsModel", "isTorn", "(III)Z"⟩, ⟨"OwedToWindsModel", "canTear", "(II)Z"⟩, ⟨"OwedToWindsModel", "sails", "(II)I"⟩, ⟨"OwedToWindsModel", "sure", "(III)I"⟩, ⟨"OwedToWindsModel", "kind", "(I)I"⟩, ⟨"OwedToWindsModel", "layPieces", "(I)V"⟩, ⟨"OwedToWindsModel", "inKind", "(II)I"⟩, ⟨"OwedToWindsModel", "image", "()I"⟩, ⟨"OwedToWindsModel", "back", "()I"⟩, ⟨"OwedToWindsModel", "about", "(I)I"⟩, ⟨"OwedToWinds$Coins", "<init>", "()V"⟩, ⟨"OwedToWinds$Coins", "count", "([III)V"⟩, ⟨"OwedToWinds$Coins", "piecesOf", "([III)I"⟩, ⟨"OwedToWinds$Days", "<init>", "(LOwedToWinds$World;LOwedToWinds$Laws;)V"⟩, ⟨"OwedToWinds$Days", "wasCalm", "()Z"⟩, ⟨"OwedToWinds$Days", "speed", "()I"⟩, ⟨"OwedToWinds$Days", "pass", "()V"⟩, ⟨"OwedToWinds$Days", "drawnWind", "()I"⟩, ⟨"OwedToWinds$Days", "drawX", "()I"⟩, ⟨"OwedToWinds$Days", "payByHand", "(III)I"⟩, ⟨"OwedToWinds$Days", "canPay", "(III)Z"⟩, ⟨"OwedToWinds$Days", "payNow", "(III)V"⟩, ⟨"OwedToWinds$Days", "mergeByHand", "(II)I"⟩, ⟨"OwedToWinds$Days", "canMerge", "(II)Z"⟩, ⟨"OwedToWinds$Days", "mergeNow", "(II)V"⟩, ⟨"OwedToWinds$Days", "passYears", "(II)V"⟩, ⟨"OwedToWinds$Days", "payByChance", "(I)V"⟩, ⟨"OwedToWinds$Days", "mergeByChance", "(I)V"⟩, ⟨"OwedToWinds$Days", "play", "(LOwedToWinds$Text;)I"⟩, ⟨"OwedToWinds$Days", "perform", "(IIII)Z"⟩, ⟨"OwedToWinds$Foresight", "<init>", "(LOwedToWinds$World;LOwedToWinds$Days;)V"⟩, ⟨"OwedToWinds$Foresight", "keepNow", "()V"⟩, ⟨"OwedToWinds$Foresight", "giveBack", "()V"⟩, ⟨"OwedToWinds$Foresight", "canPass", "(I)I"⟩, ⟨"OwedToWinds$Foresight", "takenUpTo", "(II)I"⟩, ⟨"OwedToWinds$Foresight", "taken", "(I)I"⟩, ⟨"OwedToWinds$Foresight", "later", "(II)I"⟩, ⟨"OwedToWinds$Foresight", "daysToArrears", "()I"⟩, ⟨"OwedToWinds$Foresight", "isAnyOwed", "()Z"⟩, ⟨"OwedToWinds$Foresight", "isOwed", "(I)Z"⟩, ⟨"OwedToWinds$Foresight", "daysToBroke", "(I)I"⟩, ⟨"OwedToWinds$Foresight", "mildestText", "(I)I"⟩, ⟨"OwedToWinds$Foresight", "findLeast", "(II)V"⟩, ⟨"OwedToWinds$Foresight", "penceFor", "(I)I"⟩, ⟨"OwedToWinds$Foresight", "payOff", "(I)V"⟩, ⟨"OwedToWinds$Foresight", "countCalms", "(I)V"⟩, ⟨"OwedToWinds$Foresight", "setOut", "(I)V"⟩, ⟨"OwedToWinds$Foresight", "foreseeSpeeds", "()V"⟩, ⟨"OwedToWinds$Foresight", "arrival", "(II)I"⟩, ⟨"OwedToWinds$Foresight", "isReached", "(I)Z"⟩, ⟨"OwedToWinds$Foresight", "lastAhead", "(I)I"⟩, ⟨"OwedToWinds$Fraction", "<init>", "()V"⟩, ⟨"OwedToWinds$Fraction", "set", "(JJ)V"⟩, ⟨"OwedToWinds$Fraction", "setOdds", "(LOwedToWinds$World;II)V"⟩, ⟨"OwedToWinds$Fraction", "setShare", "([III)V"⟩, ⟨"OwedToWinds$Fraction", "mostOf", "([II)I"⟩, ⟨"OwedToWinds$Laws", "<init>", "(LOwedToWinds$World;[LOwedToWinds$Text;)V"⟩, ⟨"OwedToWinds$Laws", "comesOf", "(I)Z"⟩, ⟨"OwedToWinds$Laws", "blowsOf", "(I)I"⟩, ⟨"OwedToWinds$Laws", "duesOf", "(I)I"⟩, ⟨"OwedToWinds$Laws", "takesOf", "(III)I"⟩, ⟨"OwedToWinds$Laws", "catchOf", "(III)I"⟩, ⟨"OwedToWinds$Laws", "rulingOn", "(I)LOwedToWinds$Text;"⟩, ⟨"OwedToWinds$Laws", "within", "(II)I"⟩, ⟨"OwedToWinds$Laws", "reckoned", "(LOwedToWinds$Text;IIII)I"⟩, ⟨"OwedToWinds$Laws", "named", "(IIII)I"⟩, ⟨"OwedToWinds$Laws", "ofOne", "(II)I"⟩, ⟨"OwedToWinds$Laws", "ofTwo", "(III)J"⟩, ⟨"OwedToWinds$Laws", "nearest", "(II)I"⟩, ⟨"OwedToWinds$Reader", "<init>", "([I)V"⟩, ⟨"OwedToWinds$Reader", "read", "(ILOwedToWinds$Text;)Z"⟩, ⟨"OwedToWinds$Reader", "blame", "(I)V"⟩, ⟨"OwedToWinds$Reader", "blameClause", "(I)V"⟩, ⟨"OwedToWinds$Reader", "readDeed", "(I)V"⟩, ⟨"OwedToWinds$Reader", "expect", "(LOwedToWinds$Word;)V"⟩, ⟨"OwedToWinds$Reader", "expectNumber", "(II)I"⟩, ⟨"OwedToWinds$Reader", "readLaw", "(I)V"⟩, ⟨"OwedToWinds$Reader", "top", "()LOwedToWinds$Word;"⟩, ⟨"OwedToWinds$Reader", "push", "(LOwedToWinds$Word;)V"⟩, ⟨"OwedToWinds$Reader", "isAtAsk", "()Z"⟩, ⟨"OwedToWinds$Reader", "readOne", "()V"⟩, ⟨"OwedToWinds$Reader", "openOne", "(LOwedToWinds$Word;)V"⟩, ⟨"OwedToWinds$Reader", "closeOne", "()V"⟩, ⟨"OwedToWinds$Reader", "readBehindOne", "()V"⟩, ⟨"OwedToWinds$Reader", "readBehindSum", "()V"⟩, ⟨"OwedToWinds$Reader", "putDownTo", "(I)V"⟩, ⟨"OwedToWinds$Reader", "advance", "()V"⟩, ⟨"OwedToWinds$Reader", "readNumber", "()V"⟩, ⟨"OwedToWinds$Reader", "isLetter", "(I)Z"⟩, ⟨"OwedToWinds$Reader", "isDigit", "(I)Z"⟩, ⟨"OwedToWinds$Reader", "spelled", "()LOwedToWinds$Word;"⟩, ⟨"OwedToWinds$Reader", "isSpelled", "(Ljava/lang/String;)Z"⟩, ⟨"OwedToWinds$Riddles", "<init>", "(LOwedToWinds$World;LOwedToWinds$Laws;)V"⟩, ⟨"OwedToWinds$Riddles", "findTakes", "(II)V"⟩, ⟨"OwedToWinds$Riddles", "fittingForces", "(I)I"⟩, ⟨"OwedToWinds$Riddles", "fits", "(II)Z"⟩, ⟨"OwedToWinds$Riddles", "fittingWinds", "()I"⟩, ⟨"OwedToWinds$Riddles", "nextVane", "()I"⟩, ⟨"OwedToWinds$Riddles", "isTookOf", "(I)Z"⟩, ⟨"OwedToWinds$Riddles", "unlikeAnswers", "(I)I"⟩, ⟨"OwedToWinds$Riddles", "findSails", "(II)V"⟩, ⟨"OwedToWinds$Riddles", "rows", "()I"⟩, ⟨"OwedToWinds$Riddles", "payment", "(II)I"⟩, ⟨"OwedToWinds$Riddles", "isSo", "(I)Z"⟩, ⟨"OwedToWinds$Riddles", "countRows", "()I"⟩, ⟨"OwedToWinds$Riddles", "surePayment", "(I)I"⟩, ⟨"OwedToWinds$Text", "<init>", "()V"⟩, ⟨"OwedToWinds$Text", "clear", "()V"⟩, ⟨"OwedToWinds$Text", "hasLaw", "(I)Z"⟩, ⟨"OwedToWinds$Text", "beginLaw", "(I)V"⟩, ⟨"OwedToWinds$Text", "endLaw", "(I)V"⟩, ⟨"OwedToWinds$Text", "put", "(I)V"⟩, ⟨"OwedToWinds$Text", "addClause", "(IIII)V"⟩, ⟨"OwedToWinds$Word", "isName", "()Z"⟩, ⟨"OwedToWinds$Word", "isNameOf", "(I)Z"⟩, ⟨"OwedToWinds$Word", "compares", "()Z"⟩, ⟨"OwedToWinds$World", "<init>", "()V"⟩, ⟨"OwedToWinds$World", "copyFrom", "(LOwedToWinds$World;)V"⟩, ⟨"OwedToWinds$World", "copyRow", "([I[I)V"⟩, ⟨"OwedToWinds$World", "isWind", "(I)Z"⟩, ⟨"OwedToWinds$World", "isHere", "(I)Z"⟩, ⟨"OwedToWinds$World", "weightOf", "(I)I"⟩, ⟨"OwedToWinds$World", "weightOfAll", "()I"⟩, ⟨"OwedToWinds$World", "isVillage", "(I)Z"⟩, ⟨"OwedToWinds$World", "isText", "(I)Z"⟩, ⟨"OwedToWinds$World", "daysLeft", "()I"⟩, ⟨"OwedToWinds$World", "tellWind", "(III)I"⟩, ⟨"OwedToWinds$World", "setWind", "([IIII)V"⟩, ⟨"OwedToWinds$World", "tellVillage", "(II)I"⟩, ⟨"OwedToWinds$World", "setVillage", "([III)V"⟩, ⟨"OwedToWinds$World", "tellWay", "(III)Z"⟩, ⟨"OwedToWinds$World", "lengthOf", "(II)I"⟩, ⟨"OwedToWinds$World", "keepStep", "()V"⟩, ⟨"OwedToWinds$World", "takeBack", "()Z"⟩, ⟨"OwedToWinds$World", "pages", "()I"⟩, ⟨"OwedToWinds$World", "writePage", "(III)V"⟩, ⟨"OwedToWinds$World", "page", "(II)I"⟩]
def ccL : List ByteArray := [prog_16_method_65_code, prog_16_method_69_code, prog_16_method_66_code, prog_16_method_70_code, prog_16_method_59_code, prog_16_method_47_code, prog_15_method_49_code, prog_15_method_48_code, prog_17_method_54_code, prog_17_method_152_code, prog_17_method_56_code, prog_17_method_154_code, prog_17_method_155_code, prog_18_method_2_code, prog_21_method_11_code, prog_1_method_1_code, prog_1_method_2_code, prog_1_method_3_code, prog_1_method_4_code, prog_1_method_5_code, prog_1_method_6_code, prog_1_method_7_code, prog_1_method_8_code, prog_1_method_9_code, prog_1_method_10_code, prog_1_method_11_code, prog_1_method_12_code, prog_1_method_13_code, prog_1_method_14_code, prog_1_method_15_code, prog_1_method_16_code, prog_1_method_17_code, prog_1_method_18_code, prog_1_method_19_code, prog_1_method_20_code, prog_1_method_21_code, prog_1_method_22_code, prog_1_method_23_code, prog_1_method_24_code, prog_1_method_25_code, prog_1_method_26_code, prog_1_method_27_code, prog_1_method_28_code, prog_1_method_29_code, prog_1_method_30_code, prog_1_method_31_code, prog_1_method_32_code, prog_1_method_33_code, prog_1_method_34_code, prog_1_method_35_code, prog_1_method_36_code, prog_1_method_37_code, prog_1_method_38_code, prog_1_method_39_code, prog_1_method_40_code, prog_1_method_41_code, prog_1_method_42_code, prog_1_method_43_code, prog_1_method_44_code, prog_1_method_45_code, prog_1_method_46_code, prog_1_method_47_code, prog_1_method_48_code, prog_1_method_49_code, prog_1_method_50_code, prog_1_method_51_code, prog_13_method_1_code, prog_13_method_2_code, prog_13_method_3_code, prog_13_method_4_code, prog_13_method_5_code, prog_13_method_6_code, prog_13_method_7_code, prog_13_method_8_code, prog_13_method_9_code, prog_13_method_10_code, prog_13_method_11_code, prog_13_method_12_code, prog_13_method_13_code, prog_13_method_14_code, prog_13_method_15_code, prog_13_method_16_code, prog_13_method_17_code, prog_13_method_18_code, prog_13_method_19_code, prog_13_method_20_code, prog_13_method_21_code, prog_13_method_22_code, prog_13_method_23_code, prog_13_method_24_code, prog_13_method_25_code, prog_13_method_26_code, prog_13_method_27_code, prog_13_method_28_code, prog_13_method_29_code, prog_13_method_30_code, prog_13_method_31_code, prog_13_method_32_code, prog_13_method_33_code, prog_13_method_34_code, prog_13_method_35_code, prog_13_method_36_code, prog_13_method_37_code, prog_13_method_38_code, prog_13_method_39_code, prog_13_method_40_code, prog_13_method_41_code, prog_13_method_42_code, prog_13_method_43_code, prog_13_method_44_code, prog_13_method_45_code, prog_13_method_46_code, prog_13_method_47_code, prog_13_method_48_code, prog_13_method_49_code, prog_13_method_50_code, prog_13_method_51_code, prog_13_method_52_code, prog_13_method_53_code, prog_13_method_54_code, prog_13_method_55_code, prog_13_method_56_code, prog_13_method_57_code, prog_13_method_58_code, prog_13_method_59_code, prog_13_method_60_code, prog_13_method_61_code, prog_13_method_62_code, prog_13_method_63_code, prog_13_method_64_code, prog_13_method_65_code, prog_13_method_66_code, prog_13_method_67_code, prog_13_method_68_code, prog_13_method_69_code, prog_13_method_70_code, prog_13_method_71_code, prog_13_method_72_code, prog_13_method_73_code, prog_13_method_74_code, prog_13_method_75_code, prog_13_method_76_code, prog_13_method_77_code, prog_13_method_78_code, prog_13_method_79_code, prog_13_method_80_code, prog_13_method_81_code, prog_13_method_82_code, prog_13_method_83_code, prog_13_method_84_code, prog_13_method_85_code, prog_13_method_86_code, prog_13_method_87_code, prog_13_method_88_code, prog_13_method_89_code, prog_13_method_90_code, prog_13_method_91_code, prog_13_method_92_code, prog_13_method_93_code, prog_13_method_94_code, prog_13_method_95_code, prog_13_method_96_code, prog_13_method_97_code, prog_13_method_98_code, prog_13_method_99_code, prog_13_method_100_code, prog_13_method_101_code, prog_13_method_102_code, prog_13_method_103_code, prog_13_method_104_code, prog_13_method_105_code, prog_13_method_106_code, prog_13_method_107_code, prog_13_method_108_code, prog_13_method_109_code, prog_13_method_110_code, prog_13_method_111_code, prog_13_method_112_code, prog_13_method_113_code, prog_13_method_114_code, prog_13_method_115_code, prog_13_method_116_code, prog_13_method_117_code, prog_13_method_118_code, prog_13_method_119_code, prog_13_method_120_code, prog_13_method_121_code, prog_13_method_122_code, prog_13_method_123_code, prog_13_method_124_code, prog_13_method_125_code, prog_13_method_126_code, prog_13_method_127_code, prog_13_method_128_code, prog_13_method_129_code, prog_13_method_130_code, prog_13_method_131_code, prog_13_method_132_code, prog_13_method_133_code, prog_13_method_134_code, prog_13_method_135_code, prog_13_method_136_code, prog_13_method_137_code, prog_13_method_138_code, prog_13_method_139_code, prog_13_method_140_code, prog_13_method_141_code, prog_13_method_142_code, prog_13_method_143_code, prog_13_method_144_code, prog_13_method_145_code, prog_13_method_146_code, prog_13_method_147_code, prog_13_method_148_code, prog_13_method_149_code, prog_13_method_150_code, prog_13_method_151_code, prog_13_method_152_code, prog_13_method_153_code, prog_13_method_154_code, prog_2_method_1_code, prog_2_method_2_code, prog_2_method_3_code, prog_3_method_1_code, prog_3_method_2_code, prog_3_method_3_code, prog_3_method_4_code, prog_3_method_5_code, prog_3_method_6_code, prog_3_method_7_code, prog_3_method_8_code, prog_3_method_9_code, prog_3_method_10_code, prog_3_method_11_code, prog_3_method_12_code, prog_3_method_13_code, prog_3_method_14_code, prog_3_method_15_code, prog_3_method_16_code, prog_3_method_17_code, prog_4_method_1_code, prog_4_method_2_code, prog_4_method_3_code, prog_4_method_4_code, prog_4_method_5_code, prog_4_method_6_code, prog_4_method_7_code, prog_4_method_8_code, prog_4_method_9_code, prog_4_method_10_code, prog_4_method_11_code, prog_4_method_12_code, prog_4_method_13_code, prog_4_method_14_code, prog_4_method_15_code, prog_4_method_16_code, prog_4_method_17_code, prog_4_method_18_code, prog_4_method_19_code, prog_4_method_20_code, prog_4_method_21_code, prog_5_method_1_code, prog_5_method_2_code, prog_5_method_3_code, prog_5_method_4_code, prog_5_method_5_code, prog_6_method_1_code, prog_6_method_2_code, prog_6_method_3_code, prog_6_method_4_code, prog_6_method_5_code, prog_6_method_6_code, prog_6_method_7_code, prog_6_method_8_code, prog_6_method_9_code, prog_6_method_10_code, prog_6_method_11_code, prog_6_method_12_code, prog_6_method_13_code, prog_7_method_1_code, prog_7_method_2_code, prog_7_method_3_code, prog_7_method_4_code, prog_7_method_5_code, prog_7_method_6_code, prog_7_method_7_code, prog_7_method_8_code, prog_7_method_9_code, prog_7_method_10_code, prog_7_method_11_code, prog_7_method_12_code, prog_7_method_13_code, prog_7_method_14_code, prog_7_method_15_code, prog_7_method_16_code, prog_7_method_17_code, prog_7_method_18_code, prog_7_method_19_code, prog_7_method_20_code, prog_7_method_21_code, prog_7_method_22_code, prog_7_method_23_code, prog_8_method_1_code, prog_8_method_2_code, prog_8_method_3_code, prog_8_method_4_code, prog_8_method_5_code, prog_8_method_6_code, prog_8_method_7_code, prog_8_method_8_code, prog_8_method_9_code, prog_8_method_10_code, prog_8_method_11_code, prog_8_method_12_code, prog_8_method_13_code, prog_8_method_14_code, prog_9_method_1_code, prog_9_method_2_code, prog_9_method_3_code, prog_9_method_4_code, prog_9_method_5_code, prog_9_method_6_code, prog_9_method_7_code, prog_10_method_4_code, prog_10_method_5_code, prog_10_method_6_code, prog_11_method_1_code, prog_11_method_2_code, prog_11_method_3_code, prog_11_method_4_code, prog_11_method_5_code, prog_11_method_6_code, prog_11_method_7_code, prog_11_method_8_code, prog_11_method_9_code, prog_11_method_10_code, prog_11_method_11_code, prog_11_method_12_code, prog_11_method_13_code, prog_11_method_14_code, prog_11_method_15_code, prog_11_method_16_code, prog_11_method_17_code, prog_11_method_18_code, prog_11_method_19_code, prog_11_method_20_code, prog_11_method_21_code]
def rtL : List (Option FieldType) := [some (FieldType.int), some (FieldType.int), some (FieldType.long), some (FieldType.long), some (FieldType.int), some (FieldType.int), some (FieldType.int), some (FieldType.int), some (FieldType.int), some (FieldType.byte), some (FieldType.char), some (FieldType.boolean), none, some (FieldType.char), some (FieldType.int), none, some (FieldType.int), some (FieldType.int), some (FieldType.boolean), some (FieldType.int), none, some (FieldType.int), some (FieldType.int), some (FieldType.int), some (FieldType.boolean), some (FieldType.int), some (FieldType.int), some (FieldType.int), some (FieldType.int), some (FieldType.int), some (FieldType.int), some (FieldType.int), some (FieldType.int), some (FieldType.int), some (FieldType.int), some (FieldType.boolean), some (FieldType.boolean), some (FieldType.int), some (FieldType.int), some (FieldType.int), some (FieldType.int), some (FieldType.int), some (FieldType.int), some (FieldType.int), some (FieldType.int), some (FieldType.long), some (FieldType.int), some (FieldType.int), some (FieldType.int), some (FieldType.int), some (FieldType.int), some (FieldType.int), some (FieldType.int), some (FieldType.int), some (FieldType.int), some (FieldType.int), some (FieldType.int), some (FieldType.int), some (FieldType.int), some (FieldType.int), some (FieldType.int), some (FieldType.int), some (FieldType.int), some (FieldType.int), some (FieldType.int), some (FieldType.int), none, none, some (FieldType.boolean), some (FieldType.int), some (FieldType.boolean), some (FieldType.int), some (FieldType.boolean), some (FieldType.boolean), some (FieldType.int), none, some (FieldType.int), none, some (FieldType.boolean), some (FieldType.int), none, some (FieldType.int), some (FieldType.boolean), none, some (FieldType.int), some (FieldType.int), some (FieldType.int), some (FieldType.boolean), some (FieldType.boolean), some (FieldType.boolean), none, some (FieldType.long), some (FieldType.long), some (FieldType.long), some (FieldType.long), some (FieldType.long), some (FieldType.boolean), none, some (FieldType.boolean), some (FieldType.int), some (FieldType.boolean), some (FieldType.int), none, some (FieldType.boolean), some (FieldType.boolean), some (FieldType.boolean), some (FieldType.int), some (FieldType.int), some (FieldType.int), some (FieldType.int), some (FieldType.int), some (FieldType.int), some (FieldType.int), some (FieldType.int), some (FieldType.int), some (FieldType.int), some (FieldType.int), some (FieldType.int), some (FieldType.int), some (FieldType.int), some (FieldType.int), some (FieldType.int), some (FieldType.int), some (FieldType.int), some (FieldType.boolean), some (FieldType.long), some (FieldType.long), some (FieldType.boolean), some (FieldType.long), some (FieldType.long), some (FieldType.boolean), none, some (FieldType.int), some (FieldType.int), none, some (FieldType.boolean), some (FieldType.int), some (FieldType.int), some (FieldType.int), none, some (FieldType.int), some (FieldType.int), some (FieldType.int), none, some (FieldType.int), none, none, none, none, none, some (FieldType.int), some (FieldType.boolean), none, some (FieldType.int), none, some (FieldType.int), some (FieldType.boolean), some (FieldType.int), some (FieldType.boolean), some (FieldType.int), none, some (FieldType.int), some (FieldType.int), some (FieldType.int), some (FieldType.int), some (FieldType.int), some (FieldType.int), some (FieldType.int), some (FieldType.int), some (FieldType.int), some (FieldType.int), some (FieldType.int), some (FieldType.int), some (FieldType.int), none, none, some (FieldType.boolean), some (FieldType.int), some (FieldType.int), some (FieldType.int), some (FieldType.int), some (FieldType.int), some (FieldType.boolean), some (FieldType.int), some (FieldType.int), some (FieldType.int), some (FieldType.int), some (FieldType.long), some (FieldType.long), some (FieldType.long), some (FieldType.int), some (FieldType.int), some (FieldType.int), some (FieldType.boolean), some (FieldType.int), some (FieldType.int), none, some (FieldType.int), some (FieldType.int), some (FieldType.int), some (FieldType.int), some (FieldType.boolean), some (FieldType.int), some (FieldType.int), some (FieldType.int), some (FieldType.int), some (FieldType.boolean), some (FieldType.int), some (FieldType.int), some (FieldType.int), some (FieldType.boolean), some (FieldType.boolean), some (FieldType.int), some (FieldType.int), some (FieldType.int), none, some (FieldType.int), some (FieldType.int), some (FieldType.int), some (FieldType.int), none, none, some (FieldType.int), none, some (FieldType.boolean), some (FieldType.int), none, some (FieldType.int), some (FieldType.int), some (FieldType.int), some (FieldType.boolean), none, some (FieldType.int), some (FieldType.boolean), none, none, none, none, some (FieldType.int), some (FieldType.boolean), none, none, none, some (FieldType.int), some (FieldType.int), some (FieldType.int), some (FieldType.int), some (FieldType.int), some (FieldType.boolean), some (FieldType.boolean), some (FieldType.int), some (FieldType.int), none, some (FieldType.int), none, none, none, none, some (FieldType.int), some (FieldType.boolean), some (FieldType.int), none, none, none, none, some (FieldType.int), none, some (FieldType.boolean), some (FieldType.int), some (FieldType.int), some (FieldType.int), some (FieldType.int), some ((FieldType.object "OwedToWinds$Text")), some (FieldType.int), some (FieldType.int), some (FieldType.int), some (FieldType.int), some (FieldType.long), some (FieldType.int), none, some (FieldType.boolean), none, none, none, none, some (FieldType.int), none, some ((FieldType.object "OwedToWinds$Word")), none, some (FieldType.boolean), none, none, none, none, none, none, none, none, some (FieldType.boolean), some (FieldType.boolean), some ((FieldType.object "OwedToWinds$Word")), some (FieldType.boolean), none, none, some (FieldType.int), some (FieldType.boolean), some (FieldType.int), some (FieldType.int), some (FieldType.boolean), some (FieldType.int), none, some (FieldType.int), some (FieldType.int), some (FieldType.boolean), some (FieldType.int), some (FieldType.int), none, none, some (FieldType.boolean), none, none, none, none, some (FieldType.boolean), some (FieldType.boolean), some (FieldType.boolean), none, none, none, some (FieldType.boolean), some (FieldType.boolean), some (FieldType.int), some (FieldType.int), some (FieldType.boolean), some (FieldType.boolean), some (FieldType.int), some (FieldType.int), none, some (FieldType.int), none, some (FieldType.boolean), some (FieldType.int), none, some (FieldType.boolean), some (FieldType.int), none, some (FieldType.int)]
/-! THE PURE MACHINE AND THE MACHINE: what a store says of a heap; what a method's activation is. -/
def adr (B0 : Nat) (adc : Nat → Nat) (a : Nat) : Nat := if a < 90000 then B0 + a else adc a
def rr (ad : Nat → Nat) (a : Nat) : Option Nat := if a = NUL then none else some (ad a)
def vmp (ad : Nat → Nat) (sv : Value) (v : Value) : Value := match v with
  | .ref a => va_rf (rr ad a)
  | .retAddr _ => sv
  | v => v
def entF (ad : Nat → Nat) (cx : Bool) (σ : Sg) (a k kd : Nat) : Value := match kd with
  | 1 => .long (gL σ a k)
  | 2 => va_rf (rr ad (rfx cx σ a k))
  | _ => .int (gI σ a k)
def entL (ad : Nat → Nat) (cx : Bool) (σ : Sg) (a : Nat) : Nat → List Nat → List Value
  | _, [] => []
  | k, kd :: ks => entF ad cx σ a k kd :: entL ad cx σ a (k + 1) ks
def ent (ad : Nat → Nat) (tA : Nat → ClassId) (cx : Bool) (σ : Sg) (a : Nat) : va_E := match shp a with
  | (1, ci) => .inr (ci, entL ad cx σ a 0 (flk ci))
  | (2, n) => .inl (tA 0, n, .inl (gI σ a))
  | (3, n) => .inl (tA 1, n, .inl (gI σ a))
  | (4, n) => .inl (tA 2, n, .inr (.inl (gL σ a)))
  | (5, n) => .inl (tA 3, n, .inr (.inr (.inr (.inr (fun j => rr ad (rfx cx σ a j))))))
  | (6, n) => .inl (tA 4, n, .inr (.inr (.inr (.inr (fun j => rr ad (rfx cx σ a j))))))
  | (7, n) => .inl (tA 5, n, .inr (.inr (.inr (.inr (fun j => rr ad (rfx cx σ a j))))))
  | _ => .inl (tA 0, 0, .inl (fun _ => 0))
def wsO (ad : Nat → Nat) (tA : Nat → ClassId) (cx : Bool) (σ : Sg) : va_W := (List.range (nxx cx σ)).map (fun a => (ad a, ent ad tA cx σ a))
def tyl (tA : Nat → ClassId) : List (ClassId × FieldType) := [(tA 0, .int), (tA 1, .boolean), (tA 2, .long), (tA 3, .object "OwedToWinds$Text"), (tA 4, .object "OwedToWinds$Word"), (tA 5, .array .int)]
theorem wsO_at {ad : Nat → Nat} {tA : Nat → ClassId} {cx : Bool} {σ : Sg} {a : Nat} (h : a < nxx cx σ) : (wsO ad tA cx σ)[a]? = some (ad a, ent ad tA cx σ a) := by
  simp [wsO, List.getElem?_map, List.getElem?_range h]
theorem wsO_len {ad : Nat → Nat} {tA : Nat → ClassId} {cx : Bool} {σ : Sg} : (wsO ad tA cx σ).length = nxx cx σ := by simp [wsO]
theorem wsO_set {ad : Nat → Nat} {tA : Nat → ClassId} {cx : Bool} {σ σ' : Sg} {a : Nat} {e : va_E} (hn : nxx cx σ' = nxx cx σ) (he : ent ad tA cx σ' a = e) (ho : ∀ b, b ≠ a → ent ad tA cx σ' b = ent ad tA cx σ b) : (wsO ad tA cx σ).set a (ad a, e) = wsO ad tA cx σ' := by
  apply List.ext_getElem?
  intro i
  by_cases hi : i < nxx cx σ
  · rw [wsO_at (σ := σ') (by rw [hn]; exact hi), List.getElem?_set]
    by_cases hia : a = i
    · subst hia
      rw [if_pos rfl, if_pos (by rw [wsO_len]; exact hi), he]
    · rw [if_neg hia, wsO_at hi, ho i (fun q => hia q.symm)]
  · rw [List.getElem?_eq_none (by rw [List.length_set, wsO_len]; omega), List.getElem?_eq_none (by rw [wsO_len, hn]; omega)]
theorem wsO_D {B0 : Nat} {adc : Nat → Nat} {tA : Nat → ClassId} {cx : Bool} {σ : Sg} (h : nxx cx σ ≤ NOB) : va_D (fun q => B0 ≤ q) (wsO (adr B0 adc) tA cx σ) := by
  have hN : NOB = 137 := rfl
  have key : ∀ (i : Nat) (q : Nat × va_E), (wsO (adr B0 adc) tA cx σ)[i]? = some q → q.1 = B0 + i := by
    intro i q hq
    have hi : i < nxx cx σ := by
      have := (List.getElem?_eq_some_iff.mp hq).1
      rwa [wsO_len] at this
    rw [wsO_at hi] at hq
    cases hq
    show adr B0 adc i = B0 + i
    unfold adr
    rw [if_pos (by omega)]
  refine ⟨fun i j p q hi hj e => ?_, fun k q hk => ?_⟩
  · have h1 := key i p hi
    have h2 := key j q hj
    omega
  · show B0 ≤ q.1
    have := key k q hk
    omega
def sz (a : Nat) : Nat := match shp a with
  | (1, ci) => (flk ci).length
  | (_, n) => n
def szs : Nat → Nat
  | 0 => 0
  | n + 1 => szs n + sz n
theorem szs_le {a b : Nat} (h : a ≤ b) : szs a ≤ szs b := by
  induction h with
  | refl => exact Nat.le_refl _
  | step _ ih => exact Nat.le_trans ih (Nat.le_add_right _ _)
def ascV (ad : Nat → Nat) (sv : Value) (i : Nat) (v : Value) : Option (Nat × Value) := match v with
  | .retAddr _ => none
  | v => some (i, vmp ad sv v)
/-- what a local slot list holds -/
def asc (ad : Nat → Nat) (sv : Value) (ls : List Value) : List (Nat × Value) := (List.range ls.length).filterMap (fun i => (ls[i]?).bind (ascV ad sv i))
theorem mem_asc {ad : Nat → Nat} {sv : Value} {ls : List Value} {q : Nat × Value} : q ∈ asc ad sv ls ↔ ∃ v, ls[q.1]? = some v ∧ (∀ k, v ≠ .retAddr k) ∧ q.2 = vmp ad sv v := by
  unfold asc
  rw [List.mem_filterMap]
  constructor
  · rintro ⟨i, -, hi⟩
    cases hv : ls[i]? with
    | none => rw [hv] at hi; cases hi
    | some v =>
      rw [hv] at hi
      have hi : ascV ad sv i v = some q := hi
      cases v <;> (try (cases hi; done)) <;> (cases hi; exact ⟨_, hv, fun k e => (by cases e), rfl⟩)
  · rintro ⟨v, hv, hne, hq⟩
    have hl := (List.getElem?_eq_some_iff.mp hv).1
    refine ⟨q.1, List.mem_range.mpr hl, ?_⟩
    rw [hv]
    obtain ⟨a, b⟩ := q
    simp only at hq
    subst hq
    show ascV ad sv a v = _
    cases v with
    | retAddr k => exact absurd rfl (hne k)
    | _ => rfl
def lvr (nL : Nat) (ad : Nat → Nat) (sv : Value) (lsM : Array Slot) (ls : List Value) : Prop := ls.length = nL ∧ lv_has lsM nL (asc ad sv ls)
theorem lvr_at {nL : Nat} {ad : Nat → Nat} {sv : Value} {lsM : Array Slot} {ls : List Value} (h : lvr nL ad sv lsM ls) {i : Nat} {v : Value} (hv : ls[i]? = some v) (hne : ∀ k, v ≠ .retAddr k) : lsM[i]? = some (.val (vmp ad sv v)) :=
  h.2.2.2 (i, vmp ad sv v) (mem_asc.mpr ⟨v, hv, hne, rfl⟩)
theorem cat_vmp {ad : Nat → Nat} {sv : Value} (hsv : sv.category = 1) (v : Value) : (vmp ad sv v).category = 2 ↔ (∃ x, v = .long x) ∨ ∃ x, v = .double x := by
  have hr : ∀ r, (va_rf r).category = 1 := fun r => by cases r <;> rfl
  cases v with
  | ref a =>
    refine ⟨fun h => ?_, fun h => by rcases h with ⟨x, h⟩ | ⟨x, h⟩ <;> cases h⟩
    have h : (va_rf (rr ad a)).category = 2 := h
    rw [hr] at h; cases h
  | retAddr k =>
    refine ⟨fun h => ?_, fun h => by rcases h with ⟨x, h⟩ | ⟨x, h⟩ <;> cases h⟩
    have h : sv.category = 2 := h
    rw [hsv] at h; cases h
  | long x => exact ⟨fun _ => Or.inl ⟨x, rfl⟩, fun _ => rfl⟩
  | double x => exact ⟨fun _ => Or.inr ⟨x, rfl⟩, fun _ => rfl⟩
  | _ => exact ⟨fun h => (by cases h), fun h => by rcases h with ⟨x, h⟩ | ⟨x, h⟩ <;> cases h⟩
theorem kil_len (ls : List Value) (i : Nat) : (kil ls i).length = ls.length := by
  unfold kil
  split
  · rfl
  · split <;> simp
theorem kil_get {ls : List Value} {i j : Nat} {w : Value} (h : (kil ls i)[j]? = some w) (hw : ∀ k, w ≠ .retAddr k) : ls[j]? = some w ∧ ((j + 1 = i) → ¬ ((∃ x, w = .long x) ∨ ∃ x, w = .double x)) := by
  unfold kil at h
  split at h
  · exact ⟨h, fun q => by omega⟩
  · rename_i i'
    split at h
    · rw [List.getElem?_set] at h
      by_cases e : i' = j
      · rw [if_pos e] at h
        by_cases hl : i' < ls.length
        · rw [if_pos hl] at h; cases h; exact absurd rfl (hw 0)
        · rw [if_neg hl] at h; cases h
      · rw [if_neg e] at h
        exact ⟨h, fun q => by omega⟩
    · rw [List.getElem?_set] at h
      by_cases e : i' = j
      · rw [if_pos e] at h
        by_cases hl : i' < ls.length
        · rw [if_pos hl] at h; cases h; exact absurd rfl (hw 0)
        · rw [if_neg hl] at h; cases h
      · rw [if_neg e] at h
        exact ⟨h, fun q => by omega⟩
    · rename_i h1 h2
      refine ⟨h, fun q => ?_⟩
      have e : i' = j := by omega
      subst e
      rintro (⟨x, rfl⟩ | ⟨x, rfl⟩)
      · exact h1 x h
      · exact h2 x h
theorem lvr_st1 {nL : Nat} {ad : Nat → Nat} {sv : Value} {lsM' : Array Slot} {ls : List Value} {i : Nat} {v : Value} (hsv : sv.category = 1) (hl : ls.length = nL)
    (h : lv_has lsM' nL ((i, vmp ad sv v) :: (asc ad sv ls).filter (fun q => !(q.1 == i) && !(q.1 + 1 == i && q.2.category == 2)))) : lvr nL ad sv lsM' ((kil ls i).set i v) := by
  refine ⟨by rw [List.length_set, kil_len]; exact hl, h.1, h.2.1, fun q hq => ?_⟩
  obtain ⟨w, h1, h2, h3⟩ := mem_asc.mp hq
  refine h.2.2 q ?_
  rw [List.getElem?_set] at h1
  by_cases e : i = q.1
  · rw [if_pos e] at h1
    by_cases hl : i < (kil ls i).length
    · rw [if_pos hl] at h1
      cases h1
      obtain ⟨a, b⟩ := q
      simp only at e h3
      subst e; subst h3
      exact List.mem_cons_self
    · rw [if_neg hl] at h1; cases h1
  · rw [if_neg e] at h1
    obtain ⟨g1, g2⟩ := kil_get h1 h2
    refine List.mem_cons_of_mem _ (List.mem_filter.mpr ⟨mem_asc.mpr ⟨w, g1, h2, h3⟩, ?_⟩)
    have e1 : (q.1 == i) = false := by simp; exact fun q' => e q'.symm
    rw [e1]
    by_cases e2 : q.1 + 1 = i
    · have h4 := g2 e2
      have h5 : ¬ q.2.category = 2 := by rw [h3, cat_vmp hsv]; exact h4
      simp [h5]
    · simp [e2]
theorem lvr_st2 {nL : Nat} {ad : Nat → Nat} {sv : Value} {lsM' : Array Slot} {ls : List Value} {i : Nat} {v : Value} (hsv : sv.category = 1) (hl : ls.length = nL)
    (h : lv_has lsM' nL ((i, vmp ad sv v) :: (asc ad sv ls).filter (fun q => !(q.1 == i) && (!(q.1 == i + 1) && !(q.1 + 1 == i && q.2.category == 2))))) : lvr nL ad sv lsM' (((kil ls i).set i v).set (i + 1) (.retAddr 0)) := by
  refine ⟨by rw [List.length_set, List.length_set, kil_len]; exact hl, h.1, h.2.1, fun q hq => ?_⟩
  obtain ⟨w, h1, h2, h3⟩ := mem_asc.mp hq
  refine h.2.2 q ?_
  rw [List.getElem?_set] at h1
  by_cases e0 : i + 1 = q.1
  · rw [if_pos e0] at h1
    by_cases hl : i + 1 < ((kil ls i).set i v).length
    · rw [if_pos hl] at h1; cases h1; exact absurd rfl (h2 0)
    · rw [if_neg hl] at h1; cases h1
  rw [if_neg e0] at h1
  rw [List.getElem?_set] at h1
  by_cases e : i = q.1
  · rw [if_pos e] at h1
    by_cases hl : i < (kil ls i).length
    · rw [if_pos hl] at h1
      cases h1
      obtain ⟨a, b⟩ := q
      simp only at e h3
      subst e; subst h3
      exact List.mem_cons_self
    · rw [if_neg hl] at h1; cases h1
  · rw [if_neg e] at h1
    obtain ⟨g1, g2⟩ := kil_get h1 h2
    refine List.mem_cons_of_mem _ (List.mem_filter.mpr ⟨mem_asc.mpr ⟨w, g1, h2, h3⟩, ?_⟩)
    have e1 : (q.1 == i) = false := by simp; exact fun q' => e q'.symm
    have e3 : (q.1 == i + 1) = false := by simp; exact fun q' => e0 q'.symm
    rw [e1, e3]
    by_cases e2 : q.1 + 1 = i
    · have h4 := g2 e2
      have h5 : ¬ q.2.category = 2 := by rw [h3, cat_vmp hsv]; exact h4
      simp [h5]
    · simp [e2]
theorem lvr_inc {nL : Nat} {ad : Nat → Nat} {sv : Value} {lsM' : Array Slot} {ls : List Value} {i : Nat} {v : Value} {x : Int32} (hsv : sv.category = 1) (hl : ls.length = nL) (hx : ls[i]? = some (.int x)) (hwf : ∀ j, j + 1 = i → ¬ ((∃ x, ls[j]? = some (.long x)) ∨ ∃ x, ls[j]? = some (.double x)))
    (h : lv_has lsM' nL ((i, vmp ad sv v) :: (asc ad sv ls).filter (fun q => !(q.1 == i) && !(q.1 + 1 == i && q.2.category == 2)))) : lvr nL ad sv lsM' (ls.set i v) := by
  have hk : kil ls i = ls := by
    unfold kil
    split
    · rfl
    · rename_i j
      split
      · rename_i x' h'; exact absurd (Or.inl ⟨x', h'⟩) (hwf j rfl)
      · rename_i x' h'; exact absurd (Or.inr ⟨x', h'⟩) (hwf j rfl)
      · rfl
  have := lvr_st1 hsv hl h
  rwa [hk] at this
/-- the constants: objects that stood there before, and are never written -/
def wordNm : List String := ["COMES", "BLOWS", "TAKES", "CATCH", "DUES", "WIND", "VILLAGE", "WAY", "PAY", "MERGE", "DAY", "QUARTER", "OWED", "DUE", "WEIGHT", "FORCE", "ROOF", "PURSE", "OF", "TO", "OR", "AND", "NOT", "LESS", "AT_MOST", "MORE", "AT_LEAST", "EQUAL", "UNLIKE", "PLUS", "MINUS", "TIMES", "BY", "DEBT", "ROUND", "NEGATIVE", "LEFT", "RIGHT", "SEMICOLON", "NUMBER", "END", "STRANGE"]
def wordFl : List (String × String × String × List Int32) := [("OwedToWinds$Word", "clause", "I", (List.range 42).map (fun i => wfI 0 (90000 + i))), ("OwedToWinds$Word", "code", "I", (List.range 42).map (fun i => wfI 1 (90000 + i))), ("OwedToWinds$Word", "level", "I", (List.range 42).map (fun i => wfI 2 (90000 + i)))]
def textLen : List Nat := textT.map (fun q => q.2.2.length)
def textByt : List (List Int32) := textT.map (fun q => q.2.2)
def EnvOK (B0 : Nat) (ad : Nat → Nat) (sv : Value) (U : State) (H : Heap) : Prop :=
  va_En "OwedToWinds$Word" "LOwedToWinds$Word;" wordNm wordFl (fun i => ad (90000 + i)) (fun q => B0 ≤ q) U H ∧
  va_Ef 42 "OwedToWinds$Word" "spelling" "Ljava/lang/String;" (fun i => .ref (ad (wfS (90000 + i)))) (fun i => ad (90000 + i)) (fun q => B0 ≤ q) U H ∧
  va_Z "OwedToWinds$Word" "ALL" "[LOwedToWinds$Word;" (.ref (ad 94000)) (fun q => B0 ≤ q) U H ∧
  va_T (.object "OwedToWinds$Word") (ad 94000) 42 (fun j => .ref (ad (90000 + j))) (fun q => B0 ≤ q) U H ∧
  vk_S 39 textLen textByt (fun i => ad (91000 + i)) (fun i => ad (92000 + i)) (fun q => B0 ≤ q) U H ∧
  va_Z "java/lang/String" "COMPACT_STRINGS" "Z" (.int 1) (fun q => B0 ≤ q) U H ∧
  va_Z "jdk/internal/util/Preconditions" "SIOOBE_FORMATTER" "Ljava/util/function/BiFunction;" sv (fun q => B0 ≤ q) U H ∧
  va_Z "OwedToWinds$Fraction" "ORDERS" "[I" (.ref (ad 94001)) (fun q => B0 ≤ q) U H ∧
  va_T .int (ad 94001) 7 (fun j => .int (ordL.getD j 0)) (fun q => B0 ≤ q) U H
theorem EnvOK.moved {B0 : Nat} {ad : Nat → Nat} {sv : Value} {u U : State} {H : Heap} (hvm : u.vm.Alike U.vm) (h : EnvOK B0 ad sv u H) : EnvOK B0 ad sv U H := by
  obtain ⟨h1, h2, h3, h4, h5, h6, h7, h8, h9⟩ := h
  exact ⟨h1.moved hvm, h2.moved hvm, h3.moved hvm, h4.moved hvm, h5.moved hvm, h6.moved hvm, h7.moved hvm, h8.moved hvm, h9.moved hvm⟩
theorem EnvOK.kept {B0 : Nat} {ad : Nat → Nat} {sv : Value} {U : State} {H H1 : Heap} (h : EnvOK B0 ad sv U H) (hq : ∀ a : Nat, a < H.size → ¬ B0 ≤ a → H1[a]? = H[a]?) : EnvOK B0 ad sv U H1 := by
  obtain ⟨h1, h2, h3, h4, h5, h6, h7, h8, h9⟩ := h
  exact ⟨h1.kept hq, fun i hi => (h2 i hi).kept hq, h3.kept hq, h4.kept hq, h5.kept hq, h6.kept hq, h7.kept hq, h8.kept hq, h9.kept hq⟩
/-- the links between nest mates -/
def nestL : List Cond := [.methodLinkNest "OwedToWinds" 44 ⟨"OwedToWinds$Fraction", "<init>", "()V"⟩ "OwedToWinds", .methodLinkNest "OwedToWinds" 51 ⟨"OwedToWinds$Coins", "<init>", "()V"⟩ "OwedToWinds", .methodLinkNest "OwedToWinds" 56 ⟨"OwedToWinds$Text", "<init>", "()V"⟩ "OwedToWinds", .fieldLinkNest "OwedToWinds$Reader" 228 "OwedToWinds$Word" "ALL" "[LOwedToWinds$Word;" "OwedToWinds", .methodLinkNest "OwedToWinds$Foresight" 50 ⟨"OwedToWinds$World", "copyRow", "([I[I)V"⟩ "OwedToWinds"]
/-- arrays of references that are made: their classes stand; the links between nest mates -/
def AOs (U : State) : Prop := va_AO "OwedToWinds$Text" U ∧ va_AO "OwedToWinds$Word" U ∧ (Cond.arrayOver (.array .int)).before #[] U = true ∧ ∀ w ∈ nestL, va_Nw w U
theorem aoA_moved {u U : State} (hvm : u.vm.Alike U.vm) (h : (Cond.arrayOver (.array .int)).before #[] u = true) : (Cond.arrayOver (.array .int)).before #[] U = true := by
  have h1 : (Cond.arrayOver (.array .int)).before #[] (u.setVm U.vm) = true := by rw [Cond.arrayOver_setVmC hvm]; exact h
  simp only [Cond.before, Cond.holds, Cond.value] at h1 ⊢
  exact h1
theorem AOs.warm {s U : State} (hW : s.WarmedH U.vm) (h : AOs s) : AOs U := by
  refine ⟨h.1.moved hW.alike, h.2.1.moved hW.alike, aoA_moved hW.alike h.2.2.1, fun w hw => ?_⟩
  have h4 := h.2.2.2 w hw
  simp only [nestL, List.mem_cons, List.not_mem_nil, or_false] at hw
  rcases hw with rfl | rfl | rfl | rfl | rfl <;> first | exact va_Nw.warmM hW h4 | exact va_Nw.warmF hW h4
theorem AOs.same {u U : State} (hv : u.vm = U.vm) (h : AOs u) : AOs U := by
  have hal : u.vm.Alike U.vm := by rw [hv]; exact Vm.Alike.refl _
  refine ⟨h.1.moved hal, h.2.1.moved hal, aoA_moved hal h.2.2.1, fun w hw => ?_⟩
  have h4 := h.2.2.2 w hw
  simp only [nestL, List.mem_cons, List.not_mem_nil, or_false] at hw
  rcases hw with rfl | rfl | rfl | rfl | rfl <;> exact h4.same rfl hv
abbrev Af (B0 : Nat) : Nat → Prop := fun q => B0 ≤ q
/-- the tables of the methods -/
def nmT (y : Nat) : MethodName := nmL.getD y ⟨"", "", ""⟩
def ccT (y : Nat) : ByteArray := ccL.getD y ⟨#[]⟩
def rtT (y : Nat) : Option FieldType := rtL.getD y none
def wsT (y : Nat) : List Cond := .code (nmT y) (ccT y) (mxl y) (rtT y) :: gtb
/-- the world that a store tells of -/
def Wld (cx : Bool) (B0 : Nat) (adc : Nat → Nat) (tA : Nat → ClassId) (D : va_G) (xs : Nat → Int32) (L0 : Nat) (σ : Sg) (H : Heap) : Prop :=
  (cx = false → H.size = B0 + nx σ) ∧ va_P D cls (wsO (adr B0 adc) tA cx σ) H ∧ ((∀ k, gI σ SCR k = xs k) ∧ ln σ = L0) ∧ nxx cx σ ≤ NOB
def Inv (cx : Bool) (B0 : Nat) (adc : Nat → Nat) (tA : Nat → ClassId) (D : va_G) (sv : Value) (xs : Nat → Int32) (L0 : Nat) (σ : Sg) (U : State) : Prop :=
  va_K D cls (tyl tA) U ∧ EnvOK B0 (adr B0 adc) sv U U.heap ∧ va_X (adc SCR) L0 xs U U.heap ∧ adc SCR < B0 ∧ AOs U ∧ Wld cx B0 adc tA D xs L0 σ U.heap
def Qm (cx : Bool) (B0 : Nat) (adc : Nat → Nat) (tA : Nat → ClassId) (D : va_G) (sv : Value) (xs : Nat → Int32) (L0 n1 : Nat) (Ψ : Po) : Array Value → State → Outcome → State → Prop := fun _ st o t =>
  (∃ v σ', Ψ v σ' ∧ o = .returned (v.map (vmp (adr B0 adc) sv)) ∧ nxx cx σ' = n1 ∧ Wld cx B0 adc tA D xs L0 σ' t.heap) ∧ va_F (Af B0) st t
/-- what a method y promises, d deep -/
def CallOK (cx : Bool) (l : Launch) (call : Cl) (d : Nat) : Prop := ∀ (y : Nat) (as : List Value) (σ : Sg) (Ψ : Po), call y as σ Ψ → ∀ (B0 : Nat) (adc : Nat → Nat) (tA : Nat → ClassId) (D : va_G) (sv : Value) (xs : Nat → Int32) (L0 : Nat), sv.category = 1 →
  Met l (nmT y) (wsT y) { frames := d, cells := nal cx y, slots := szs (nxx cx σ + nal cx y) - szs (nxx cx σ), locals := 40 * d } (va_Pc (as.map (vmp (adr B0 adc) sv)) (Inv cx B0 adc tA D sv xs L0 σ))
    (Qm cx B0 adc tA D sv xs L0 (nxx cx σ + nal cx y) Ψ) (nal cx y) (szs (nxx cx σ + nal cx y) - szs (nxx cx σ)) (Af B0)
/-- an answer, and the instruction that gives it -/
def retF (i : Instr) (ret : Option FieldType) (v : Option Value) : Prop :=
  (i = .ireturn ∧ ∃ ty x, ret = some ty ∧ v = some (.int x) ∧ narrow ty (.int x) = .int x ∧ (ty = .int ∨ ty = .boolean ∨ ty = .char ∨ ty = .byte)) ∨ (i = .lreturn ∧ ∃ x, ret = some .long ∧ v = some (.long x)) ∨
  (i = .areturn ∧ ∃ ty a, ret = some ty ∧ v = some (.ref a) ∧ ((∃ n, ty = .object n) ∨ ∃ t, ty = .array t)) ∨ (i = .return_ ∧ ret = none ∧ v = none)
section ACT
variable (p : Program) (l : Launch) (e : Env) (R : Room) (s : State) (m : MethodId) (args : Array Value) (below : List Frame) (meth : Method) (cd : Code) (Q : State → Prop)
variable (cx : Bool) (n0 nL : Nat) (B0 : Nat) (adc : Nat → Nat) (tA : Nat → ClassId) (D : va_G) (sv : Value) (xs : Nat → Int32) (L0 : Nat)
/-- from this store the machine comes to Q -/
def GG (pc : Nat) (ls st : List Value) (σ : Sg) : Prop := ∀ (H : Heap) (locs : List Loc) (lsM : Array Slot), Wld cx B0 adc tA D xs L0 σ H → va_S (Af B0) s.heap H locs → lvr nL (adr B0 adc) sv lsM ls → n0 ≤ nxx cx σ →
  W p l e R s m args below meth cd H locs (nxx cx σ - n0) (szs (nxx cx σ) - szs n0) Q (F0 m pc lsM (st.map (vmp (adr B0 adc) sv)))
end ACT
/-- an activation of the method mn of the class own, with the code cc: J is what the machine does of a store -/
def Act (cx : Bool) (cap : Nat) (call : Cl) (Φ : Po) (own mn : String) (cc : ByteArray) (nL : Nat) (ret : Option FieldType) (J : Nat → Ct) : Prop :=
  ∃ (p : Program) (l : Launch) (e : Env) (R : Room) (s : State) (m : MethodId) (args : Array Value) (below : List Frame) (meth : Method) (cd : Code) (Q : State → Prop) (n0 d : Nat) (B0 : Nat) (adc : Nat → Nat) (tA : Nat → ClassId) (D : va_G) (sv : Value) (xs : Nat → Int32) (L0 : Nat),
    (p.tables.exec = Jvm.exec ∧ cd.code = cc ∧ cd.maxLocals = nL ∧ s.vm.findClass own = some m.cls ∧ (∀ w ∈ gtb, w.before args s = true) ∧ va_K D cls (tyl tA) s ∧ EnvOK B0 (adr B0 adc) sv s s.heap ∧ va_X (adc SCR) L0 xs s s.heap ∧ adc SCR < B0 ∧ B0 ≤ s.heap.size ∧ AOs s) ∧
    ((mn = "<init>" → meth.name = mn) ∧ cap - n0 ≤ R.cells ∧ szs cap - szs n0 ≤ R.slots ∧ cap ≤ NOB ∧ d + 1 ≤ R.frames ∧ 40 * d + 40 ≤ R.locals ∧ sv.category = 1 ∧ (cx = true → cap = NOB)) ∧
    CallOK cx l call d ∧
    (∀ (i : Instr) (v : Option Value) (σ : Sg) (pc : Nat) (H : Heap) (locs : List Loc) (lsM : Array Slot), Φ v σ → retF i ret v → decode cc pc = .ok (i, 1) → Wld cx B0 adc tA D xs L0 σ H → va_S (Af B0) s.heap H locs → n0 ≤ nxx cx σ →
      W p l e R s m args below meth cd H locs (nxx cx σ - n0) (szs (nxx cx σ) - szs n0) Q (F0 m pc lsM ((v.map (vmp (adr B0 adc) sv)).toList))) ∧
    J = GG p l e R s m args below meth cd Q cx n0 nL B0 adc tA D sv xs L0
def LE (c c' : Ct) : Prop := ∀ ls st σ, c ls st σ → c' ls st σ
/-! reading guards; what a store's change does to the world -/
theorem cnd {b : Bool} {P : Prop} (h : cond b P False) : b = true ∧ P := by
  cases b
  · exact h.elim
  · exact ⟨rfl, h⟩
theorem and2 {a b : Bool} (h : (a && b) = true) : a = true ∧ b = true := by simpa using h
theorem isO_eq {ci a : Nat} (h : isO ci a = true) : shp a = (1, ci) := by
  unfold isO at h
  split at h
  · rename_i cj hs
    rw [hs, Nat.eq_of_beq_eq_true h]
  · cases h
theorem shp_lt {a k n : Nat} (h : shp a = (k, n)) (h0 : k ≠ 0) (h8 : k ≠ 8) : a < NOB := by
  unfold shp at h
  cases hs : Nat.beq a SCR with
  | true => rw [hs] at h; exact absurd (congrArg Prod.fst h).symm h8
  | false =>
    rw [hs] at h
    have h : shpL.getD a (0, 0) = (k, n) := h
    apply Classical.byContradiction
    intro hl
    have hlen : shpL.length = NOB := by decide +kernel
    rw [List.getD_eq_getElem?_getD, List.getElem?_eq_none (by omega)] at h
    exact h0 (congrArg Prod.fst h).symm
theorem live {cx : Bool} {σ : Sg} {a k n : Nat} (hl : lvx cx σ a = true) (h : shp a = (k, n)) (h0 : k ≠ 0) (h8 : k ≠ 8) : a < nxx cx σ ∧ a < NOB := by
  have h1 := shp_lt h h0 h8
  refine ⟨?_, h1⟩
  cases cx with
  | true => exact h1
  | false =>
    have h2 : Nat.blt a (nx σ) = true := hl
    have h2 : Nat.ble (a + 1) (nx σ) = true := h2
    have h3 := Nat.le_of_ble_eq_true h2
    show a < nx σ
    omega
theorem entL_get (ad : Nat → Nat) (cx : Bool) (σ : Sg) (a : Nat) : ∀ (ks : List Nat) (k0 i kd : Nat), ks[i]? = some kd → (entL ad cx σ a k0 ks)[i]? = some (entF ad cx σ a (k0 + i) kd)
  | [], _, _, _, h => by simp at h
  | k :: ks, k0, 0, kd, h => by
    simp only [List.getElem?_cons_zero, Option.some.injEq] at h
    subst h
    simp [entL]
  | k :: ks, k0, i + 1, kd, h => by
    simp only [List.getElem?_cons_succ] at h
    have := entL_get ad cx σ a ks (k0 + 1) i kd h
    simp only [entL, List.getElem?_cons_succ, this]
    rw [show k0 + 1 + i = k0 + (i + 1) by omega]
theorem entL_len (ad : Nat → Nat) (cx : Bool) (σ : Sg) (a : Nat) : ∀ (ks : List Nat) (k0 : Nat), (entL ad cx σ a k0 ks).length = ks.length
  | [], _ => rfl
  | _ :: ks, k0 => by simp [entL, entL_len ad cx σ a ks (k0 + 1)]
theorem entL_set (ad : Nat → Nat) (cx : Bool) (σ σ' : Sg) (a : Nat) (v : Value) {ks : List Nat} {i kd : Nat} (h : ks[i]? = some kd) (hv : entF ad cx σ' a i kd = v) (ho : ∀ j kd', ks[j]? = some kd' → j ≠ i → entF ad cx σ' a j kd' = entF ad cx σ a j kd') :
    entL ad cx σ' a 0 ks = (entL ad cx σ a 0 ks).set i v := by
  apply List.ext_getElem?
  intro j
  rw [List.getElem?_set, entL_len]
  have hi : i < ks.length := (List.getElem?_eq_some_iff.mp h).1
  by_cases e : i = j
  · subst e
    rw [if_pos rfl, if_pos hi, entL_get _ _ _ _ _ _ _ _ h, Nat.zero_add, hv]
  · rw [if_neg e]
    cases hj : ks[j]? with
    | none =>
      have hl : ks.length ≤ j := by simpa using hj
      rw [List.getElem?_eq_none (by rw [entL_len]; exact hl), List.getElem?_eq_none (by rw [entL_len]; exact hl)]
    | some kd' =>
      rw [entL_get _ _ _ _ _ _ _ _ hj, entL_get _ _ _ _ _ _ _ _ hj, Nat.zero_add, ho j kd' hj (fun q => e q.symm)]
theorem entL_congr {ad : Nat → Nat} {cx : Bool} {σ σ' : Sg} {a : Nat} (h1 : ∀ k, gI σ' a k = gI σ a k) (h2 : ∀ k, gL σ' a k = gL σ a k) (h3 : ∀ k, rfx cx σ' a k = rfx cx σ a k) : ∀ (ks : List Nat) (k0 : Nat), entL ad cx σ' a k0 ks = entL ad cx σ a k0 ks
  | [], _ => rfl
  | kd :: ks, k0 => by
    have hF : entF ad cx σ' a k0 kd = entF ad cx σ a k0 kd := by unfold entF; rw [h1, h2, h3]
    simp only [entL, hF, entL_congr h1 h2 h3 ks (k0 + 1)]
theorem ent_congr {ad : Nat → Nat} {tA : Nat → ClassId} {cx : Bool} {σ σ' : Sg} {a : Nat} (h1 : ∀ k, gI σ' a k = gI σ a k) (h2 : ∀ k, gL σ' a k = gL σ a k) (h3 : ∀ k, rfx cx σ' a k = rfx cx σ a k) : ent ad tA cx σ' a = ent ad tA cx σ a := by
  have e1 : gI σ' a = gI σ a := funext h1
  have e2 : gL σ' a = gL σ a := funext h2
  have e3 : (fun j => rr ad (rfx cx σ' a j)) = fun j => rr ad (rfx cx σ a j) := funext fun j => by rw [h3]
  unfold ent
  split <;> simp only [e1, e2, e3, entL_congr h1 h2 h3]
theorem rfx_of {cx : Bool} {σ σ' : Sg} {a k : Nat} (h : gR σ' a k = gR σ a k) : rfx cx σ' a k = rfx cx σ a k := by unfold rfx; rw [h]
theorem rfx_wr {cx : Bool} {σ : Sg} {a k v : Nat} (h : wrR cx a k = true) : rfx cx (sR σ a k v) a k = v := by
  cases cx with
  | false => show gR (sR σ a k v) a k = v; rw [gR_sR, if_pos ⟨rfl, rfl⟩]
  | true =>
    have h : (keptR a k).isNone = true := h
    show (keptR a k).getD (gR (sR σ a k v) a k) = v
    rw [Option.isNone_iff_eq_none.mp h]
    show gR (sR σ a k v) a k = v
    rw [gR_sR, if_pos ⟨rfl, rfl⟩]
def kdOf (t : FieldType) : Nat := match t with
  | .int => 0
  | .long => 1
  | .boolean => 3
  | .object _ => 2
  | .array _ => 2
  | _ => 9
/-- the classes' own facts -/
def ClsF (ci : Nat) (C : String) (T : u_T) (N : Nat) : Prop := ∃ ty0 : Nat → FieldType, (∀ k, k < N → parseFieldDescriptor (T k).2.2.1 = some (ty0 k)) ∧ (∀ a, a < N → ∀ b, b < N → a ≠ b → (T a).2.1 ≠ (T b).2.1) ∧ (∀ w ∈ u_ws C T N, w ∈ gtb) ∧ (flk ci).length = N ∧ (∀ k, k < N → (flk ci).getD k 9 = kdOf (ty0 k)) ∧ (∀ k, k < N → (T k).1 = C) ∧ Cond.instantiable C N ∈ gtb ∧ Cond.initialized C ∈ gtb
theorem clsF_0 : ClsF 0 RX0 TX0 1 := ⟨tyX0, tyX0_ok, nmX0, inTX0, rfl, by decide +kernel, by decide +kernel, tb0 205 (by decide +kernel), tb0 7 (by decide +kernel)⟩
theorem clsF_1 : ClsF 1 RX1 TX1 5 := ⟨tyX1, tyX1_ok, nmX1, inTX1, rfl, by decide +kernel, by decide +kernel, tb1 22 (by decide +kernel), tb0 10 (by decide +kernel)⟩
theorem clsF_2 : ClsF 2 RX2 TX2 10 := ⟨tyX2, tyX2_ok, nmX2, inTX2, rfl, by decide +kernel, by decide +kernel, tb1 46 (by decide +kernel), tb0 11 (by decide +kernel)⟩
theorem clsF_3 : ClsF 3 RX3 TX3 2 := ⟨tyX3, tyX3_ok, nmX3, inTX3, rfl, by decide +kernel, by decide +kernel, tb0 190 (by decide +kernel), tb0 6 (by decide +kernel)⟩
theorem clsF_4 : ClsF 4 RX4 TX4 3 := ⟨tyX4, tyX4_ok, nmX4, inTX4, rfl, by decide +kernel, by decide +kernel, tb1 6 (by decide +kernel), tb0 9 (by decide +kernel)⟩
theorem clsF_5 : ClsF 5 RX5 TX5 15 := ⟨tyX5, tyX5_ok, nmX5, inTX5, rfl, by decide +kernel, by decide +kernel, tb0 132 (by decide +kernel), tb0 3 (by decide +kernel)⟩
theorem clsF_6 : ClsF 6 RX6 TX6 6 := ⟨tyX6, tyX6_ok, nmX6, inTX6, rfl, by decide +kernel, by decide +kernel, tb1 88 (by decide +kernel), tb0 12 (by decide +kernel)⟩
theorem clsF_7 : ClsF 7 RX7 TX7 6 := ⟨tyX7, tyX7_ok, nmX7, inTX7, rfl, by decide +kernel, by decide +kernel, tb0 215 (by decide +kernel), tb0 8 (by decide +kernel)⟩
theorem clsF_9 : ClsF 9 RX9 TX9 18 := ⟨tyX9, tyX9_ok, nmX9, inTX9, rfl, by decide +kernel, by decide +kernel, tb0 30 (by decide +kernel), tb0 2 (by decide +kernel)⟩
theorem clsF_10 : ClsF 10 RX10 TX10 12 := ⟨tyX10, tyX10_ok, nmX10, inTX10, rfl, by decide +kernel, by decide +kernel, tb0 22 (by decide +kernel), tb0 1 (by decide +kernel)⟩
theorem clsF_11 : ClsF 11 RX11 TX11 38 := ⟨tyX11, tyX11_ok, nmX11, inTX11, rfl, by decide +kernel, by decide +kernel, tb5 15 (by decide +kernel), tb0 13 (by decide +kernel)⟩
theorem clsF {ci : Nat} {C : String} {T : u_T} {N : Nat} (h : cls[ci]? = some (C, T, N)) (h8 : ci ≠ 8) : ClsF ci C T N := by
  match ci, h with
  | 0, h => cases h; exact clsF_0
  | 1, h => cases h; exact clsF_1
  | 2, h => cases h; exact clsF_2
  | 3, h => cases h; exact clsF_3
  | 4, h => cases h; exact clsF_4
  | 5, h => cases h; exact clsF_5
  | 6, h => cases h; exact clsF_6
  | 7, h => cases h; exact clsF_7
  | 8, h => exact absurd rfl h8
  | 9, h => cases h; exact clsF_9
  | 10, h => cases h; exact clsF_10
  | 11, h => cases h; exact clsF_11
  | n + 12, h => simp [cls] at h
