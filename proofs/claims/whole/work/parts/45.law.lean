theorem mw394 : Cond.methodLink "BookPairsLaw" 13 ⟨"BookPairs", "books", "(IIII)I"⟩ ∈ TB := tb1 191 (by decide +kernel) (by decide +kernel)
theorem mw395 : Cond.instanceMethod ⟨"BookPairs", "books", "(IIII)I"⟩ ∈ TB := tb1 192 (by decide +kernel) (by decide +kernel)
theorem mw396 : Cond.selects "BookPairs" ⟨"BookPairs", "books", "(IIII)I"⟩ ⟨"BookPairs", "books", "(IIII)I"⟩ ∈ TB := tb1 193 (by decide +kernel) (by decide +kernel)
theorem mw397 : Cond.methodLink "BookPairsLaw" 17 ⟨"BookPairsModel", "books", "(IIII)I"⟩ ∈ TB := tb3 186 (by decide +kernel) (by decide +kernel)
theorem mw398 : Cond.instanceMethod ⟨"BookPairsModel", "books", "(IIII)I"⟩ ∈ TB := tb3 187 (by decide +kernel) (by decide +kernel)
theorem mw399 : Cond.selects "BookPairsModel" ⟨"BookPairsModel", "books", "(IIII)I"⟩ ⟨"BookPairsModel", "books", "(IIII)I"⟩ ∈ TB := tb3 188 (by decide +kernel) (by decide +kernel)
theorem mw400 : Cond.methodLink "BookPairsLaw" 18 ⟨"BookPairs", "ofLeft", "(II)I"⟩ ∈ TB := tb2 9 (by decide +kernel) (by decide +kernel)
theorem mw401 : Cond.instanceMethod ⟨"BookPairs", "ofLeft", "(II)I"⟩ ∈ TB := tb2 10 (by decide +kernel) (by decide +kernel)
theorem mw402 : Cond.selects "BookPairs" ⟨"BookPairs", "ofLeft", "(II)I"⟩ ⟨"BookPairs", "ofLeft", "(II)I"⟩ ∈ TB := tb2 11 (by decide +kernel) (by decide +kernel)
theorem mw403 : Cond.methodLink "BookPairsLaw" 22 ⟨"BookPairsModel", "ofLeft", "(II)I"⟩ ∈ TB := tb3 223 (by decide +kernel) (by decide +kernel)
theorem mw404 : Cond.instanceMethod ⟨"BookPairsModel", "ofLeft", "(II)I"⟩ ∈ TB := tb3 224 (by decide +kernel) (by decide +kernel)
theorem mw405 : Cond.selects "BookPairsModel" ⟨"BookPairsModel", "ofLeft", "(II)I"⟩ ⟨"BookPairsModel", "ofLeft", "(II)I"⟩ ∈ TB := tb3 225 (by decide +kernel) (by decide +kernel)
theorem mw406 : Cond.methodLink "BookPairsLaw" 23 ⟨"BookPairs", "ofRight", "(II)I"⟩ ∈ TB := tb2 107 (by decide +kernel) (by decide +kernel)
theorem mw407 : Cond.instanceMethod ⟨"BookPairs", "ofRight", "(II)I"⟩ ∈ TB := tb2 108 (by decide +kernel) (by decide +kernel)
theorem mw408 : Cond.selects "BookPairs" ⟨"BookPairs", "ofRight", "(II)I"⟩ ⟨"BookPairs", "ofRight", "(II)I"⟩ ∈ TB := tb2 109 (by decide +kernel) (by decide +kernel)
theorem mw409 : Cond.methodLink "BookPairsLaw" 26 ⟨"BookPairsModel", "ofRight", "(II)I"⟩ ∈ TB := tb4 37 (by decide +kernel) (by decide +kernel)
theorem mw410 : Cond.instanceMethod ⟨"BookPairsModel", "ofRight", "(II)I"⟩ ∈ TB := tb4 38 (by decide +kernel) (by decide +kernel)
theorem mw411 : Cond.selects "BookPairsModel" ⟨"BookPairsModel", "ofRight", "(II)I"⟩ ⟨"BookPairsModel", "ofRight", "(II)I"⟩ ∈ TB := tb4 39 (by decide +kernel) (by decide +kernel)
theorem mw412 : Cond.methodLink "BookPairsLaw" 27 ⟨"BookPairs", "letters", "(III)I"⟩ ∈ TB := tb2 116 (by decide +kernel) (by decide +kernel)
theorem mw413 : Cond.instanceMethod ⟨"BookPairs", "letters", "(III)I"⟩ ∈ TB := tb2 117 (by decide +kernel) (by decide +kernel)
theorem mw414 : Cond.selects "BookPairs" ⟨"BookPairs", "letters", "(III)I"⟩ ⟨"BookPairs", "letters", "(III)I"⟩ ∈ TB := tb2 118 (by decide +kernel) (by decide +kernel)
theorem mw415 : Cond.methodLink "BookPairsLaw" 31 ⟨"BookPairsModel", "letters", "(III)I"⟩ ∈ TB := tb4 45 (by decide +kernel) (by decide +kernel)
theorem mw416 : Cond.instanceMethod ⟨"BookPairsModel", "letters", "(III)I"⟩ ∈ TB := tb4 46 (by decide +kernel) (by decide +kernel)
theorem mw417 : Cond.selects "BookPairsModel" ⟨"BookPairsModel", "letters", "(III)I"⟩ ⟨"BookPairsModel", "letters", "(III)I"⟩ ∈ TB := tb4 47 (by decide +kernel) (by decide +kernel)
theorem mw418 : Cond.methodLink "BookPairsLaw" 32 ⟨"BookPairs", "price", "(II)I"⟩ ∈ TB := tb2 123 (by decide +kernel) (by decide +kernel)
theorem mw419 : Cond.instanceMethod ⟨"BookPairs", "price", "(II)I"⟩ ∈ TB := tb2 124 (by decide +kernel) (by decide +kernel)
theorem mw420 : Cond.selects "BookPairs" ⟨"BookPairs", "price", "(II)I"⟩ ⟨"BookPairs", "price", "(II)I"⟩ ∈ TB := tb2 125 (by decide +kernel) (by decide +kernel)
theorem mw421 : Cond.methodLink "BookPairsLaw" 35 ⟨"BookPairsModel", "price", "(II)I"⟩ ∈ TB := tb4 49 (by decide +kernel) (by decide +kernel)
theorem mw422 : Cond.instanceMethod ⟨"BookPairsModel", "price", "(II)I"⟩ ∈ TB := tb4 50 (by decide +kernel) (by decide +kernel)
theorem mw423 : Cond.selects "BookPairsModel" ⟨"BookPairsModel", "price", "(II)I"⟩ ⟨"BookPairsModel", "price", "(II)I"⟩ ∈ TB := tb4 51 (by decide +kernel) (by decide +kernel)
theorem mw424 : Cond.methodLink "BookPairsLaw" 36 ⟨"BookPairs", "move", "(III)I"⟩ ∈ TB := tb2 142 (by decide +kernel) (by decide +kernel)
theorem mw425 : Cond.instanceMethod ⟨"BookPairs", "move", "(III)I"⟩ ∈ TB := tb2 143 (by decide +kernel) (by decide +kernel)
theorem mw426 : Cond.selects "BookPairs" ⟨"BookPairs", "move", "(III)I"⟩ ⟨"BookPairs", "move", "(III)I"⟩ ∈ TB := tb2 144 (by decide +kernel) (by decide +kernel)
theorem mw427 : Cond.methodLink "BookPairsLaw" 39 ⟨"BookPairsModel", "move", "(III)I"⟩ ∈ TB := tb4 53 (by decide +kernel) (by decide +kernel)
theorem mw428 : Cond.instanceMethod ⟨"BookPairsModel", "move", "(III)I"⟩ ∈ TB := tb4 54 (by decide +kernel) (by decide +kernel)
theorem mw429 : Cond.selects "BookPairsModel" ⟨"BookPairsModel", "move", "(III)I"⟩ ⟨"BookPairsModel", "move", "(III)I"⟩ ∈ TB := tb4 55 (by decide +kernel) (by decide +kernel)
theorem mw430 : Cond.methodLink "BookPairsLaw" 40 ⟨"BookPairs", "best", "(I)I"⟩ ∈ TB := tb2 150 (by decide +kernel) (by decide +kernel)
theorem mw431 : Cond.instanceMethod ⟨"BookPairs", "best", "(I)I"⟩ ∈ TB := tb2 151 (by decide +kernel) (by decide +kernel)
theorem mw432 : Cond.selects "BookPairs" ⟨"BookPairs", "best", "(I)I"⟩ ⟨"BookPairs", "best", "(I)I"⟩ ∈ TB := tb2 152 (by decide +kernel) (by decide +kernel)
theorem mw433 : Cond.methodLink "BookPairsLaw" 44 ⟨"BookPairsModel", "best", "(I)I"⟩ ∈ TB := tb4 61 (by decide +kernel) (by decide +kernel)
theorem mw434 : Cond.instanceMethod ⟨"BookPairsModel", "best", "(I)I"⟩ ∈ TB := tb4 62 (by decide +kernel) (by decide +kernel)
theorem mw435 : Cond.selects "BookPairsModel" ⟨"BookPairsModel", "best", "(I)I"⟩ ⟨"BookPairsModel", "best", "(I)I"⟩ ∈ TB := tb4 63 (by decide +kernel) (by decide +kernel)
theorem mw436 : Cond.methodLink "BookPairsLaw" 45 ⟨"BookPairs", "ofPair", "(II)I"⟩ ∈ TB := tb2 158 (by decide +kernel) (by decide +kernel)
theorem mw437 : Cond.instanceMethod ⟨"BookPairs", "ofPair", "(II)I"⟩ ∈ TB := tb2 159 (by decide +kernel) (by decide +kernel)
theorem mw438 : Cond.selects "BookPairs" ⟨"BookPairs", "ofPair", "(II)I"⟩ ⟨"BookPairs", "ofPair", "(II)I"⟩ ∈ TB := tb2 160 (by decide +kernel) (by decide +kernel)
theorem mw439 : Cond.methodLink "BookPairsLaw" 48 ⟨"BookPairsModel", "ofPair", "(II)I"⟩ ∈ TB := tb4 69 (by decide +kernel) (by decide +kernel)
theorem mw440 : Cond.instanceMethod ⟨"BookPairsModel", "ofPair", "(II)I"⟩ ∈ TB := tb4 70 (by decide +kernel) (by decide +kernel)
theorem mw441 : Cond.selects "BookPairsModel" ⟨"BookPairsModel", "ofPair", "(II)I"⟩ ⟨"BookPairsModel", "ofPair", "(II)I"⟩ ∈ TB := tb4 71 (by decide +kernel) (by decide +kernel)
theorem mw442 : Cond.methodLink "BookPairsLaw" 49 ⟨"BookPairs", "cost", "(III)I"⟩ ∈ TB := tb2 166 (by decide +kernel) (by decide +kernel)
theorem mw443 : Cond.instanceMethod ⟨"BookPairs", "cost", "(III)I"⟩ ∈ TB := tb2 167 (by decide +kernel) (by decide +kernel)
theorem mw444 : Cond.selects "BookPairs" ⟨"BookPairs", "cost", "(III)I"⟩ ⟨"BookPairs", "cost", "(III)I"⟩ ∈ TB := tb2 168 (by decide +kernel) (by decide +kernel)
theorem mw445 : Cond.methodLink "BookPairsLaw" 52 ⟨"BookPairsModel", "cost", "(III)I"⟩ ∈ TB := tb4 73 (by decide +kernel) (by decide +kernel)
theorem mw446 : Cond.instanceMethod ⟨"BookPairsModel", "cost", "(III)I"⟩ ∈ TB := tb4 74 (by decide +kernel) (by decide +kernel)
theorem mw447 : Cond.selects "BookPairsModel" ⟨"BookPairsModel", "cost", "(III)I"⟩ ⟨"BookPairsModel", "cost", "(III)I"⟩ ∈ TB := tb4 75 (by decide +kernel) (by decide +kernel)
theorem mw448 : Cond.methodLink "BookPairsLaw" 53 ⟨"BookPairs", "day", "(IIIII)I"⟩ ∈ TB := tb2 175 (by decide +kernel) (by decide +kernel)
theorem mw449 : Cond.instanceMethod ⟨"BookPairs", "day", "(IIIII)I"⟩ ∈ TB := tb2 176 (by decide +kernel) (by decide +kernel)
theorem mw450 : Cond.selects "BookPairs" ⟨"BookPairs", "day", "(IIIII)I"⟩ ⟨"BookPairs", "day", "(IIIII)I"⟩ ∈ TB := tb2 177 (by decide +kernel) (by decide +kernel)
theorem mw451 : Cond.methodLink "BookPairsLaw" 57 ⟨"BookPairsModel", "day", "(IIIII)I"⟩ ∈ TB := tb4 77 (by decide +kernel) (by decide +kernel)
theorem mw452 : Cond.instanceMethod ⟨"BookPairsModel", "day", "(IIIII)I"⟩ ∈ TB := tb4 78 (by decide +kernel) (by decide +kernel)
theorem mw453 : Cond.selects "BookPairsModel" ⟨"BookPairsModel", "day", "(IIIII)I"⟩ ⟨"BookPairsModel", "day", "(IIIII)I"⟩ ∈ TB := tb4 79 (by decide +kernel) (by decide +kernel)
theorem mw454 : Cond.methodLink "BookPairsLaw" 58 ⟨"BookPairs", "by", "(I)I"⟩ ∈ TB := tb2 201 (by decide +kernel) (by decide +kernel)
theorem mw455 : Cond.instanceMethod ⟨"BookPairs", "by", "(I)I"⟩ ∈ TB := tb2 202 (by decide +kernel) (by decide +kernel)
theorem mw456 : Cond.selects "BookPairs" ⟨"BookPairs", "by", "(I)I"⟩ ⟨"BookPairs", "by", "(I)I"⟩ ∈ TB := tb2 203 (by decide +kernel) (by decide +kernel)
theorem mw457 : Cond.methodLink "BookPairsLaw" 61 ⟨"BookPairsModel", "by", "(I)I"⟩ ∈ TB := tb4 104 (by decide +kernel) (by decide +kernel)
theorem mw458 : Cond.instanceMethod ⟨"BookPairsModel", "by", "(I)I"⟩ ∈ TB := tb4 105 (by decide +kernel) (by decide +kernel)
theorem mw459 : Cond.selects "BookPairsModel" ⟨"BookPairsModel", "by", "(I)I"⟩ ⟨"BookPairsModel", "by", "(I)I"⟩ ∈ TB := tb4 106 (by decide +kernel) (by decide +kernel)
theorem mw460 : Cond.methodLink "BookPairsLaw" 62 ⟨"BookPairs", "enough", "()I"⟩ ∈ TB := tb2 207 (by decide +kernel) (by decide +kernel)
theorem mw461 : Cond.instanceMethod ⟨"BookPairs", "enough", "()I"⟩ ∈ TB := tb2 208 (by decide +kernel) (by decide +kernel)
theorem mw462 : Cond.selects "BookPairs" ⟨"BookPairs", "enough", "()I"⟩ ⟨"BookPairs", "enough", "()I"⟩ ∈ TB := tb2 209 (by decide +kernel) (by decide +kernel)
theorem mw463 : Cond.methodLink "BookPairsLaw" 66 ⟨"BookPairsModel", "enough", "()I"⟩ ∈ TB := tb4 108 (by decide +kernel) (by decide +kernel)
theorem mw464 : Cond.instanceMethod ⟨"BookPairsModel", "enough", "()I"⟩ ∈ TB := tb4 109 (by decide +kernel) (by decide +kernel)
theorem mw465 : Cond.selects "BookPairsModel" ⟨"BookPairsModel", "enough", "()I"⟩ ⟨"BookPairsModel", "enough", "()I"⟩ ∈ TB := tb4 110 (by decide +kernel) (by decide +kernel)
theorem mw466 : Cond.methodLink "BookPairsLaw" 67 ⟨"BookPairs", "reading", "(II)I"⟩ ∈ TB := tb2 211 (by decide +kernel) (by decide +kernel)
theorem mw467 : Cond.instanceMethod ⟨"BookPairs", "reading", "(II)I"⟩ ∈ TB := tb2 212 (by decide +kernel) (by decide +kernel)
theorem mw468 : Cond.selects "BookPairs" ⟨"BookPairs", "reading", "(II)I"⟩ ⟨"BookPairs", "reading", "(II)I"⟩ ∈ TB := tb2 213 (by decide +kernel) (by decide +kernel)
theorem mw469 : Cond.methodLink "BookPairsLaw" 70 ⟨"BookPairsModel", "reading", "(II)I"⟩ ∈ TB := tb4 112 (by decide +kernel) (by decide +kernel)
theorem mw470 : Cond.instanceMethod ⟨"BookPairsModel", "reading", "(II)I"⟩ ∈ TB := tb4 113 (by decide +kernel) (by decide +kernel)
theorem mw471 : Cond.selects "BookPairsModel" ⟨"BookPairsModel", "reading", "(II)I"⟩ ⟨"BookPairsModel", "reading", "(II)I"⟩ ∈ TB := tb4 114 (by decide +kernel) (by decide +kernel)
theorem mw472 : Cond.methodLink "BookPairsLaw" 71 ⟨"BookPairs", "back", "(I)I"⟩ ∈ TB := tb2 215 (by decide +kernel) (by decide +kernel)
theorem mw473 : Cond.instanceMethod ⟨"BookPairs", "back", "(I)I"⟩ ∈ TB := tb2 216 (by decide +kernel) (by decide +kernel)
theorem mw474 : Cond.selects "BookPairs" ⟨"BookPairs", "back", "(I)I"⟩ ⟨"BookPairs", "back", "(I)I"⟩ ∈ TB := tb2 217 (by decide +kernel) (by decide +kernel)
theorem mw475 : Cond.methodLink "BookPairsLaw" 74 ⟨"BookPairsModel", "back", "(I)I"⟩ ∈ TB := tb4 116 (by decide +kernel) (by decide +kernel)
theorem mw476 : Cond.instanceMethod ⟨"BookPairsModel", "back", "(I)I"⟩ ∈ TB := tb4 117 (by decide +kernel) (by decide +kernel)
theorem mw477 : Cond.selects "BookPairsModel" ⟨"BookPairsModel", "back", "(I)I"⟩ ⟨"BookPairsModel", "back", "(I)I"⟩ ∈ TB := tb4 118 (by decide +kernel) (by decide +kernel)
theorem mw478 : Cond.methodLink "BookPairsLaw" 75 ⟨"BookPairs", "kinds", "(I)I"⟩ ∈ TB := tb2 219 (by decide +kernel) (by decide +kernel)
theorem mw479 : Cond.instanceMethod ⟨"BookPairs", "kinds", "(I)I"⟩ ∈ TB := tb2 220 (by decide +kernel) (by decide +kernel)
theorem mw480 : Cond.selects "BookPairs" ⟨"BookPairs", "kinds", "(I)I"⟩ ⟨"BookPairs", "kinds", "(I)I"⟩ ∈ TB := tb2 221 (by decide +kernel) (by decide +kernel)
theorem mw481 : Cond.methodLink "BookPairsLaw" 78 ⟨"BookPairsModel", "kinds", "(I)I"⟩ ∈ TB := tb4 120 (by decide +kernel) (by decide +kernel)
theorem mw482 : Cond.instanceMethod ⟨"BookPairsModel", "kinds", "(I)I"⟩ ∈ TB := tb4 121 (by decide +kernel) (by decide +kernel)
theorem mw483 : Cond.selects "BookPairsModel" ⟨"BookPairsModel", "kinds", "(I)I"⟩ ⟨"BookPairsModel", "kinds", "(I)I"⟩ ∈ TB := tb4 122 (by decide +kernel) (by decide +kernel)
theorem mw484 : Cond.methodLink "BookPairsLaw" 79 ⟨"BookPairs", "letterings", "(I)I"⟩ ∈ TB := tb2 227 (by decide +kernel) (by decide +kernel)
theorem mw485 : Cond.instanceMethod ⟨"BookPairs", "letterings", "(I)I"⟩ ∈ TB := tb2 228 (by decide +kernel) (by decide +kernel)
theorem mw486 : Cond.selects "BookPairs" ⟨"BookPairs", "letterings", "(I)I"⟩ ⟨"BookPairs", "letterings", "(I)I"⟩ ∈ TB := tb2 229 (by decide +kernel) (by decide +kernel)
theorem mw487 : Cond.methodLink "BookPairsLaw" 82 ⟨"BookPairsModel", "letterings", "(I)I"⟩ ∈ TB := tb4 128 (by decide +kernel) (by decide +kernel)
theorem mw488 : Cond.instanceMethod ⟨"BookPairsModel", "letterings", "(I)I"⟩ ∈ TB := tb4 129 (by decide +kernel) (by decide +kernel)
theorem mw489 : Cond.selects "BookPairsModel" ⟨"BookPairsModel", "letterings", "(I)I"⟩ ⟨"BookPairsModel", "letterings", "(I)I"⟩ ∈ TB := tb4 130 (by decide +kernel) (by decide +kernel)
theorem mw490 : Cond.methodLink "BookPairsLaw" 83 ⟨"BookPairs", "odds", "(II)J"⟩ ∈ TB := tb2 231 (by decide +kernel) (by decide +kernel)
theorem mw491 : Cond.instanceMethod ⟨"BookPairs", "odds", "(II)J"⟩ ∈ TB := tb2 232 (by decide +kernel) (by decide +kernel)
theorem mw492 : Cond.selects "BookPairs" ⟨"BookPairs", "odds", "(II)J"⟩ ⟨"BookPairs", "odds", "(II)J"⟩ ∈ TB := tb2 233 (by decide +kernel) (by decide +kernel)
theorem mw493 : Cond.methodLink "BookPairsLaw" 87 ⟨"BookPairsModel", "odds", "(II)J"⟩ ∈ TB := tb4 132 (by decide +kernel) (by decide +kernel)
theorem mw494 : Cond.instanceMethod ⟨"BookPairsModel", "odds", "(II)J"⟩ ∈ TB := tb4 133 (by decide +kernel) (by decide +kernel)
theorem mw495 : Cond.selects "BookPairsModel" ⟨"BookPairsModel", "odds", "(II)J"⟩ ⟨"BookPairsModel", "odds", "(II)J"⟩ ∈ TB := tb4 134 (by decide +kernel) (by decide +kernel)
theorem mw496 : Cond.methodLink "BookPairsLaw" 88 ⟨"BookPairs", "sheet", "(III)I"⟩ ∈ TB := tb3 3 (by decide +kernel) (by decide +kernel)
theorem mw497 : Cond.instanceMethod ⟨"BookPairs", "sheet", "(III)I"⟩ ∈ TB := tb3 4 (by decide +kernel) (by decide +kernel)
theorem mw498 : Cond.selects "BookPairs" ⟨"BookPairs", "sheet", "(III)I"⟩ ⟨"BookPairs", "sheet", "(III)I"⟩ ∈ TB := tb3 5 (by decide +kernel) (by decide +kernel)
theorem mw499 : Cond.methodLink "BookPairsLaw" 91 ⟨"BookPairsModel", "sheet", "(III)I"⟩ ∈ TB := tb4 140 (by decide +kernel) (by decide +kernel)
theorem mw500 : Cond.instanceMethod ⟨"BookPairsModel", "sheet", "(III)I"⟩ ∈ TB := tb4 141 (by decide +kernel) (by decide +kernel)
theorem mw501 : Cond.selects "BookPairsModel" ⟨"BookPairsModel", "sheet", "(III)I"⟩ ⟨"BookPairsModel", "sheet", "(III)I"⟩ ∈ TB := tb4 142 (by decide +kernel) (by decide +kernel)
theorem mw502 : Cond.methodLink "BookPairsLaw" 92 ⟨"BookPairs", "lose", "(I)I"⟩ ∈ TB := tb3 14 (by decide +kernel) (by decide +kernel)
theorem mw503 : Cond.instanceMethod ⟨"BookPairs", "lose", "(I)I"⟩ ∈ TB := tb3 15 (by decide +kernel) (by decide +kernel)
theorem mw504 : Cond.selects "BookPairs" ⟨"BookPairs", "lose", "(I)I"⟩ ⟨"BookPairs", "lose", "(I)I"⟩ ∈ TB := tb3 16 (by decide +kernel) (by decide +kernel)
theorem mw505 : Cond.methodLink "BookPairsLaw" 95 ⟨"BookPairsModel", "lose", "(I)I"⟩ ∈ TB := tb4 144 (by decide +kernel) (by decide +kernel)
theorem mw506 : Cond.instanceMethod ⟨"BookPairsModel", "lose", "(I)I"⟩ ∈ TB := tb4 145 (by decide +kernel) (by decide +kernel)
theorem mw507 : Cond.selects "BookPairsModel" ⟨"BookPairsModel", "lose", "(I)I"⟩ ⟨"BookPairsModel", "lose", "(I)I"⟩ ∈ TB := tb4 146 (by decide +kernel) (by decide +kernel)
theorem mw508 : Cond.methodLink "BookPairsLaw" 96 ⟨"BookPairs", "put", "(III)I"⟩ ∈ TB := tb3 18 (by decide +kernel) (by decide +kernel)
theorem mw509 : Cond.instanceMethod ⟨"BookPairs", "put", "(III)I"⟩ ∈ TB := tb3 19 (by decide +kernel) (by decide +kernel)
theorem mw510 : Cond.selects "BookPairs" ⟨"BookPairs", "put", "(III)I"⟩ ⟨"BookPairs", "put", "(III)I"⟩ ∈ TB := tb3 20 (by decide +kernel) (by decide +kernel)
theorem mw511 : Cond.methodLink "BookPairsLaw" 99 ⟨"BookPairsModel", "put", "(III)I"⟩ ∈ TB := tb4 148 (by decide +kernel) (by decide +kernel)
theorem mw512 : Cond.instanceMethod ⟨"BookPairsModel", "put", "(III)I"⟩ ∈ TB := tb4 149 (by decide +kernel) (by decide +kernel)
theorem mw513 : Cond.selects "BookPairsModel" ⟨"BookPairsModel", "put", "(III)I"⟩ ⟨"BookPairsModel", "put", "(III)I"⟩ ∈ TB := tb4 150 (by decide +kernel) (by decide +kernel)
theorem mw514 : Cond.methodLink "BookPairsLaw" 100 ⟨"BookPairs", "cell", "(III)J"⟩ ∈ TB := tb3 26 (by decide +kernel) (by decide +kernel)
theorem mw515 : Cond.instanceMethod ⟨"BookPairs", "cell", "(III)J"⟩ ∈ TB := tb3 27 (by decide +kernel) (by decide +kernel)
theorem mw516 : Cond.selects "BookPairs" ⟨"BookPairs", "cell", "(III)J"⟩ ⟨"BookPairs", "cell", "(III)J"⟩ ∈ TB := tb3 28 (by decide +kernel) (by decide +kernel)
theorem mw517 : Cond.methodLink "BookPairsLaw" 104 ⟨"BookPairsModel", "cell", "(III)J"⟩ ∈ TB := tb4 152 (by decide +kernel) (by decide +kernel)
theorem mw518 : Cond.instanceMethod ⟨"BookPairsModel", "cell", "(III)J"⟩ ∈ TB := tb4 153 (by decide +kernel) (by decide +kernel)
theorem mw519 : Cond.selects "BookPairsModel" ⟨"BookPairsModel", "cell", "(III)J"⟩ ⟨"BookPairsModel", "cell", "(III)J"⟩ ∈ TB := tb4 154 (by decide +kernel) (by decide +kernel)
theorem mw520 : Cond.methodLink "BookPairsLaw" 105 ⟨"BookPairs", "copy", "(IIIII)I"⟩ ∈ TB := tb3 30 (by decide +kernel) (by decide +kernel)
theorem mw521 : Cond.instanceMethod ⟨"BookPairs", "copy", "(IIIII)I"⟩ ∈ TB := tb3 31 (by decide +kernel) (by decide +kernel)
theorem mw522 : Cond.selects "BookPairs" ⟨"BookPairs", "copy", "(IIIII)I"⟩ ⟨"BookPairs", "copy", "(IIIII)I"⟩ ∈ TB := tb3 32 (by decide +kernel) (by decide +kernel)
theorem mw523 : Cond.methodLink "BookPairsLaw" 108 ⟨"BookPairsModel", "copy", "(IIIII)I"⟩ ∈ TB := tb4 160 (by decide +kernel) (by decide +kernel)
theorem mw524 : Cond.instanceMethod ⟨"BookPairsModel", "copy", "(IIIII)I"⟩ ∈ TB := tb4 161 (by decide +kernel) (by decide +kernel)
theorem mw525 : Cond.selects "BookPairsModel" ⟨"BookPairsModel", "copy", "(IIIII)I"⟩ ⟨"BookPairsModel", "copy", "(IIIII)I"⟩ ∈ TB := tb4 162 (by decide +kernel) (by decide +kernel)
theorem mw526 : Cond.methodLink "BookPairsLaw" 109 ⟨"BookPairs", "tell", "(I)I"⟩ ∈ TB := tb3 35 (by decide +kernel) (by decide +kernel)
theorem mw527 : Cond.instanceMethod ⟨"BookPairs", "tell", "(I)I"⟩ ∈ TB := tb3 36 (by decide +kernel) (by decide +kernel)
theorem mw528 : Cond.selects "BookPairs" ⟨"BookPairs", "tell", "(I)I"⟩ ⟨"BookPairs", "tell", "(I)I"⟩ ∈ TB := tb3 37 (by decide +kernel) (by decide +kernel)
theorem mw529 : Cond.methodLink "BookPairsLaw" 112 ⟨"BookPairsModel", "tell", "(I)I"⟩ ∈ TB := tb4 164 (by decide +kernel) (by decide +kernel)
theorem mw530 : Cond.instanceMethod ⟨"BookPairsModel", "tell", "(I)I"⟩ ∈ TB := tb4 165 (by decide +kernel) (by decide +kernel)
theorem mw531 : Cond.selects "BookPairsModel" ⟨"BookPairsModel", "tell", "(I)I"⟩ ⟨"BookPairsModel", "tell", "(I)I"⟩ ∈ TB := tb4 166 (by decide +kernel) (by decide +kernel)
theorem mw532 : Cond.methodLink "BookPairsLaw" 113 ⟨"BookPairs", "read", "(I)I"⟩ ∈ TB := tb3 55 (by decide +kernel) (by decide +kernel)
theorem mw533 : Cond.instanceMethod ⟨"BookPairs", "read", "(I)I"⟩ ∈ TB := tb3 56 (by decide +kernel) (by decide +kernel)
theorem mw534 : Cond.selects "BookPairs" ⟨"BookPairs", "read", "(I)I"⟩ ⟨"BookPairs", "read", "(I)I"⟩ ∈ TB := tb3 57 (by decide +kernel) (by decide +kernel)
theorem mw535 : Cond.methodLink "BookPairsLaw" 116 ⟨"BookPairsModel", "read", "(I)I"⟩ ∈ TB := tb4 172 (by decide +kernel) (by decide +kernel)
theorem mw536 : Cond.instanceMethod ⟨"BookPairsModel", "read", "(I)I"⟩ ∈ TB := tb4 173 (by decide +kernel) (by decide +kernel)
theorem mw537 : Cond.selects "BookPairsModel" ⟨"BookPairsModel", "read", "(I)I"⟩ ⟨"BookPairsModel", "read", "(I)I"⟩ ∈ TB := tb4 174 (by decide +kernel) (by decide +kernel)
theorem mw538 : Cond.methodLink "BookPairsLaw" 117 ⟨"BookPairs", "as", "(II)I"⟩ ∈ TB := tb3 67 (by decide +kernel) (by decide +kernel)
theorem mw539 : Cond.instanceMethod ⟨"BookPairs", "as", "(II)I"⟩ ∈ TB := tb3 68 (by decide +kernel) (by decide +kernel)
theorem mw540 : Cond.selects "BookPairs" ⟨"BookPairs", "as", "(II)I"⟩ ⟨"BookPairs", "as", "(II)I"⟩ ∈ TB := tb3 69 (by decide +kernel) (by decide +kernel)
theorem mw541 : Cond.methodLink "BookPairsLaw" 120 ⟨"BookPairsModel", "as", "(II)I"⟩ ∈ TB := tb4 176 (by decide +kernel) (by decide +kernel)
theorem mw542 : Cond.instanceMethod ⟨"BookPairsModel", "as", "(II)I"⟩ ∈ TB := tb4 177 (by decide +kernel) (by decide +kernel)
theorem mw543 : Cond.selects "BookPairsModel" ⟨"BookPairsModel", "as", "(II)I"⟩ ⟨"BookPairsModel", "as", "(II)I"⟩ ∈ TB := tb4 178 (by decide +kernel) (by decide +kernel)
theorem mw544 : Cond.methodLink "BookPairsLaw" 121 ⟨"BookPairs", "trace", "()I"⟩ ∈ TB := tb3 71 (by decide +kernel) (by decide +kernel)
theorem mw545 : Cond.instanceMethod ⟨"BookPairs", "trace", "()I"⟩ ∈ TB := tb3 72 (by decide +kernel) (by decide +kernel)
theorem mw546 : Cond.selects "BookPairs" ⟨"BookPairs", "trace", "()I"⟩ ⟨"BookPairs", "trace", "()I"⟩ ∈ TB := tb3 73 (by decide +kernel) (by decide +kernel)
theorem mw547 : Cond.methodLink "BookPairsLaw" 124 ⟨"BookPairsModel", "trace", "()I"⟩ ∈ TB := tb4 180 (by decide +kernel) (by decide +kernel)
theorem mw548 : Cond.instanceMethod ⟨"BookPairsModel", "trace", "()I"⟩ ∈ TB := tb4 181 (by decide +kernel) (by decide +kernel)
theorem mw549 : Cond.selects "BookPairsModel" ⟨"BookPairsModel", "trace", "()I"⟩ ⟨"BookPairsModel", "trace", "()I"⟩ ∈ TB := tb4 182 (by decide +kernel) (by decide +kernel)
theorem mw550 : Cond.methodLink "BookPairsLaw" 125 ⟨"BookPairs", "fault", "()I"⟩ ∈ TB := tb3 75 (by decide +kernel) (by decide +kernel)
theorem mw551 : Cond.instanceMethod ⟨"BookPairs", "fault", "()I"⟩ ∈ TB := tb3 76 (by decide +kernel) (by decide +kernel)
theorem mw552 : Cond.selects "BookPairs" ⟨"BookPairs", "fault", "()I"⟩ ⟨"BookPairs", "fault", "()I"⟩ ∈ TB := tb3 77 (by decide +kernel) (by decide +kernel)
theorem mw553 : Cond.methodLink "BookPairsLaw" 128 ⟨"BookPairsModel", "fault", "()I"⟩ ∈ TB := tb4 184 (by decide +kernel) (by decide +kernel)
theorem mw554 : Cond.instanceMethod ⟨"BookPairsModel", "fault", "()I"⟩ ∈ TB := tb4 185 (by decide +kernel) (by decide +kernel)
theorem mw555 : Cond.selects "BookPairsModel" ⟨"BookPairsModel", "fault", "()I"⟩ ⟨"BookPairsModel", "fault", "()I"⟩ ∈ TB := tb4 186 (by decide +kernel) (by decide +kernel)
theorem mw556 : Cond.methodLink "BookPairsLaw" 129 ⟨"BookPairs", "many", "(I)I"⟩ ∈ TB := tb3 79 (by decide +kernel) (by decide +kernel)
theorem mw557 : Cond.instanceMethod ⟨"BookPairs", "many", "(I)I"⟩ ∈ TB := tb3 80 (by decide +kernel) (by decide +kernel)
theorem mw558 : Cond.selects "BookPairs" ⟨"BookPairs", "many", "(I)I"⟩ ⟨"BookPairs", "many", "(I)I"⟩ ∈ TB := tb3 81 (by decide +kernel) (by decide +kernel)
theorem mw559 : Cond.methodLink "BookPairsLaw" 132 ⟨"BookPairsModel", "many", "(I)I"⟩ ∈ TB := tb4 188 (by decide +kernel) (by decide +kernel)
theorem mw560 : Cond.instanceMethod ⟨"BookPairsModel", "many", "(I)I"⟩ ∈ TB := tb4 189 (by decide +kernel) (by decide +kernel)
theorem mw561 : Cond.selects "BookPairsModel" ⟨"BookPairsModel", "many", "(I)I"⟩ ⟨"BookPairsModel", "many", "(I)I"⟩ ∈ TB := tb4 190 (by decide +kernel) (by decide +kernel)
theorem cw_X4_books : Cond.code yX4_books cX4_books 8 (some .int) ∈ TB := tb1 194 rfl rfl
theorem cal_X4_books : gCal J_X4_books yX4_books 4 4 := ⟨⟨TX4, 12, rfl⟩, cw_X4_books, mw395, mw396, mw232, rfl, rfl, by decide +kernel, by decide +kernel, by decide +kernel⟩
theorem cw_X5_books : Cond.code yX5_books cX5_books 8 (some .int) ∈ TB := tb3 189 rfl rfl
theorem cal_X5_books : gCal J_X5_books yX5_books 5 4 := ⟨⟨TX5, 32, rfl⟩, cw_X5_books, mw398, mw399, mw332, rfl, rfl, by decide +kernel, by decide +kernel, by decide +kernel⟩
theorem cw_X4_ofLeft : Cond.code yX4_ofLeft cX4_ofLeft 3 (some .int) ∈ TB := tb2 12 rfl rfl
theorem cal_X4_ofLeft : gCal J_X4_ofLeft yX4_ofLeft 4 2 := ⟨⟨TX4, 12, rfl⟩, cw_X4_ofLeft, mw401, mw402, mw232, rfl, rfl, by decide +kernel, by decide +kernel, by decide +kernel⟩
theorem cw_X5_ofLeft : Cond.code yX5_ofLeft cX5_ofLeft 3 (some .int) ∈ TB := tb3 226 rfl rfl
theorem cal_X5_ofLeft : gCal J_X5_ofLeft yX5_ofLeft 5 2 := ⟨⟨TX5, 32, rfl⟩, cw_X5_ofLeft, mw404, mw405, mw332, rfl, rfl, by decide +kernel, by decide +kernel, by decide +kernel⟩
theorem cw_X4_ofRight : Cond.code yX4_ofRight cX4_ofRight 3 (some .int) ∈ TB := tb2 110 rfl rfl
theorem cal_X4_ofRight : gCal J_X4_ofRight yX4_ofRight 4 2 := ⟨⟨TX4, 12, rfl⟩, cw_X4_ofRight, mw407, mw408, mw232, rfl, rfl, by decide +kernel, by decide +kernel, by decide +kernel⟩
theorem cw_X5_ofRight : Cond.code yX5_ofRight cX5_ofRight 3 (some .int) ∈ TB := tb4 40 rfl rfl
theorem cal_X5_ofRight : gCal J_X5_ofRight yX5_ofRight 5 2 := ⟨⟨TX5, 32, rfl⟩, cw_X5_ofRight, mw410, mw411, mw332, rfl, rfl, by decide +kernel, by decide +kernel, by decide +kernel⟩
theorem cw_X4_letters : Cond.code yX4_letters cX4_letters 6 (some .int) ∈ TB := tb2 119 rfl rfl
theorem cal_X4_letters : gCal J_X4_letters yX4_letters 4 3 := ⟨⟨TX4, 12, rfl⟩, cw_X4_letters, mw413, mw414, mw232, rfl, rfl, by decide +kernel, by decide +kernel, by decide +kernel⟩
theorem cw_X5_letters : Cond.code yX5_letters cX5_letters 5 (some .int) ∈ TB := tb4 48 rfl rfl
theorem cal_X5_letters : gCal J_X5_letters yX5_letters 5 3 := ⟨⟨TX5, 32, rfl⟩, cw_X5_letters, mw416, mw417, mw332, rfl, rfl, by decide +kernel, by decide +kernel, by decide +kernel⟩
theorem cw_X4_price : Cond.code yX4_price cX4_price 4 (some .int) ∈ TB := tb2 126 rfl rfl
theorem cal_X4_price : gCal J_X4_price yX4_price 4 2 := ⟨⟨TX4, 12, rfl⟩, cw_X4_price, mw419, mw420, mw232, rfl, rfl, by decide +kernel, by decide +kernel, by decide +kernel⟩
theorem cw_X5_price : Cond.code yX5_price cX5_price 4 (some .int) ∈ TB := tb4 52 rfl rfl
theorem cal_X5_price : gCal J_X5_price yX5_price 5 2 := ⟨⟨TX5, 32, rfl⟩, cw_X5_price, mw422, mw423, mw332, rfl, rfl, by decide +kernel, by decide +kernel, by decide +kernel⟩
theorem cw_X4_move : Cond.code yX4_move cX4_move 4 (some .int) ∈ TB := tb2 145 rfl rfl
theorem cal_X4_move : gCal J_X4_move yX4_move 4 3 := ⟨⟨TX4, 12, rfl⟩, cw_X4_move, mw425, mw426, mw232, rfl, rfl, by decide +kernel, by decide +kernel, by decide +kernel⟩
theorem cw_X5_move : Cond.code yX5_move cX5_move 6 (some .int) ∈ TB := tb4 56 rfl rfl
theorem cal_X5_move : gCal J_X5_move yX5_move 5 3 := ⟨⟨TX5, 32, rfl⟩, cw_X5_move, mw428, mw429, mw332, rfl, rfl, by decide +kernel, by decide +kernel, by decide +kernel⟩
theorem cw_X4_best : Cond.code yX4_best cX4_best 2 (some .int) ∈ TB := tb2 153 rfl rfl
theorem cal_X4_best : gCal J_X4_best yX4_best 4 1 := ⟨⟨TX4, 12, rfl⟩, cw_X4_best, mw431, mw432, mw232, rfl, rfl, by decide +kernel, by decide +kernel, by decide +kernel⟩
theorem cw_X5_best : Cond.code yX5_best cX5_best 2 (some .int) ∈ TB := tb4 64 rfl rfl
theorem cal_X5_best : gCal J_X5_best yX5_best 5 1 := ⟨⟨TX5, 32, rfl⟩, cw_X5_best, mw434, mw435, mw332, rfl, rfl, by decide +kernel, by decide +kernel, by decide +kernel⟩
theorem cw_X4_ofPair : Cond.code yX4_ofPair cX4_ofPair 4 (some .int) ∈ TB := tb2 161 rfl rfl
theorem cal_X4_ofPair : gCal J_X4_ofPair yX4_ofPair 4 2 := ⟨⟨TX4, 12, rfl⟩, cw_X4_ofPair, mw437, mw438, mw232, rfl, rfl, by decide +kernel, by decide +kernel, by decide +kernel⟩
theorem cw_X5_ofPair : Cond.code yX5_ofPair cX5_ofPair 3 (some .int) ∈ TB := tb4 72 rfl rfl
theorem cal_X5_ofPair : gCal J_X5_ofPair yX5_ofPair 5 2 := ⟨⟨TX5, 32, rfl⟩, cw_X5_ofPair, mw440, mw441, mw332, rfl, rfl, by decide +kernel, by decide +kernel, by decide +kernel⟩
theorem cw_X4_cost : Cond.code yX4_cost cX4_cost 4 (some .int) ∈ TB := tb2 169 rfl rfl
theorem cal_X4_cost : gCal J_X4_cost yX4_cost 4 3 := ⟨⟨TX4, 12, rfl⟩, cw_X4_cost, mw443, mw444, mw232, rfl, rfl, by decide +kernel, by decide +kernel, by decide +kernel⟩
theorem cw_X5_cost : Cond.code yX5_cost cX5_cost 5 (some .int) ∈ TB := tb4 76 rfl rfl
theorem cal_X5_cost : gCal J_X5_cost yX5_cost 5 3 := ⟨⟨TX5, 32, rfl⟩, cw_X5_cost, mw446, mw447, mw332, rfl, rfl, by decide +kernel, by decide +kernel, by decide +kernel⟩
theorem cw_X4_day : Cond.code yX4_day cX4_day 8 (some .int) ∈ TB := tb2 178 rfl rfl
theorem cal_X4_day : gCal J_X4_day yX4_day 4 5 := ⟨⟨TX4, 12, rfl⟩, cw_X4_day, mw449, mw450, mw232, rfl, rfl, by decide +kernel, by decide +kernel, by decide +kernel⟩
theorem cw_X5_day : Cond.code yX5_day cX5_day 10 (some .int) ∈ TB := tb4 80 rfl rfl
theorem cal_X5_day : gCal J_X5_day yX5_day 5 5 := ⟨⟨TX5, 32, rfl⟩, cw_X5_day, mw452, mw453, mw332, rfl, rfl, by decide +kernel, by decide +kernel, by decide +kernel⟩
theorem cw_X4_by : Cond.code yX4_by cX4_by 2 (some .int) ∈ TB := tb2 204 rfl rfl
theorem cal_X4_by : gCal J_X4_by yX4_by 4 1 := ⟨⟨TX4, 12, rfl⟩, cw_X4_by, mw455, mw456, mw232, rfl, rfl, by decide +kernel, by decide +kernel, by decide +kernel⟩
theorem cw_X5_by : Cond.code yX5_by cX5_by 2 (some .int) ∈ TB := tb4 107 rfl rfl
theorem cal_X5_by : gCal J_X5_by yX5_by 5 1 := ⟨⟨TX5, 32, rfl⟩, cw_X5_by, mw458, mw459, mw332, rfl, rfl, by decide +kernel, by decide +kernel, by decide +kernel⟩
theorem cw_X4_enough : Cond.code yX4_enough cX4_enough 3 (some .int) ∈ TB := tb2 210 rfl rfl
theorem cal_X4_enough : gCal J_X4_enough yX4_enough 4 0 := ⟨⟨TX4, 12, rfl⟩, cw_X4_enough, mw461, mw462, mw232, rfl, rfl, by decide +kernel, by decide +kernel, by decide +kernel⟩
theorem cw_X5_enough : Cond.code yX5_enough cX5_enough 3 (some .int) ∈ TB := tb4 111 rfl rfl
theorem cal_X5_enough : gCal J_X5_enough yX5_enough 5 0 := ⟨⟨TX5, 32, rfl⟩, cw_X5_enough, mw464, mw465, mw332, rfl, rfl, by decide +kernel, by decide +kernel, by decide +kernel⟩
theorem cw_X4_reading : Cond.code yX4_reading cX4_reading 3 (some .int) ∈ TB := tb2 214 rfl rfl
theorem cal_X4_reading : gCal J_X4_reading yX4_reading 4 2 := ⟨⟨TX4, 12, rfl⟩, cw_X4_reading, mw467, mw468, mw232, rfl, rfl, by decide +kernel, by decide +kernel, by decide +kernel⟩
theorem cw_X5_reading : Cond.code yX5_reading cX5_reading 3 (some .int) ∈ TB := tb4 115 rfl rfl
theorem cal_X5_reading : gCal J_X5_reading yX5_reading 5 2 := ⟨⟨TX5, 32, rfl⟩, cw_X5_reading, mw470, mw471, mw332, rfl, rfl, by decide +kernel, by decide +kernel, by decide +kernel⟩
theorem cw_X4_back : Cond.code yX4_back cX4_back 2 (some .int) ∈ TB := tb2 218 rfl rfl
theorem cal_X4_back : gCal J_X4_back yX4_back 4 1 := ⟨⟨TX4, 12, rfl⟩, cw_X4_back, mw473, mw474, mw232, rfl, rfl, by decide +kernel, by decide +kernel, by decide +kernel⟩
theorem cw_X5_back : Cond.code yX5_back cX5_back 2 (some .int) ∈ TB := tb4 119 rfl rfl
theorem cal_X5_back : gCal J_X5_back yX5_back 5 1 := ⟨⟨TX5, 32, rfl⟩, cw_X5_back, mw476, mw477, mw332, rfl, rfl, by decide +kernel, by decide +kernel, by decide +kernel⟩
theorem cw_X4_kinds : Cond.code yX4_kinds cX4_kinds 4 (some .int) ∈ TB := tb2 222 rfl rfl
theorem cal_X4_kinds : gCal J_X4_kinds yX4_kinds 4 1 := ⟨⟨TX4, 12, rfl⟩, cw_X4_kinds, mw479, mw480, mw232, rfl, rfl, by decide +kernel, by decide +kernel, by decide +kernel⟩
theorem cw_X5_kinds : Cond.code yX5_kinds cX5_kinds 5 (some .int) ∈ TB := tb4 123 rfl rfl
theorem cal_X5_kinds : gCal J_X5_kinds yX5_kinds 5 1 := ⟨⟨TX5, 32, rfl⟩, cw_X5_kinds, mw482, mw483, mw332, rfl, rfl, by decide +kernel, by decide +kernel, by decide +kernel⟩
theorem cw_X4_letterings : Cond.code yX4_letterings cX4_letterings 4 (some .int) ∈ TB := tb2 230 rfl rfl
theorem cal_X4_letterings : gCal J_X4_letterings yX4_letterings 4 1 := ⟨⟨TX4, 12, rfl⟩, cw_X4_letterings, mw485, mw486, mw232, rfl, rfl, by decide +kernel, by decide +kernel, by decide +kernel⟩
theorem cw_X5_letterings : Cond.code yX5_letterings cX5_letterings 5 (some .int) ∈ TB := tb4 131 rfl rfl
theorem cal_X5_letterings : gCal J_X5_letterings yX5_letterings 5 1 := ⟨⟨TX5, 32, rfl⟩, cw_X5_letterings, mw488, mw489, mw332, rfl, rfl, by decide +kernel, by decide +kernel, by decide +kernel⟩
theorem cw_X4_odds : Cond.code yX4_odds cX4_odds 7 (some .long) ∈ TB := tb2 234 rfl rfl
theorem cal_X4_odds : gCal J_X4_odds yX4_odds 4 2 := ⟨⟨TX4, 12, rfl⟩, cw_X4_odds, mw491, mw492, mw232, rfl, rfl, by decide +kernel, by decide +kernel, by decide +kernel⟩
theorem cw_X5_odds : Cond.code yX5_odds cX5_odds 5 (some .long) ∈ TB := tb4 135 rfl rfl
theorem cal_X5_odds : gCal J_X5_odds yX5_odds 5 2 := ⟨⟨TX5, 32, rfl⟩, cw_X5_odds, mw494, mw495, mw332, rfl, rfl, by decide +kernel, by decide +kernel, by decide +kernel⟩
theorem cw_X4_sheet : Cond.code yX4_sheet cX4_sheet 4 (some .int) ∈ TB := tb3 6 rfl rfl
theorem cal_X4_sheet : gCal J_X4_sheet yX4_sheet 4 3 := ⟨⟨TX4, 12, rfl⟩, cw_X4_sheet, mw497, mw498, mw232, rfl, rfl, by decide +kernel, by decide +kernel, by decide +kernel⟩
theorem cw_X5_sheet : Cond.code yX5_sheet cX5_sheet 5 (some .int) ∈ TB := tb4 143 rfl rfl
theorem cal_X5_sheet : gCal J_X5_sheet yX5_sheet 5 3 := ⟨⟨TX5, 32, rfl⟩, cw_X5_sheet, mw500, mw501, mw332, rfl, rfl, by decide +kernel, by decide +kernel, by decide +kernel⟩
theorem cw_X4_lose : Cond.code yX4_lose cX4_lose 3 (some .int) ∈ TB := tb3 17 rfl rfl
theorem cal_X4_lose : gCal J_X4_lose yX4_lose 4 1 := ⟨⟨TX4, 12, rfl⟩, cw_X4_lose, mw503, mw504, mw232, rfl, rfl, by decide +kernel, by decide +kernel, by decide +kernel⟩
theorem cw_X5_lose : Cond.code yX5_lose cX5_lose 3 (some .int) ∈ TB := tb4 147 rfl rfl
theorem cal_X5_lose : gCal J_X5_lose yX5_lose 5 1 := ⟨⟨TX5, 32, rfl⟩, cw_X5_lose, mw506, mw507, mw332, rfl, rfl, by decide +kernel, by decide +kernel, by decide +kernel⟩
theorem cw_X4_put : Cond.code yX4_put cX4_put 5 (some .int) ∈ TB := tb3 21 rfl rfl
theorem cal_X4_put : gCal J_X4_put yX4_put 4 3 := ⟨⟨TX4, 12, rfl⟩, cw_X4_put, mw509, mw510, mw232, rfl, rfl, by decide +kernel, by decide +kernel, by decide +kernel⟩
theorem cw_X5_put : Cond.code yX5_put cX5_put 4 (some .int) ∈ TB := tb4 151 rfl rfl
theorem cal_X5_put : gCal J_X5_put yX5_put 5 3 := ⟨⟨TX5, 32, rfl⟩, cw_X5_put, mw512, mw513, mw332, rfl, rfl, by decide +kernel, by decide +kernel, by decide +kernel⟩
theorem cw_X4_cell : Cond.code yX4_cell cX4_cell 5 (some .long) ∈ TB := tb3 29 rfl rfl
theorem cal_X4_cell : gCal J_X4_cell yX4_cell 4 3 := ⟨⟨TX4, 12, rfl⟩, cw_X4_cell, mw515, mw516, mw232, rfl, rfl, by decide +kernel, by decide +kernel, by decide +kernel⟩
theorem cw_X5_cell : Cond.code yX5_cell cX5_cell 4 (some .long) ∈ TB := tb4 155 rfl rfl
theorem cal_X5_cell : gCal J_X5_cell yX5_cell 5 3 := ⟨⟨TX5, 32, rfl⟩, cw_X5_cell, mw518, mw519, mw332, rfl, rfl, by decide +kernel, by decide +kernel, by decide +kernel⟩
theorem cw_X4_copy : Cond.code yX4_copy cX4_copy 8 (some .int) ∈ TB := tb3 33 rfl rfl
theorem cal_X4_copy : gCal J_X4_copy yX4_copy 4 5 := ⟨⟨TX4, 12, rfl⟩, cw_X4_copy, mw521, mw522, mw232, rfl, rfl, by decide +kernel, by decide +kernel, by decide +kernel⟩
theorem cw_X5_copy : Cond.code yX5_copy cX5_copy 10 (some .int) ∈ TB := tb4 163 rfl rfl
theorem cal_X5_copy : gCal J_X5_copy yX5_copy 5 5 := ⟨⟨TX5, 32, rfl⟩, cw_X5_copy, mw524, mw525, mw332, rfl, rfl, by decide +kernel, by decide +kernel, by decide +kernel⟩
theorem cw_X4_tell : Cond.code yX4_tell cX4_tell 2 (some .int) ∈ TB := tb3 38 rfl rfl
theorem cal_X4_tell : gCal J_X4_tell yX4_tell 4 1 := ⟨⟨TX4, 12, rfl⟩, cw_X4_tell, mw527, mw528, mw232, rfl, rfl, by decide +kernel, by decide +kernel, by decide +kernel⟩
theorem cw_X5_tell : Cond.code yX5_tell cX5_tell 3 (some .int) ∈ TB := tb4 167 rfl rfl
theorem cal_X5_tell : gCal J_X5_tell yX5_tell 5 1 := ⟨⟨TX5, 32, rfl⟩, cw_X5_tell, mw530, mw531, mw332, rfl, rfl, by decide +kernel, by decide +kernel, by decide +kernel⟩
theorem cw_X4_read : Cond.code yX4_read cX4_read 2 (some .int) ∈ TB := tb3 58 rfl rfl
theorem cal_X4_read : gCal J_X4_read yX4_read 4 1 := ⟨⟨TX4, 12, rfl⟩, cw_X4_read, mw533, mw534, mw232, rfl, rfl, by decide +kernel, by decide +kernel, by decide +kernel⟩
theorem cw_X5_read : Cond.code yX5_read cX5_read 2 (some .int) ∈ TB := tb4 175 rfl rfl
theorem cal_X5_read : gCal J_X5_read yX5_read 5 1 := ⟨⟨TX5, 32, rfl⟩, cw_X5_read, mw536, mw537, mw332, rfl, rfl, by decide +kernel, by decide +kernel, by decide +kernel⟩
theorem cw_X4_as : Cond.code yX4_as cX4_as 3 (some .int) ∈ TB := tb3 70 rfl rfl
theorem cal_X4_as : gCal J_X4_as yX4_as 4 2 := ⟨⟨TX4, 12, rfl⟩, cw_X4_as, mw539, mw540, mw232, rfl, rfl, by decide +kernel, by decide +kernel, by decide +kernel⟩
theorem cw_X5_as : Cond.code yX5_as cX5_as 3 (some .int) ∈ TB := tb4 179 rfl rfl
theorem cal_X5_as : gCal J_X5_as yX5_as 5 2 := ⟨⟨TX5, 32, rfl⟩, cw_X5_as, mw542, mw543, mw332, rfl, rfl, by decide +kernel, by decide +kernel, by decide +kernel⟩
theorem cw_X4_trace : Cond.code yX4_trace cX4_trace 1 (some .int) ∈ TB := tb3 74 rfl rfl
theorem cal_X4_trace : gCal J_X4_trace yX4_trace 4 0 := ⟨⟨TX4, 12, rfl⟩, cw_X4_trace, mw545, mw546, mw232, rfl, rfl, by decide +kernel, by decide +kernel, by decide +kernel⟩
theorem cw_X5_trace : Cond.code yX5_trace cX5_trace 1 (some .int) ∈ TB := tb4 183 rfl rfl
theorem cal_X5_trace : gCal J_X5_trace yX5_trace 5 0 := ⟨⟨TX5, 32, rfl⟩, cw_X5_trace, mw548, mw549, mw332, rfl, rfl, by decide +kernel, by decide +kernel, by decide +kernel⟩
theorem cw_X4_fault : Cond.code yX4_fault cX4_fault 1 (some .int) ∈ TB := tb3 78 rfl rfl
theorem cal_X4_fault : gCal J_X4_fault yX4_fault 4 0 := ⟨⟨TX4, 12, rfl⟩, cw_X4_fault, mw551, mw552, mw232, rfl, rfl, by decide +kernel, by decide +kernel, by decide +kernel⟩
theorem cw_X5_fault : Cond.code yX5_fault cX5_fault 1 (some .int) ∈ TB := tb4 187 rfl rfl
theorem cal_X5_fault : gCal J_X5_fault yX5_fault 5 0 := ⟨⟨TX5, 32, rfl⟩, cw_X5_fault, mw554, mw555, mw332, rfl, rfl, by decide +kernel, by decide +kernel, by decide +kernel⟩
theorem cw_X4_many : Cond.code yX4_many cX4_many 2 (some .int) ∈ TB := tb3 82 rfl rfl
theorem cal_X4_many : gCal J_X4_many yX4_many 4 1 := ⟨⟨TX4, 12, rfl⟩, cw_X4_many, mw557, mw558, mw232, rfl, rfl, by decide +kernel, by decide +kernel, by decide +kernel⟩
theorem cw_X5_many : Cond.code yX5_many cX5_many 2 (some .int) ∈ TB := tb4 191 rfl rfl
theorem cal_X5_many : gCal J_X5_many yX5_many 5 1 := ⟨⟨TX5, 32, rfl⟩, cw_X5_many, mw560, mw561, mw332, rfl, rfl, by decide +kernel, by decide +kernel, by decide +kernel⟩
def Steps (I : Mem → Prop) : Prop :=
  (∀ (a1 a2 a3 a4 : Int32) (μ : Mem), I μ → ∃ (r : Int32) (μ1 μ2 : Mem), f_X4_books a1 a2 a3 a4 μ = some (r, μ1) ∧ f_X5_books a1 a2 a3 a4 μ1 = some (r, μ2) ∧ I μ2) ∧
  (∀ (a1 a2 : Int32) (μ : Mem), I μ → ∃ (r : Int32) (μ1 μ2 : Mem), f_X4_ofLeft a1 a2 μ = some (r, μ1) ∧ f_X5_ofLeft a1 a2 μ1 = some (r, μ2) ∧ I μ2) ∧
  (∀ (a1 a2 : Int32) (μ : Mem), I μ → ∃ (r : Int32) (μ1 μ2 : Mem), f_X4_ofRight a1 a2 μ = some (r, μ1) ∧ f_X5_ofRight a1 a2 μ1 = some (r, μ2) ∧ I μ2) ∧
  (∀ (a1 a2 a3 : Int32) (μ : Mem), I μ → ∃ (r : Int32) (μ1 μ2 : Mem), f_X4_letters a1 a2 a3 μ = some (r, μ1) ∧ f_X5_letters a1 a2 a3 μ1 = some (r, μ2) ∧ I μ2) ∧
  (∀ (a1 a2 : Int32) (μ : Mem), I μ → ∃ (r : Int32) (μ1 μ2 : Mem), f_X4_price a1 a2 μ = some (r, μ1) ∧ f_X5_price a1 a2 μ1 = some (r, μ2) ∧ I μ2) ∧
  (∀ (a1 a2 a3 : Int32) (μ : Mem), I μ → ∃ (r : Int32) (μ1 μ2 : Mem), f_X4_move a1 a2 a3 μ = some (r, μ1) ∧ f_X5_move a1 a2 a3 μ1 = some (r, μ2) ∧ I μ2) ∧
  (∀ (a1 : Int32) (μ : Mem), I μ → ∃ (r : Int32) (μ1 μ2 : Mem), f_X4_best a1 μ = some (r, μ1) ∧ f_X5_best a1 μ1 = some (r, μ2) ∧ I μ2) ∧
  (∀ (a1 a2 : Int32) (μ : Mem), I μ → ∃ (r : Int32) (μ1 μ2 : Mem), f_X4_ofPair a1 a2 μ = some (r, μ1) ∧ f_X5_ofPair a1 a2 μ1 = some (r, μ2) ∧ I μ2) ∧
  (∀ (a1 a2 a3 : Int32) (μ : Mem), I μ → ∃ (r : Int32) (μ1 μ2 : Mem), f_X4_cost a1 a2 a3 μ = some (r, μ1) ∧ f_X5_cost a1 a2 a3 μ1 = some (r, μ2) ∧ I μ2) ∧
  (∀ (a1 a2 a3 a4 a5 : Int32) (μ : Mem), I μ → ∃ (r : Int32) (μ1 μ2 : Mem), f_X4_day a1 a2 a3 a4 a5 μ = some (r, μ1) ∧ f_X5_day a1 a2 a3 a4 a5 μ1 = some (r, μ2) ∧ I μ2) ∧
  (∀ (a1 : Int32) (μ : Mem), I μ → ∃ (r : Int32) (μ1 μ2 : Mem), f_X4_by a1 μ = some (r, μ1) ∧ f_X5_by a1 μ1 = some (r, μ2) ∧ I μ2) ∧
  (∀ (μ : Mem), I μ → ∃ (r : Int32) (μ1 μ2 : Mem), f_X4_enough μ = some (r, μ1) ∧ f_X5_enough μ1 = some (r, μ2) ∧ I μ2) ∧
  (∀ (a1 a2 : Int32) (μ : Mem), I μ → ∃ (r : Int32) (μ1 μ2 : Mem), f_X4_reading a1 a2 μ = some (r, μ1) ∧ f_X5_reading a1 a2 μ1 = some (r, μ2) ∧ I μ2) ∧
  (∀ (a1 : Int32) (μ : Mem), I μ → ∃ (r : Int32) (μ1 μ2 : Mem), f_X4_back a1 μ = some (r, μ1) ∧ f_X5_back a1 μ1 = some (r, μ2) ∧ I μ2) ∧
  (∀ (a1 : Int32) (μ : Mem), I μ → ∃ (r : Int32) (μ1 μ2 : Mem), f_X4_kinds a1 μ = some (r, μ1) ∧ f_X5_kinds a1 μ1 = some (r, μ2) ∧ I μ2) ∧
  (∀ (a1 : Int32) (μ : Mem), I μ → ∃ (r : Int32) (μ1 μ2 : Mem), f_X4_letterings a1 μ = some (r, μ1) ∧ f_X5_letterings a1 μ1 = some (r, μ2) ∧ I μ2) ∧
  (∀ (a1 a2 : Int32) (μ : Mem), I μ → ∃ (r : Int64) (μ1 μ2 : Mem), f_X4_odds a1 a2 μ = some (r, μ1) ∧ f_X5_odds a1 a2 μ1 = some (r, μ2) ∧ I μ2) ∧
  (∀ (a1 a2 a3 : Int32) (μ : Mem), I μ → ∃ (r : Int32) (μ1 μ2 : Mem), f_X4_sheet a1 a2 a3 μ = some (r, μ1) ∧ f_X5_sheet a1 a2 a3 μ1 = some (r, μ2) ∧ I μ2) ∧
  (∀ (a1 : Int32) (μ : Mem), I μ → ∃ (r : Int32) (μ1 μ2 : Mem), f_X4_lose a1 μ = some (r, μ1) ∧ f_X5_lose a1 μ1 = some (r, μ2) ∧ I μ2) ∧
  (∀ (a1 a2 a3 : Int32) (μ : Mem), I μ → ∃ (r : Int32) (μ1 μ2 : Mem), f_X4_put a1 a2 a3 μ = some (r, μ1) ∧ f_X5_put a1 a2 a3 μ1 = some (r, μ2) ∧ I μ2) ∧
  (∀ (a1 a2 a3 : Int32) (μ : Mem), I μ → ∃ (r : Int64) (μ1 μ2 : Mem), f_X4_cell a1 a2 a3 μ = some (r, μ1) ∧ f_X5_cell a1 a2 a3 μ1 = some (r, μ2) ∧ I μ2) ∧
  (∀ (a1 a2 a3 a4 a5 : Int32) (μ : Mem), I μ → ∃ (r : Int32) (μ1 μ2 : Mem), f_X4_copy a1 a2 a3 a4 a5 μ = some (r, μ1) ∧ f_X5_copy a1 a2 a3 a4 a5 μ1 = some (r, μ2) ∧ I μ2) ∧
  (∀ (a1 : Int32) (μ : Mem), I μ → ∃ (r : Int32) (μ1 μ2 : Mem), f_X4_tell a1 μ = some (r, μ1) ∧ f_X5_tell a1 μ1 = some (r, μ2) ∧ I μ2) ∧
  (∀ (a1 : Int32) (μ : Mem), I μ → ∃ (r : Int32) (μ1 μ2 : Mem), f_X4_read a1 μ = some (r, μ1) ∧ f_X5_read a1 μ1 = some (r, μ2) ∧ I μ2) ∧
  (∀ (a1 a2 : Int32) (μ : Mem), I μ → ∃ (r : Int32) (μ1 μ2 : Mem), f_X4_as a1 a2 μ = some (r, μ1) ∧ f_X5_as a1 a2 μ1 = some (r, μ2) ∧ I μ2) ∧
  (∀ (μ : Mem), I μ → ∃ (r : Int32) (μ1 μ2 : Mem), f_X4_trace μ = some (r, μ1) ∧ f_X5_trace μ1 = some (r, μ2) ∧ I μ2) ∧
  (∀ (μ : Mem), I μ → ∃ (r : Int32) (μ1 μ2 : Mem), f_X4_fault μ = some (r, μ1) ∧ f_X5_fault μ1 = some (r, μ2) ∧ I μ2) ∧
  (∀ (a1 : Int32) (μ : Mem), I μ → ∃ (r : Int32) (μ1 μ2 : Mem), f_X4_many a1 μ = some (r, μ1) ∧ f_X5_many a1 μ1 = some (r, μ2) ∧ I μ2)
def R_law : String := "BookPairsLaw"
def lw_P (b : Addr) (xs : List Int32) (args : Array Value) (s : State) : Prop := args = #[.ref b] ∧ s.IntsAt b xs ∧ xs.length ≤ 3072 ∧ (Jvm.Cond.and given_1 narrow_1).before args s = true
def lw_Q (_ : Array Value) (s : State) (o : Outcome) (t : State) : Prop := o = .returned (some (.int 1)) ∧ Framed s o t [] 600000 7302250
def lw_Z (below : List Frame) (a : Array Value) (s : State) : State → Prop := fun t => ∃ o, t.status = .running ∧ Ended t below o ∧ lw_Q a s o t
theorem lw_ret {p : Program} {l : Launch} {e : Env} {s : State} {m : MethodId} {below : List Frame} {meth : Method} {c : Code} {b : Nat} (hx : p.tables.exec = Jvm.exec) (hb : c.code = code) (hr : meth.sig.returnType = ret) (hlocks : meth.locks = false) {pc : Nat} {H : Heap} {ls : Array Slot} (hdg : decode code pc = .ok (.ireturn, 1)) : W p l e room_1 s m #[Value.ref b] below meth c H [] 600000 7302250 (lw_Z below #[Value.ref b] s) (F0 m pc ls [.int 1]) := by
  intro T hT X
  obtain ⟨fs, hret, hrun, hended, hW, hframe⟩ := X.leave (v := some (.int 1)) (hlocks := hlocks) (fun h => by rw [hr] at h; cases h)
  have hmeth' : T.vm.method? m = some meth := X.method'
  refine ⟨T.setFrames fs, ?_, .returned (some (.int 1)), hrun, hended, rfl, ⟨_, rfl⟩, hW, hframe⟩
  jvm_step X.here [X.here.top, hx, hb, hdg, hmeth', hr, ret, narrow_b1]
  (try refine ⟨rfl, ?_⟩); (try refine ⟨rfl, ?_⟩)
  first | (intro acts; rw [hret _ acts rfl rfl rfl]) | rw [hret _ _ rfl rfl rfl]
  exact Steps.refl _
def lw_At (p : Program) (s : State) (m : MethodId) (meth : Method) (c : Code) (b L : Nat) (xs : Nat → Int32) : Prop :=
  p.tables.exec = Jvm.exec ∧ c.code = code ∧ meth.sig.returnType = ret ∧ c.maxLocals = 4 ∧ s.vm.findClass R_law = some m.cls ∧ (∀ w ∈ lw_tbl, w.before #[Value.ref b] s = true) ∧ va_X b L xs s s.heap ∧ b < s.heap.size ∧ meth.locks = false ∧ (Jvm.Cond.and given_1 narrow_1).before #[Value.ref b] s = true
def lwCtx (G : GG) (b L : Nat) (xs : Nat → Int32) (nc ns : Nat) (p : Program) (s : State) (m : MethodId) (meth : Method) (c : Code) : Prop :=
  p.tables.exec = Jvm.exec ∧ c.code = code ∧ c.maxLocals = 4 ∧ s.vm.findClass RL = some m.cls ∧ (∀ w ∈ TB, w.before #[Value.ref b] s = true) ∧ meth.locks = false ∧ meth.sig.returnType = ret ∧ gOK G s s.heap ∧ G.2.2.2.2.1 = s.heap.size ∧ va_X b L xs s s.heap ∧ b < s.heap.size ∧ nc ≤ 600000 ∧ ns ≤ 7302250
def LW (G : GG) (b L : Nat) (xs : Nat → Int32) (nc ns i pc : Nat) (st : List Value) (μ : Mem) : Prop :=
  ∀ (p : Program) (l : Launch) (e : Env) (s : State) (m : MethodId) (below : List Frame) (meth : Method) (c : Code), lwCtx G b L xs nc ns p s m meth c → ∀ (H : Heap) (locs : List Loc) (ls : Array Slot), va_P G.1 vwCl (gW G μ) H → va_S (gA G) s.heap H locs → lv_has ls 4 [(3, .int (nI i)), (0, .ref b), (1, .ref (G.2.1 0)), (2, .ref (G.2.1 43))] →
    W p l e room_1 s m #[Value.ref b] below meth c H locs nc ns (lw_Z below #[Value.ref b] s) (F0 m pc ls st)
theorem l_al1 {G : GG} {b L : Nat} {xs : Nat → Int32} {nc ns i pc : Nat} {st : List Value} {μ : Mem} (d : decode code pc = .ok (.aload_n 1, 1)) {n : Nat} (hn : pc + 1 = n) (h : LW G b L xs nc ns i n (.ref (G.2.1 0) :: st) μ) : LW G b L xs nc ns i pc st μ := by
  subst hn
  intro p l e s m below meth c C H locs ls hP hS hl
  obtain ⟨hx, hb, hml, hown, hts, hlk, hre, hO, hB, hX, hbl, hnc, hns⟩ := id C
  exact lv_aload_n hx hb d rfl (lv_at hl 2 rfl) (h p l e s m below meth c C H locs ls hP hS hl)
theorem l_al2 {G : GG} {b L : Nat} {xs : Nat → Int32} {nc ns i pc : Nat} {st : List Value} {μ : Mem} (d : decode code pc = .ok (.aload_n 2, 1)) {n : Nat} (hn : pc + 1 = n) (h : LW G b L xs nc ns i n (.ref (G.2.1 43) :: st) μ) : LW G b L xs nc ns i pc st μ := by
  subst hn
  intro p l e s m below meth c C H locs ls hP hS hl
  obtain ⟨hx, hb, hml, hown, hts, hlk, hre, hO, hB, hX, hbl, hnc, hns⟩ := id C
  exact lv_aload_n hx hb d rfl (lv_at hl 3 rfl) (h p l e s m below meth c C H locs ls hP hS hl)
theorem l_arg {G : GG} {b L : Nat} {xs : Nat → Int32} {nc ns i pc : Nat} {st : List Value} {μ : Mem} (j : Nat) {q : Int} (d0 : decode code pc = .ok (.aload_n 0, 1)) {p1 p2 p3 p4 n : Nat} (e1 : pc + 1 = p1) (d1 : decode code p1 = .ok (.iload_n 3, 1)) (e2 : p1 + 1 = p2) (d2 : decode code p2 = .ok (.iconst q, 1)) (hq : Int32.ofInt q = nI j) (e3 : p2 + 1 = p3) (d3 : decode code p3 = .ok (.iadd, 1)) (e4 : p3 + 1 = p4) (d4 : decode code p4 = .ok (.iaload, 1)) (hj : i + j < L) (hL : L ≤ 3072) (e5 : p4 + 1 = n) (h : LW G b L xs nc ns i n (.int (xs (i + j)) :: st) μ) : LW G b L xs nc ns i pc st μ := by
  subst e1 e2 e3 e4 e5
  intro p l e s m below meth c C H locs ls hP hS hl
  obtain ⟨hx, hb, hml, hown, hts, hlk, hre, hO, hB, hX, hbl, hnc, hns⟩ := id C
  refine lv_aload_n hx hb d0 rfl (lv_at hl 1 rfl) ?_
  refine lv_iload_n hx hb d1 rfl (lv_at hl 0 rfl) ?_
  refine lv_iconst (v := nI j) hx hb d2 hq ?_
  refine lv_iadd hx hb d3 ?_
  rw [nI_add]
  refine va_sld hx hb hX hbl (by rw [gA, hB]; exact Nat.not_le.mpr hbl) hS (vp_in_nI hj (by omega)) d4 ?_
  rw [nI_clamp (by omega)]
  exact h p l e s m below meth c C H locs ls hP hS hl
theorem l_call {G : GG} {b L : Nat} {xs : Nat → Int32} {nc ns i pc : Nat} {st : List Value} {μ : Mem} {o : Oc} {J2 : MD} {y : MethodName} {idx ci q na : Nat} {fs : List (Option Nat)} {st0 : List Value} (As : List Value) (d : decode code pc = .ok (.invokevirtual idx, 3)) (hM : GM G J2 y (.ref (G.2.1 q) :: As) μ o) (Cal : gCal J2 y ci na) (Lk : Cond.methodLink RL idx y ∈ TB) (hc : sh[q]? = some (.inr (ci, fs))) (hna : As.length = na) (hst : st0 = As.reverse ++ .ref (G.2.1 q) :: st) (hW : (st.map fun v => v.category).sum ≤ 8)
    (hR : J2.2.2.2.2.frames + 1 ≤ 10 ∧ 8 + (J2.2.2.1 + 11) + J2.2.2.2.2.locals ≤ 394) {n : Nat} (hn : pc + 3 = n) (h : LW G b L xs nc ns i n (o.1.toList ++ st) o.2) : LW G b L xs nc ns i pc st0 μ := by
  subst hn
  intro p l e s m below meth c C H locs ls hP hS hl
  obtain ⟨hx, hb, hml, hown, hts, hlk, hre, hO, hB, hX, hbl, hnc, hns⟩ := id C
  obtain ⟨⟨T0, N0, c1⟩, c2, c3, c4, c5, c6, c7, c8, c9, c10⟩ := Cal
  have hT : GoodIn TB (wsV RL idx y.cls y (gWs J2 y)) := goodIn_app (fun w hw => by
    simp only [List.mem_cons, List.not_mem_nil, or_false] at hw
    rcases hw with rfl | rfl | rfl | rfl
    · exact TB_good _ Lk
    · exact TB_good _ c3
    · exact TB_good _ c4
    · exact TB_good _ c5) (gWs_good c2)
  have run := va_runV (As := As) (rest := st) (g := F0 m pc ls st0) (locs := locs) (cells := nc) (slots := ns) (e := e) (below := below) (meth := meth) ⟨hx, hb, hml, hown, hts⟩ (hM l) (cwV (R := room_1) na hts hT rfl c6 c7 ⟨rfl, c8, c9, c10⟩ hR) ⟨gBlind, va_recv hO.1 hP c1 (gW_at hc), fun U hU hWm => ⟨rfl, by rw [hU]; exact hP, by rw [hU]; exact gOK_to hO hWm hS⟩⟩ rfl hna hl.1 hst (lv_room hW) d ⟨hnc, hns⟩
  exact w_call run hS (fun H1 locs1 hP1 hS1 => h p l e s m below meth c C H1 locs1 ls hP1 hS1 hl)
theorem l_eqI {G : GG} {b L : Nat} {xs : Nat → Int32} {nc ns i pc : Nat} {st : List Value} {μ : Mem} {v : Int32} {off : Int} {tgt : Nat} (d : decode code pc = .ok (.if_icmp .eq off, 3)) (ht : (pc : Int) + off = (tgt : Int)) (h : LW G b L xs nc ns i tgt st μ) : LW G b L xs nc ns i pc (.int v :: .int v :: st) μ := by
  intro p l e s m below meth c C H locs ls hP hS hl
  obtain ⟨hx, hb, hml, hown, hts, hlk, hre, hO, hB, hX, hbl, hnc, hns⟩ := id C
  exact lv_icmp_eq hx hb d ht (fun _ => h p l e s m below meth c C H locs ls hP hS hl) (fun q => absurd rfl q)
theorem l_eqL {G : GG} {b L : Nat} {xs : Nat → Int32} {nc ns i pc : Nat} {st : List Value} {μ : Mem} {v : Int64} {off : Int} {tgt p1 : Nat} (d : decode code pc = .ok (.lcmp, 1)) (e1 : pc + 1 = p1) (d1 : decode code p1 = .ok (.ifCond .eq off, 3)) (ht : (p1 : Int) + off = (tgt : Int)) (h : LW G b L xs nc ns i tgt st μ) : LW G b L xs nc ns i pc (.long v :: .long v :: st) μ := by
  subst e1
  intro p l e s m below meth c C H locs ls hP hS hl
  obtain ⟨hx, hb, hml, hown, hts, hlk, hre, hO, hB, hX, hbl, hnc, hns⟩ := id C
  refine W.lcmp hx hb d ?_
  exact lv_if_eq hx hb d1 ht (fun _ => h p l e s m below meth c C H locs ls hP hS hl) (fun q => absurd (by simp [lg_cmp]) q)
theorem l_next {G : GG} {b L : Nat} {xs : Nat → Int32} {nc ns i : Nat} {st : List Value} {μ : Mem} (h : LW G b L xs nc ns (i + 6) 18 st μ) : LW G b L xs nc ns i 1076 st μ := by
  intro p l e s m below meth c C H locs ls hP hS hl
  obtain ⟨hx, hb, hml, hown, hts, hlk, hre, hO, hB, hX, hbl, hnc, hns⟩ := id C
  refine lv_iinc (v := nI (i + 6)) (lv' := [(3, .int (nI (i + 6))), (0, .ref b), (1, .ref (G.2.1 0)), (2, .ref (G.2.1 43))]) hx hb dL_law_1076 hl (k := 0) rfl (by rw [show Int32.ofInt 6 = nI 6 by decide, nI_add]) (by decide) rfl (fun ls hl => ?_)
  refine lv_goto (tgt := 18) hx hb dL_law_1079 (by decide) ?_
  exact h p l e s m below meth c C H locs ls hP hS hl
set_option maxRecDepth 100000 in
set_option maxHeartbeats 4000000 in
theorem l_case0 {I : Mem → Prop} {G : GG} {b L : Nat} {xs : Nat → Int32} {nc ns i : Nat} {μ : Mem} (hL : L ≤ 3072) (hi : i + 6 ≤ L) (hs : (∀ (a1 a2 a3 a4 : Int32) (μ : Mem), I μ → ∃ (r : Int32) (μ1 μ2 : Mem), f_X4_books a1 a2 a3 a4 μ = some (r, μ1) ∧ f_X5_books a1 a2 a3 a4 μ1 = some (r, μ2) ∧ I μ2)) (hI : I μ) (hk : ∀ ν, I ν → LW G b L xs nc ns (i + 6) 18 [] ν) : LW G b L xs nc ns i 160 [] μ := by
  obtain ⟨r, μ1, μ2, h1, h2, hI⟩ := hs (xs (i + 1)) (xs (i + 2)) (xs (i + 3)) (xs (i + 4)) μ hI
  refine l_al1 (n := 161) dL_law_160 rfl ?_
  refine l_arg (p1 := 162) (p2 := 163) (p3 := 164) (p4 := 165) (n := 166) 1 dL_law_161 rfl dL_law_162 rfl dL_law_163 (by decide) rfl dL_law_164 rfl dL_law_165 (by omega) hL rfl ?_
  refine l_arg (p1 := 167) (p2 := 168) (p3 := 169) (p4 := 170) (n := 171) 2 dL_law_166 rfl dL_law_167 rfl dL_law_168 (by decide) rfl dL_law_169 rfl dL_law_170 (by omega) hL rfl ?_
  refine l_arg (p1 := 172) (p2 := 173) (p3 := 174) (p4 := 175) (n := 176) 3 dL_law_171 rfl dL_law_172 rfl dL_law_173 (by decide) rfl dL_law_174 rfl dL_law_175 (by omega) hL rfl ?_
  refine l_arg (p1 := 177) (p2 := 178) (p3 := 179) (p4 := 180) (n := 181) 4 dL_law_176 rfl dL_law_177 rfl dL_law_178 (by decide) rfl dL_law_179 rfl dL_law_180 (by omega) hL rfl ?_
  refine l_call (n := 184) (st := []) [.int (xs (i + 1)), .int (xs (i + 2)), .int (xs (i + 3)), .int (xs (i + 4))] dL_law_181 (M_X4_books G (xs (i + 1)) (xs (i + 2)) (xs (i + 3)) (xs (i + 4)) μ (r, μ1) h1) cal_X4_books mw394 (show isO 0 4 from rfl) rfl rfl (Nat.le_of_ble_eq_true rfl) ⟨Nat.le_of_ble_eq_true rfl, Nat.le_of_ble_eq_true rfl⟩ rfl ?_
  refine l_al2 (n := 185) dL_law_184 rfl ?_
  refine l_arg (p1 := 186) (p2 := 187) (p3 := 188) (p4 := 189) (n := 190) 1 dL_law_185 rfl dL_law_186 rfl dL_law_187 (by decide) rfl dL_law_188 rfl dL_law_189 (by omega) hL rfl ?_
  refine l_arg (p1 := 191) (p2 := 192) (p3 := 193) (p4 := 194) (n := 195) 2 dL_law_190 rfl dL_law_191 rfl dL_law_192 (by decide) rfl dL_law_193 rfl dL_law_194 (by omega) hL rfl ?_
  refine l_arg (p1 := 196) (p2 := 197) (p3 := 198) (p4 := 199) (n := 200) 3 dL_law_195 rfl dL_law_196 rfl dL_law_197 (by decide) rfl dL_law_198 rfl dL_law_199 (by omega) hL rfl ?_
  refine l_arg (p1 := 201) (p2 := 202) (p3 := 203) (p4 := 204) (n := 205) 4 dL_law_200 rfl dL_law_201 rfl dL_law_202 (by decide) rfl dL_law_203 rfl dL_law_204 (by omega) hL rfl ?_
  refine l_call (n := 208) (st := [.int r]) [.int (xs (i + 1)), .int (xs (i + 2)), .int (xs (i + 3)), .int (xs (i + 4))] dL_law_205 (M_X5_books G (xs (i + 1)) (xs (i + 2)) (xs (i + 3)) (xs (i + 4)) μ1 (r, μ2) h2) cal_X5_books mw397 (show isO 43 5 from rfl) rfl rfl (Nat.le_of_ble_eq_true rfl) ⟨Nat.le_of_ble_eq_true rfl, Nat.le_of_ble_eq_true rfl⟩ rfl ?_
  refine l_eqI (tgt := 1076) dL_law_208 (by decide) ?_
  exact l_next (hk μ2 hI)
set_option maxRecDepth 100000 in
set_option maxHeartbeats 4000000 in
theorem l_case1 {I : Mem → Prop} {G : GG} {b L : Nat} {xs : Nat → Int32} {nc ns i : Nat} {μ : Mem} (hL : L ≤ 3072) (hi : i + 6 ≤ L) (hs : (∀ (a1 a2 : Int32) (μ : Mem), I μ → ∃ (r : Int32) (μ1 μ2 : Mem), f_X4_ofLeft a1 a2 μ = some (r, μ1) ∧ f_X5_ofLeft a1 a2 μ1 = some (r, μ2) ∧ I μ2)) (hI : I μ) (hk : ∀ ν, I ν → LW G b L xs nc ns (i + 6) 18 [] ν) : LW G b L xs nc ns i 213 [] μ := by
  obtain ⟨r, μ1, μ2, h1, h2, hI⟩ := hs (xs (i + 1)) (xs (i + 2)) μ hI
  refine l_al1 (n := 214) dL_law_213 rfl ?_
  refine l_arg (p1 := 215) (p2 := 216) (p3 := 217) (p4 := 218) (n := 219) 1 dL_law_214 rfl dL_law_215 rfl dL_law_216 (by decide) rfl dL_law_217 rfl dL_law_218 (by omega) hL rfl ?_
  refine l_arg (p1 := 220) (p2 := 221) (p3 := 222) (p4 := 223) (n := 224) 2 dL_law_219 rfl dL_law_220 rfl dL_law_221 (by decide) rfl dL_law_222 rfl dL_law_223 (by omega) hL rfl ?_
  refine l_call (n := 227) (st := []) [.int (xs (i + 1)), .int (xs (i + 2))] dL_law_224 (M_X4_ofLeft G (xs (i + 1)) (xs (i + 2)) μ (r, μ1) h1) cal_X4_ofLeft mw400 (show isO 0 4 from rfl) rfl rfl (Nat.le_of_ble_eq_true rfl) ⟨Nat.le_of_ble_eq_true rfl, Nat.le_of_ble_eq_true rfl⟩ rfl ?_
  refine l_al2 (n := 228) dL_law_227 rfl ?_
  refine l_arg (p1 := 229) (p2 := 230) (p3 := 231) (p4 := 232) (n := 233) 1 dL_law_228 rfl dL_law_229 rfl dL_law_230 (by decide) rfl dL_law_231 rfl dL_law_232 (by omega) hL rfl ?_
  refine l_arg (p1 := 234) (p2 := 235) (p3 := 236) (p4 := 237) (n := 238) 2 dL_law_233 rfl dL_law_234 rfl dL_law_235 (by decide) rfl dL_law_236 rfl dL_law_237 (by omega) hL rfl ?_
  refine l_call (n := 241) (st := [.int r]) [.int (xs (i + 1)), .int (xs (i + 2))] dL_law_238 (M_X5_ofLeft G (xs (i + 1)) (xs (i + 2)) μ1 (r, μ2) h2) cal_X5_ofLeft mw403 (show isO 43 5 from rfl) rfl rfl (Nat.le_of_ble_eq_true rfl) ⟨Nat.le_of_ble_eq_true rfl, Nat.le_of_ble_eq_true rfl⟩ rfl ?_
  refine l_eqI (tgt := 1076) dL_law_241 (by decide) ?_
  exact l_next (hk μ2 hI)
set_option maxRecDepth 100000 in
set_option maxHeartbeats 4000000 in
theorem l_case2 {I : Mem → Prop} {G : GG} {b L : Nat} {xs : Nat → Int32} {nc ns i : Nat} {μ : Mem} (hL : L ≤ 3072) (hi : i + 6 ≤ L) (hs : (∀ (a1 a2 : Int32) (μ : Mem), I μ → ∃ (r : Int32) (μ1 μ2 : Mem), f_X4_ofRight a1 a2 μ = some (r, μ1) ∧ f_X5_ofRight a1 a2 μ1 = some (r, μ2) ∧ I μ2)) (hI : I μ) (hk : ∀ ν, I ν → LW G b L xs nc ns (i + 6) 18 [] ν) : LW G b L xs nc ns i 246 [] μ := by
  obtain ⟨r, μ1, μ2, h1, h2, hI⟩ := hs (xs (i + 1)) (xs (i + 2)) μ hI
  refine l_al1 (n := 247) dL_law_246 rfl ?_
  refine l_arg (p1 := 248) (p2 := 249) (p3 := 250) (p4 := 251) (n := 252) 1 dL_law_247 rfl dL_law_248 rfl dL_law_249 (by decide) rfl dL_law_250 rfl dL_law_251 (by omega) hL rfl ?_
  refine l_arg (p1 := 253) (p2 := 254) (p3 := 255) (p4 := 256) (n := 257) 2 dL_law_252 rfl dL_law_253 rfl dL_law_254 (by decide) rfl dL_law_255 rfl dL_law_256 (by omega) hL rfl ?_
  refine l_call (n := 260) (st := []) [.int (xs (i + 1)), .int (xs (i + 2))] dL_law_257 (M_X4_ofRight G (xs (i + 1)) (xs (i + 2)) μ (r, μ1) h1) cal_X4_ofRight mw406 (show isO 0 4 from rfl) rfl rfl (Nat.le_of_ble_eq_true rfl) ⟨Nat.le_of_ble_eq_true rfl, Nat.le_of_ble_eq_true rfl⟩ rfl ?_
  refine l_al2 (n := 261) dL_law_260 rfl ?_
  refine l_arg (p1 := 262) (p2 := 263) (p3 := 264) (p4 := 265) (n := 266) 1 dL_law_261 rfl dL_law_262 rfl dL_law_263 (by decide) rfl dL_law_264 rfl dL_law_265 (by omega) hL rfl ?_
  refine l_arg (p1 := 267) (p2 := 268) (p3 := 269) (p4 := 270) (n := 271) 2 dL_law_266 rfl dL_law_267 rfl dL_law_268 (by decide) rfl dL_law_269 rfl dL_law_270 (by omega) hL rfl ?_
  refine l_call (n := 274) (st := [.int r]) [.int (xs (i + 1)), .int (xs (i + 2))] dL_law_271 (M_X5_ofRight G (xs (i + 1)) (xs (i + 2)) μ1 (r, μ2) h2) cal_X5_ofRight mw409 (show isO 43 5 from rfl) rfl rfl (Nat.le_of_ble_eq_true rfl) ⟨Nat.le_of_ble_eq_true rfl, Nat.le_of_ble_eq_true rfl⟩ rfl ?_
  refine l_eqI (tgt := 1076) dL_law_274 (by decide) ?_
  exact l_next (hk μ2 hI)
set_option maxRecDepth 100000 in
set_option maxHeartbeats 4000000 in
theorem l_case3 {I : Mem → Prop} {G : GG} {b L : Nat} {xs : Nat → Int32} {nc ns i : Nat} {μ : Mem} (hL : L ≤ 3072) (hi : i + 6 ≤ L) (hs : (∀ (a1 a2 a3 : Int32) (μ : Mem), I μ → ∃ (r : Int32) (μ1 μ2 : Mem), f_X4_letters a1 a2 a3 μ = some (r, μ1) ∧ f_X5_letters a1 a2 a3 μ1 = some (r, μ2) ∧ I μ2)) (hI : I μ) (hk : ∀ ν, I ν → LW G b L xs nc ns (i + 6) 18 [] ν) : LW G b L xs nc ns i 279 [] μ := by
  obtain ⟨r, μ1, μ2, h1, h2, hI⟩ := hs (xs (i + 1)) (xs (i + 2)) (xs (i + 3)) μ hI
  refine l_al1 (n := 280) dL_law_279 rfl ?_
  refine l_arg (p1 := 281) (p2 := 282) (p3 := 283) (p4 := 284) (n := 285) 1 dL_law_280 rfl dL_law_281 rfl dL_law_282 (by decide) rfl dL_law_283 rfl dL_law_284 (by omega) hL rfl ?_
  refine l_arg (p1 := 286) (p2 := 287) (p3 := 288) (p4 := 289) (n := 290) 2 dL_law_285 rfl dL_law_286 rfl dL_law_287 (by decide) rfl dL_law_288 rfl dL_law_289 (by omega) hL rfl ?_
  refine l_arg (p1 := 291) (p2 := 292) (p3 := 293) (p4 := 294) (n := 295) 3 dL_law_290 rfl dL_law_291 rfl dL_law_292 (by decide) rfl dL_law_293 rfl dL_law_294 (by omega) hL rfl ?_
  refine l_call (n := 298) (st := []) [.int (xs (i + 1)), .int (xs (i + 2)), .int (xs (i + 3))] dL_law_295 (M_X4_letters G (xs (i + 1)) (xs (i + 2)) (xs (i + 3)) μ (r, μ1) h1) cal_X4_letters mw412 (show isO 0 4 from rfl) rfl rfl (Nat.le_of_ble_eq_true rfl) ⟨Nat.le_of_ble_eq_true rfl, Nat.le_of_ble_eq_true rfl⟩ rfl ?_
  refine l_al2 (n := 299) dL_law_298 rfl ?_
  refine l_arg (p1 := 300) (p2 := 301) (p3 := 302) (p4 := 303) (n := 304) 1 dL_law_299 rfl dL_law_300 rfl dL_law_301 (by decide) rfl dL_law_302 rfl dL_law_303 (by omega) hL rfl ?_
  refine l_arg (p1 := 305) (p2 := 306) (p3 := 307) (p4 := 308) (n := 309) 2 dL_law_304 rfl dL_law_305 rfl dL_law_306 (by decide) rfl dL_law_307 rfl dL_law_308 (by omega) hL rfl ?_
  refine l_arg (p1 := 310) (p2 := 311) (p3 := 312) (p4 := 313) (n := 314) 3 dL_law_309 rfl dL_law_310 rfl dL_law_311 (by decide) rfl dL_law_312 rfl dL_law_313 (by omega) hL rfl ?_
  refine l_call (n := 317) (st := [.int r]) [.int (xs (i + 1)), .int (xs (i + 2)), .int (xs (i + 3))] dL_law_314 (M_X5_letters G (xs (i + 1)) (xs (i + 2)) (xs (i + 3)) μ1 (r, μ2) h2) cal_X5_letters mw415 (show isO 43 5 from rfl) rfl rfl (Nat.le_of_ble_eq_true rfl) ⟨Nat.le_of_ble_eq_true rfl, Nat.le_of_ble_eq_true rfl⟩ rfl ?_
  refine l_eqI (tgt := 1076) dL_law_317 (by decide) ?_
  exact l_next (hk μ2 hI)
set_option maxRecDepth 100000 in
set_option maxHeartbeats 4000000 in
theorem l_case4 {I : Mem → Prop} {G : GG} {b L : Nat} {xs : Nat → Int32} {nc ns i : Nat} {μ : Mem} (hL : L ≤ 3072) (hi : i + 6 ≤ L) (hs : (∀ (a1 a2 : Int32) (μ : Mem), I μ → ∃ (r : Int32) (μ1 μ2 : Mem), f_X4_price a1 a2 μ = some (r, μ1) ∧ f_X5_price a1 a2 μ1 = some (r, μ2) ∧ I μ2)) (hI : I μ) (hk : ∀ ν, I ν → LW G b L xs nc ns (i + 6) 18 [] ν) : LW G b L xs nc ns i 322 [] μ := by
  obtain ⟨r, μ1, μ2, h1, h2, hI⟩ := hs (xs (i + 1)) (xs (i + 2)) μ hI
  refine l_al1 (n := 323) dL_law_322 rfl ?_
  refine l_arg (p1 := 324) (p2 := 325) (p3 := 326) (p4 := 327) (n := 328) 1 dL_law_323 rfl dL_law_324 rfl dL_law_325 (by decide) rfl dL_law_326 rfl dL_law_327 (by omega) hL rfl ?_
  refine l_arg (p1 := 329) (p2 := 330) (p3 := 331) (p4 := 332) (n := 333) 2 dL_law_328 rfl dL_law_329 rfl dL_law_330 (by decide) rfl dL_law_331 rfl dL_law_332 (by omega) hL rfl ?_
  refine l_call (n := 336) (st := []) [.int (xs (i + 1)), .int (xs (i + 2))] dL_law_333 (M_X4_price G (xs (i + 1)) (xs (i + 2)) μ (r, μ1) h1) cal_X4_price mw418 (show isO 0 4 from rfl) rfl rfl (Nat.le_of_ble_eq_true rfl) ⟨Nat.le_of_ble_eq_true rfl, Nat.le_of_ble_eq_true rfl⟩ rfl ?_
  refine l_al2 (n := 337) dL_law_336 rfl ?_
  refine l_arg (p1 := 338) (p2 := 339) (p3 := 340) (p4 := 341) (n := 342) 1 dL_law_337 rfl dL_law_338 rfl dL_law_339 (by decide) rfl dL_law_340 rfl dL_law_341 (by omega) hL rfl ?_
  refine l_arg (p1 := 343) (p2 := 344) (p3 := 345) (p4 := 346) (n := 347) 2 dL_law_342 rfl dL_law_343 rfl dL_law_344 (by decide) rfl dL_law_345 rfl dL_law_346 (by omega) hL rfl ?_
  refine l_call (n := 350) (st := [.int r]) [.int (xs (i + 1)), .int (xs (i + 2))] dL_law_347 (M_X5_price G (xs (i + 1)) (xs (i + 2)) μ1 (r, μ2) h2) cal_X5_price mw421 (show isO 43 5 from rfl) rfl rfl (Nat.le_of_ble_eq_true rfl) ⟨Nat.le_of_ble_eq_true rfl, Nat.le_of_ble_eq_true rfl⟩ rfl ?_
  refine l_eqI (tgt := 1076) dL_law_350 (by decide) ?_
  exact l_next (hk μ2 hI)
set_option maxRecDepth 100000 in
set_option maxHeartbeats 4000000 in
theorem l_case5 {I : Mem → Prop} {G : GG} {b L : Nat} {xs : Nat → Int32} {nc ns i : Nat} {μ : Mem} (hL : L ≤ 3072) (hi : i + 6 ≤ L) (hs : (∀ (a1 a2 a3 : Int32) (μ : Mem), I μ → ∃ (r : Int32) (μ1 μ2 : Mem), f_X4_move a1 a2 a3 μ = some (r, μ1) ∧ f_X5_move a1 a2 a3 μ1 = some (r, μ2) ∧ I μ2)) (hI : I μ) (hk : ∀ ν, I ν → LW G b L xs nc ns (i + 6) 18 [] ν) : LW G b L xs nc ns i 355 [] μ := by
  obtain ⟨r, μ1, μ2, h1, h2, hI⟩ := hs (xs (i + 1)) (xs (i + 2)) (xs (i + 3)) μ hI
  refine l_al1 (n := 356) dL_law_355 rfl ?_
  refine l_arg (p1 := 357) (p2 := 358) (p3 := 359) (p4 := 360) (n := 361) 1 dL_law_356 rfl dL_law_357 rfl dL_law_358 (by decide) rfl dL_law_359 rfl dL_law_360 (by omega) hL rfl ?_
  refine l_arg (p1 := 362) (p2 := 363) (p3 := 364) (p4 := 365) (n := 366) 2 dL_law_361 rfl dL_law_362 rfl dL_law_363 (by decide) rfl dL_law_364 rfl dL_law_365 (by omega) hL rfl ?_
  refine l_arg (p1 := 367) (p2 := 368) (p3 := 369) (p4 := 370) (n := 371) 3 dL_law_366 rfl dL_law_367 rfl dL_law_368 (by decide) rfl dL_law_369 rfl dL_law_370 (by omega) hL rfl ?_
  refine l_call (n := 374) (st := []) [.int (xs (i + 1)), .int (xs (i + 2)), .int (xs (i + 3))] dL_law_371 (M_X4_move G (xs (i + 1)) (xs (i + 2)) (xs (i + 3)) μ (r, μ1) h1) cal_X4_move mw424 (show isO 0 4 from rfl) rfl rfl (Nat.le_of_ble_eq_true rfl) ⟨Nat.le_of_ble_eq_true rfl, Nat.le_of_ble_eq_true rfl⟩ rfl ?_
  refine l_al2 (n := 375) dL_law_374 rfl ?_
  refine l_arg (p1 := 376) (p2 := 377) (p3 := 378) (p4 := 379) (n := 380) 1 dL_law_375 rfl dL_law_376 rfl dL_law_377 (by decide) rfl dL_law_378 rfl dL_law_379 (by omega) hL rfl ?_
  refine l_arg (p1 := 381) (p2 := 382) (p3 := 383) (p4 := 384) (n := 385) 2 dL_law_380 rfl dL_law_381 rfl dL_law_382 (by decide) rfl dL_law_383 rfl dL_law_384 (by omega) hL rfl ?_
  refine l_arg (p1 := 386) (p2 := 387) (p3 := 388) (p4 := 389) (n := 390) 3 dL_law_385 rfl dL_law_386 rfl dL_law_387 (by decide) rfl dL_law_388 rfl dL_law_389 (by omega) hL rfl ?_
  refine l_call (n := 393) (st := [.int r]) [.int (xs (i + 1)), .int (xs (i + 2)), .int (xs (i + 3))] dL_law_390 (M_X5_move G (xs (i + 1)) (xs (i + 2)) (xs (i + 3)) μ1 (r, μ2) h2) cal_X5_move mw427 (show isO 43 5 from rfl) rfl rfl (Nat.le_of_ble_eq_true rfl) ⟨Nat.le_of_ble_eq_true rfl, Nat.le_of_ble_eq_true rfl⟩ rfl ?_
  refine l_eqI (tgt := 1076) dL_law_393 (by decide) ?_
  exact l_next (hk μ2 hI)
set_option maxRecDepth 100000 in
set_option maxHeartbeats 4000000 in
theorem l_case6 {I : Mem → Prop} {G : GG} {b L : Nat} {xs : Nat → Int32} {nc ns i : Nat} {μ : Mem} (hL : L ≤ 3072) (hi : i + 6 ≤ L) (hs : (∀ (a1 : Int32) (μ : Mem), I μ → ∃ (r : Int32) (μ1 μ2 : Mem), f_X4_best a1 μ = some (r, μ1) ∧ f_X5_best a1 μ1 = some (r, μ2) ∧ I μ2)) (hI : I μ) (hk : ∀ ν, I ν → LW G b L xs nc ns (i + 6) 18 [] ν) : LW G b L xs nc ns i 398 [] μ := by
  obtain ⟨r, μ1, μ2, h1, h2, hI⟩ := hs (xs (i + 1)) μ hI
  refine l_al1 (n := 399) dL_law_398 rfl ?_
  refine l_arg (p1 := 400) (p2 := 401) (p3 := 402) (p4 := 403) (n := 404) 1 dL_law_399 rfl dL_law_400 rfl dL_law_401 (by decide) rfl dL_law_402 rfl dL_law_403 (by omega) hL rfl ?_
  refine l_call (n := 407) (st := []) [.int (xs (i + 1))] dL_law_404 (M_X4_best G (xs (i + 1)) μ (r, μ1) h1) cal_X4_best mw430 (show isO 0 4 from rfl) rfl rfl (Nat.le_of_ble_eq_true rfl) ⟨Nat.le_of_ble_eq_true rfl, Nat.le_of_ble_eq_true rfl⟩ rfl ?_
  refine l_al2 (n := 408) dL_law_407 rfl ?_
  refine l_arg (p1 := 409) (p2 := 410) (p3 := 411) (p4 := 412) (n := 413) 1 dL_law_408 rfl dL_law_409 rfl dL_law_410 (by decide) rfl dL_law_411 rfl dL_law_412 (by omega) hL rfl ?_
  refine l_call (n := 416) (st := [.int r]) [.int (xs (i + 1))] dL_law_413 (M_X5_best G (xs (i + 1)) μ1 (r, μ2) h2) cal_X5_best mw433 (show isO 43 5 from rfl) rfl rfl (Nat.le_of_ble_eq_true rfl) ⟨Nat.le_of_ble_eq_true rfl, Nat.le_of_ble_eq_true rfl⟩ rfl ?_
  refine l_eqI (tgt := 1076) dL_law_416 (by decide) ?_
  exact l_next (hk μ2 hI)
set_option maxRecDepth 100000 in
set_option maxHeartbeats 4000000 in
theorem l_case7 {I : Mem → Prop} {G : GG} {b L : Nat} {xs : Nat → Int32} {nc ns i : Nat} {μ : Mem} (hL : L ≤ 3072) (hi : i + 6 ≤ L) (hs : (∀ (a1 a2 : Int32) (μ : Mem), I μ → ∃ (r : Int32) (μ1 μ2 : Mem), f_X4_ofPair a1 a2 μ = some (r, μ1) ∧ f_X5_ofPair a1 a2 μ1 = some (r, μ2) ∧ I μ2)) (hI : I μ) (hk : ∀ ν, I ν → LW G b L xs nc ns (i + 6) 18 [] ν) : LW G b L xs nc ns i 421 [] μ := by
  obtain ⟨r, μ1, μ2, h1, h2, hI⟩ := hs (xs (i + 1)) (xs (i + 2)) μ hI
  refine l_al1 (n := 422) dL_law_421 rfl ?_
  refine l_arg (p1 := 423) (p2 := 424) (p3 := 425) (p4 := 426) (n := 427) 1 dL_law_422 rfl dL_law_423 rfl dL_law_424 (by decide) rfl dL_law_425 rfl dL_law_426 (by omega) hL rfl ?_
  refine l_arg (p1 := 428) (p2 := 429) (p3 := 430) (p4 := 431) (n := 432) 2 dL_law_427 rfl dL_law_428 rfl dL_law_429 (by decide) rfl dL_law_430 rfl dL_law_431 (by omega) hL rfl ?_
  refine l_call (n := 435) (st := []) [.int (xs (i + 1)), .int (xs (i + 2))] dL_law_432 (M_X4_ofPair G (xs (i + 1)) (xs (i + 2)) μ (r, μ1) h1) cal_X4_ofPair mw436 (show isO 0 4 from rfl) rfl rfl (Nat.le_of_ble_eq_true rfl) ⟨Nat.le_of_ble_eq_true rfl, Nat.le_of_ble_eq_true rfl⟩ rfl ?_
  refine l_al2 (n := 436) dL_law_435 rfl ?_
  refine l_arg (p1 := 437) (p2 := 438) (p3 := 439) (p4 := 440) (n := 441) 1 dL_law_436 rfl dL_law_437 rfl dL_law_438 (by decide) rfl dL_law_439 rfl dL_law_440 (by omega) hL rfl ?_
  refine l_arg (p1 := 442) (p2 := 443) (p3 := 444) (p4 := 445) (n := 446) 2 dL_law_441 rfl dL_law_442 rfl dL_law_443 (by decide) rfl dL_law_444 rfl dL_law_445 (by omega) hL rfl ?_
  refine l_call (n := 449) (st := [.int r]) [.int (xs (i + 1)), .int (xs (i + 2))] dL_law_446 (M_X5_ofPair G (xs (i + 1)) (xs (i + 2)) μ1 (r, μ2) h2) cal_X5_ofPair mw439 (show isO 43 5 from rfl) rfl rfl (Nat.le_of_ble_eq_true rfl) ⟨Nat.le_of_ble_eq_true rfl, Nat.le_of_ble_eq_true rfl⟩ rfl ?_
  refine l_eqI (tgt := 1076) dL_law_449 (by decide) ?_
  exact l_next (hk μ2 hI)
set_option maxRecDepth 100000 in
set_option maxHeartbeats 4000000 in
theorem l_case8 {I : Mem → Prop} {G : GG} {b L : Nat} {xs : Nat → Int32} {nc ns i : Nat} {μ : Mem} (hL : L ≤ 3072) (hi : i + 6 ≤ L) (hs : (∀ (a1 a2 a3 : Int32) (μ : Mem), I μ → ∃ (r : Int32) (μ1 μ2 : Mem), f_X4_cost a1 a2 a3 μ = some (r, μ1) ∧ f_X5_cost a1 a2 a3 μ1 = some (r, μ2) ∧ I μ2)) (hI : I μ) (hk : ∀ ν, I ν → LW G b L xs nc ns (i + 6) 18 [] ν) : LW G b L xs nc ns i 454 [] μ := by
  obtain ⟨r, μ1, μ2, h1, h2, hI⟩ := hs (xs (i + 1)) (xs (i + 2)) (xs (i + 3)) μ hI
  refine l_al1 (n := 455) dL_law_454 rfl ?_
  refine l_arg (p1 := 456) (p2 := 457) (p3 := 458) (p4 := 459) (n := 460) 1 dL_law_455 rfl dL_law_456 rfl dL_law_457 (by decide) rfl dL_law_458 rfl dL_law_459 (by omega) hL rfl ?_
  refine l_arg (p1 := 461) (p2 := 462) (p3 := 463) (p4 := 464) (n := 465) 2 dL_law_460 rfl dL_law_461 rfl dL_law_462 (by decide) rfl dL_law_463 rfl dL_law_464 (by omega) hL rfl ?_
  refine l_arg (p1 := 466) (p2 := 467) (p3 := 468) (p4 := 469) (n := 470) 3 dL_law_465 rfl dL_law_466 rfl dL_law_467 (by decide) rfl dL_law_468 rfl dL_law_469 (by omega) hL rfl ?_
  refine l_call (n := 473) (st := []) [.int (xs (i + 1)), .int (xs (i + 2)), .int (xs (i + 3))] dL_law_470 (M_X4_cost G (xs (i + 1)) (xs (i + 2)) (xs (i + 3)) μ (r, μ1) h1) cal_X4_cost mw442 (show isO 0 4 from rfl) rfl rfl (Nat.le_of_ble_eq_true rfl) ⟨Nat.le_of_ble_eq_true rfl, Nat.le_of_ble_eq_true rfl⟩ rfl ?_
  refine l_al2 (n := 474) dL_law_473 rfl ?_
  refine l_arg (p1 := 475) (p2 := 476) (p3 := 477) (p4 := 478) (n := 479) 1 dL_law_474 rfl dL_law_475 rfl dL_law_476 (by decide) rfl dL_law_477 rfl dL_law_478 (by omega) hL rfl ?_
  refine l_arg (p1 := 480) (p2 := 481) (p3 := 482) (p4 := 483) (n := 484) 2 dL_law_479 rfl dL_law_480 rfl dL_law_481 (by decide) rfl dL_law_482 rfl dL_law_483 (by omega) hL rfl ?_
  refine l_arg (p1 := 485) (p2 := 486) (p3 := 487) (p4 := 488) (n := 489) 3 dL_law_484 rfl dL_law_485 rfl dL_law_486 (by decide) rfl dL_law_487 rfl dL_law_488 (by omega) hL rfl ?_
  refine l_call (n := 492) (st := [.int r]) [.int (xs (i + 1)), .int (xs (i + 2)), .int (xs (i + 3))] dL_law_489 (M_X5_cost G (xs (i + 1)) (xs (i + 2)) (xs (i + 3)) μ1 (r, μ2) h2) cal_X5_cost mw445 (show isO 43 5 from rfl) rfl rfl (Nat.le_of_ble_eq_true rfl) ⟨Nat.le_of_ble_eq_true rfl, Nat.le_of_ble_eq_true rfl⟩ rfl ?_
  refine l_eqI (tgt := 1076) dL_law_492 (by decide) ?_
  exact l_next (hk μ2 hI)
set_option maxRecDepth 100000 in
set_option maxHeartbeats 4000000 in
theorem l_case9 {I : Mem → Prop} {G : GG} {b L : Nat} {xs : Nat → Int32} {nc ns i : Nat} {μ : Mem} (hL : L ≤ 3072) (hi : i + 6 ≤ L) (hs : (∀ (a1 a2 a3 a4 a5 : Int32) (μ : Mem), I μ → ∃ (r : Int32) (μ1 μ2 : Mem), f_X4_day a1 a2 a3 a4 a5 μ = some (r, μ1) ∧ f_X5_day a1 a2 a3 a4 a5 μ1 = some (r, μ2) ∧ I μ2)) (hI : I μ) (hk : ∀ ν, I ν → LW G b L xs nc ns (i + 6) 18 [] ν) : LW G b L xs nc ns i 497 [] μ := by
  obtain ⟨r, μ1, μ2, h1, h2, hI⟩ := hs (xs (i + 1)) (xs (i + 2)) (xs (i + 3)) (xs (i + 4)) (xs (i + 5)) μ hI
  refine l_al1 (n := 498) dL_law_497 rfl ?_
  refine l_arg (p1 := 499) (p2 := 500) (p3 := 501) (p4 := 502) (n := 503) 1 dL_law_498 rfl dL_law_499 rfl dL_law_500 (by decide) rfl dL_law_501 rfl dL_law_502 (by omega) hL rfl ?_
  refine l_arg (p1 := 504) (p2 := 505) (p3 := 506) (p4 := 507) (n := 508) 2 dL_law_503 rfl dL_law_504 rfl dL_law_505 (by decide) rfl dL_law_506 rfl dL_law_507 (by omega) hL rfl ?_
  refine l_arg (p1 := 509) (p2 := 510) (p3 := 511) (p4 := 512) (n := 513) 3 dL_law_508 rfl dL_law_509 rfl dL_law_510 (by decide) rfl dL_law_511 rfl dL_law_512 (by omega) hL rfl ?_
  refine l_arg (p1 := 514) (p2 := 515) (p3 := 516) (p4 := 517) (n := 518) 4 dL_law_513 rfl dL_law_514 rfl dL_law_515 (by decide) rfl dL_law_516 rfl dL_law_517 (by omega) hL rfl ?_
  refine l_arg (p1 := 519) (p2 := 520) (p3 := 521) (p4 := 522) (n := 523) 5 dL_law_518 rfl dL_law_519 rfl dL_law_520 (by decide) rfl dL_law_521 rfl dL_law_522 (by omega) hL rfl ?_
  refine l_call (n := 526) (st := []) [.int (xs (i + 1)), .int (xs (i + 2)), .int (xs (i + 3)), .int (xs (i + 4)), .int (xs (i + 5))] dL_law_523 (M_X4_day G (xs (i + 1)) (xs (i + 2)) (xs (i + 3)) (xs (i + 4)) (xs (i + 5)) μ (r, μ1) h1) cal_X4_day mw448 (show isO 0 4 from rfl) rfl rfl (Nat.le_of_ble_eq_true rfl) ⟨Nat.le_of_ble_eq_true rfl, Nat.le_of_ble_eq_true rfl⟩ rfl ?_
  refine l_al2 (n := 527) dL_law_526 rfl ?_
  refine l_arg (p1 := 528) (p2 := 529) (p3 := 530) (p4 := 531) (n := 532) 1 dL_law_527 rfl dL_law_528 rfl dL_law_529 (by decide) rfl dL_law_530 rfl dL_law_531 (by omega) hL rfl ?_
  refine l_arg (p1 := 533) (p2 := 534) (p3 := 535) (p4 := 536) (n := 537) 2 dL_law_532 rfl dL_law_533 rfl dL_law_534 (by decide) rfl dL_law_535 rfl dL_law_536 (by omega) hL rfl ?_
  refine l_arg (p1 := 538) (p2 := 539) (p3 := 540) (p4 := 541) (n := 542) 3 dL_law_537 rfl dL_law_538 rfl dL_law_539 (by decide) rfl dL_law_540 rfl dL_law_541 (by omega) hL rfl ?_
  refine l_arg (p1 := 543) (p2 := 544) (p3 := 545) (p4 := 546) (n := 547) 4 dL_law_542 rfl dL_law_543 rfl dL_law_544 (by decide) rfl dL_law_545 rfl dL_law_546 (by omega) hL rfl ?_
  refine l_arg (p1 := 548) (p2 := 549) (p3 := 550) (p4 := 551) (n := 552) 5 dL_law_547 rfl dL_law_548 rfl dL_law_549 (by decide) rfl dL_law_550 rfl dL_law_551 (by omega) hL rfl ?_
  refine l_call (n := 555) (st := [.int r]) [.int (xs (i + 1)), .int (xs (i + 2)), .int (xs (i + 3)), .int (xs (i + 4)), .int (xs (i + 5))] dL_law_552 (M_X5_day G (xs (i + 1)) (xs (i + 2)) (xs (i + 3)) (xs (i + 4)) (xs (i + 5)) μ1 (r, μ2) h2) cal_X5_day mw451 (show isO 43 5 from rfl) rfl rfl (Nat.le_of_ble_eq_true rfl) ⟨Nat.le_of_ble_eq_true rfl, Nat.le_of_ble_eq_true rfl⟩ rfl ?_
  refine l_eqI (tgt := 1076) dL_law_555 (by decide) ?_
  exact l_next (hk μ2 hI)
set_option maxRecDepth 100000 in
set_option maxHeartbeats 4000000 in
theorem l_case10 {I : Mem → Prop} {G : GG} {b L : Nat} {xs : Nat → Int32} {nc ns i : Nat} {μ : Mem} (hL : L ≤ 3072) (hi : i + 6 ≤ L) (hs : (∀ (a1 : Int32) (μ : Mem), I μ → ∃ (r : Int32) (μ1 μ2 : Mem), f_X4_by a1 μ = some (r, μ1) ∧ f_X5_by a1 μ1 = some (r, μ2) ∧ I μ2)) (hI : I μ) (hk : ∀ ν, I ν → LW G b L xs nc ns (i + 6) 18 [] ν) : LW G b L xs nc ns i 560 [] μ := by
  obtain ⟨r, μ1, μ2, h1, h2, hI⟩ := hs (xs (i + 1)) μ hI
  refine l_al1 (n := 561) dL_law_560 rfl ?_
  refine l_arg (p1 := 562) (p2 := 563) (p3 := 564) (p4 := 565) (n := 566) 1 dL_law_561 rfl dL_law_562 rfl dL_law_563 (by decide) rfl dL_law_564 rfl dL_law_565 (by omega) hL rfl ?_
  refine l_call (n := 569) (st := []) [.int (xs (i + 1))] dL_law_566 (M_X4_by G (xs (i + 1)) μ (r, μ1) h1) cal_X4_by mw454 (show isO 0 4 from rfl) rfl rfl (Nat.le_of_ble_eq_true rfl) ⟨Nat.le_of_ble_eq_true rfl, Nat.le_of_ble_eq_true rfl⟩ rfl ?_
  refine l_al2 (n := 570) dL_law_569 rfl ?_
  refine l_arg (p1 := 571) (p2 := 572) (p3 := 573) (p4 := 574) (n := 575) 1 dL_law_570 rfl dL_law_571 rfl dL_law_572 (by decide) rfl dL_law_573 rfl dL_law_574 (by omega) hL rfl ?_
  refine l_call (n := 578) (st := [.int r]) [.int (xs (i + 1))] dL_law_575 (M_X5_by G (xs (i + 1)) μ1 (r, μ2) h2) cal_X5_by mw457 (show isO 43 5 from rfl) rfl rfl (Nat.le_of_ble_eq_true rfl) ⟨Nat.le_of_ble_eq_true rfl, Nat.le_of_ble_eq_true rfl⟩ rfl ?_
  refine l_eqI (tgt := 1076) dL_law_578 (by decide) ?_
  exact l_next (hk μ2 hI)
set_option maxRecDepth 100000 in
set_option maxHeartbeats 4000000 in
theorem l_case11 {I : Mem → Prop} {G : GG} {b L : Nat} {xs : Nat → Int32} {nc ns i : Nat} {μ : Mem} (hL : L ≤ 3072) (hi : i + 6 ≤ L) (hs : (∀ (μ : Mem), I μ → ∃ (r : Int32) (μ1 μ2 : Mem), f_X4_enough μ = some (r, μ1) ∧ f_X5_enough μ1 = some (r, μ2) ∧ I μ2)) (hI : I μ) (hk : ∀ ν, I ν → LW G b L xs nc ns (i + 6) 18 [] ν) : LW G b L xs nc ns i 583 [] μ := by
  obtain ⟨r, μ1, μ2, h1, h2, hI⟩ := hs  μ hI
  refine l_al1 (n := 584) dL_law_583 rfl ?_
  refine l_call (n := 587) (st := []) [] dL_law_584 (M_X4_enough G  μ (r, μ1) h1) cal_X4_enough mw460 (show isO 0 4 from rfl) rfl rfl (Nat.le_of_ble_eq_true rfl) ⟨Nat.le_of_ble_eq_true rfl, Nat.le_of_ble_eq_true rfl⟩ rfl ?_
  refine l_al2 (n := 588) dL_law_587 rfl ?_
  refine l_call (n := 591) (st := [.int r]) [] dL_law_588 (M_X5_enough G  μ1 (r, μ2) h2) cal_X5_enough mw463 (show isO 43 5 from rfl) rfl rfl (Nat.le_of_ble_eq_true rfl) ⟨Nat.le_of_ble_eq_true rfl, Nat.le_of_ble_eq_true rfl⟩ rfl ?_
  refine l_eqI (tgt := 1076) dL_law_591 (by decide) ?_
  exact l_next (hk μ2 hI)
set_option maxRecDepth 100000 in
set_option maxHeartbeats 4000000 in
theorem l_case12 {I : Mem → Prop} {G : GG} {b L : Nat} {xs : Nat → Int32} {nc ns i : Nat} {μ : Mem} (hL : L ≤ 3072) (hi : i + 6 ≤ L) (hs : (∀ (a1 a2 : Int32) (μ : Mem), I μ → ∃ (r : Int32) (μ1 μ2 : Mem), f_X4_reading a1 a2 μ = some (r, μ1) ∧ f_X5_reading a1 a2 μ1 = some (r, μ2) ∧ I μ2)) (hI : I μ) (hk : ∀ ν, I ν → LW G b L xs nc ns (i + 6) 18 [] ν) : LW G b L xs nc ns i 596 [] μ := by
  obtain ⟨r, μ1, μ2, h1, h2, hI⟩ := hs (xs (i + 1)) (xs (i + 2)) μ hI
  refine l_al1 (n := 597) dL_law_596 rfl ?_
  refine l_arg (p1 := 598) (p2 := 599) (p3 := 600) (p4 := 601) (n := 602) 1 dL_law_597 rfl dL_law_598 rfl dL_law_599 (by decide) rfl dL_law_600 rfl dL_law_601 (by omega) hL rfl ?_
  refine l_arg (p1 := 603) (p2 := 604) (p3 := 605) (p4 := 606) (n := 607) 2 dL_law_602 rfl dL_law_603 rfl dL_law_604 (by decide) rfl dL_law_605 rfl dL_law_606 (by omega) hL rfl ?_
  refine l_call (n := 610) (st := []) [.int (xs (i + 1)), .int (xs (i + 2))] dL_law_607 (M_X4_reading G (xs (i + 1)) (xs (i + 2)) μ (r, μ1) h1) cal_X4_reading mw466 (show isO 0 4 from rfl) rfl rfl (Nat.le_of_ble_eq_true rfl) ⟨Nat.le_of_ble_eq_true rfl, Nat.le_of_ble_eq_true rfl⟩ rfl ?_
  refine l_al2 (n := 611) dL_law_610 rfl ?_
  refine l_arg (p1 := 612) (p2 := 613) (p3 := 614) (p4 := 615) (n := 616) 1 dL_law_611 rfl dL_law_612 rfl dL_law_613 (by decide) rfl dL_law_614 rfl dL_law_615 (by omega) hL rfl ?_
  refine l_arg (p1 := 617) (p2 := 618) (p3 := 619) (p4 := 620) (n := 621) 2 dL_law_616 rfl dL_law_617 rfl dL_law_618 (by decide) rfl dL_law_619 rfl dL_law_620 (by omega) hL rfl ?_
  refine l_call (n := 624) (st := [.int r]) [.int (xs (i + 1)), .int (xs (i + 2))] dL_law_621 (M_X5_reading G (xs (i + 1)) (xs (i + 2)) μ1 (r, μ2) h2) cal_X5_reading mw469 (show isO 43 5 from rfl) rfl rfl (Nat.le_of_ble_eq_true rfl) ⟨Nat.le_of_ble_eq_true rfl, Nat.le_of_ble_eq_true rfl⟩ rfl ?_
  refine l_eqI (tgt := 1076) dL_law_624 (by decide) ?_
  exact l_next (hk μ2 hI)
set_option maxRecDepth 100000 in
set_option maxHeartbeats 4000000 in
theorem l_case13 {I : Mem → Prop} {G : GG} {b L : Nat} {xs : Nat → Int32} {nc ns i : Nat} {μ : Mem} (hL : L ≤ 3072) (hi : i + 6 ≤ L) (hs : (∀ (a1 : Int32) (μ : Mem), I μ → ∃ (r : Int32) (μ1 μ2 : Mem), f_X4_back a1 μ = some (r, μ1) ∧ f_X5_back a1 μ1 = some (r, μ2) ∧ I μ2)) (hI : I μ) (hk : ∀ ν, I ν → LW G b L xs nc ns (i + 6) 18 [] ν) : LW G b L xs nc ns i 629 [] μ := by
  obtain ⟨r, μ1, μ2, h1, h2, hI⟩ := hs (xs (i + 1)) μ hI
  refine l_al1 (n := 630) dL_law_629 rfl ?_
  refine l_arg (p1 := 631) (p2 := 632) (p3 := 633) (p4 := 634) (n := 635) 1 dL_law_630 rfl dL_law_631 rfl dL_law_632 (by decide) rfl dL_law_633 rfl dL_law_634 (by omega) hL rfl ?_
  refine l_call (n := 638) (st := []) [.int (xs (i + 1))] dL_law_635 (M_X4_back G (xs (i + 1)) μ (r, μ1) h1) cal_X4_back mw472 (show isO 0 4 from rfl) rfl rfl (Nat.le_of_ble_eq_true rfl) ⟨Nat.le_of_ble_eq_true rfl, Nat.le_of_ble_eq_true rfl⟩ rfl ?_
  refine l_al2 (n := 639) dL_law_638 rfl ?_
  refine l_arg (p1 := 640) (p2 := 641) (p3 := 642) (p4 := 643) (n := 644) 1 dL_law_639 rfl dL_law_640 rfl dL_law_641 (by decide) rfl dL_law_642 rfl dL_law_643 (by omega) hL rfl ?_
  refine l_call (n := 647) (st := [.int r]) [.int (xs (i + 1))] dL_law_644 (M_X5_back G (xs (i + 1)) μ1 (r, μ2) h2) cal_X5_back mw475 (show isO 43 5 from rfl) rfl rfl (Nat.le_of_ble_eq_true rfl) ⟨Nat.le_of_ble_eq_true rfl, Nat.le_of_ble_eq_true rfl⟩ rfl ?_
  refine l_eqI (tgt := 1076) dL_law_647 (by decide) ?_
  exact l_next (hk μ2 hI)
set_option maxRecDepth 100000 in
set_option maxHeartbeats 4000000 in
theorem l_case14 {I : Mem → Prop} {G : GG} {b L : Nat} {xs : Nat → Int32} {nc ns i : Nat} {μ : Mem} (hL : L ≤ 3072) (hi : i + 6 ≤ L) (hs : (∀ (a1 : Int32) (μ : Mem), I μ → ∃ (r : Int32) (μ1 μ2 : Mem), f_X4_kinds a1 μ = some (r, μ1) ∧ f_X5_kinds a1 μ1 = some (r, μ2) ∧ I μ2)) (hI : I μ) (hk : ∀ ν, I ν → LW G b L xs nc ns (i + 6) 18 [] ν) : LW G b L xs nc ns i 652 [] μ := by
  obtain ⟨r, μ1, μ2, h1, h2, hI⟩ := hs (xs (i + 1)) μ hI
  refine l_al1 (n := 653) dL_law_652 rfl ?_
  refine l_arg (p1 := 654) (p2 := 655) (p3 := 656) (p4 := 657) (n := 658) 1 dL_law_653 rfl dL_law_654 rfl dL_law_655 (by decide) rfl dL_law_656 rfl dL_law_657 (by omega) hL rfl ?_
  refine l_call (n := 661) (st := []) [.int (xs (i + 1))] dL_law_658 (M_X4_kinds G (xs (i + 1)) μ (r, μ1) h1) cal_X4_kinds mw478 (show isO 0 4 from rfl) rfl rfl (Nat.le_of_ble_eq_true rfl) ⟨Nat.le_of_ble_eq_true rfl, Nat.le_of_ble_eq_true rfl⟩ rfl ?_
  refine l_al2 (n := 662) dL_law_661 rfl ?_
  refine l_arg (p1 := 663) (p2 := 664) (p3 := 665) (p4 := 666) (n := 667) 1 dL_law_662 rfl dL_law_663 rfl dL_law_664 (by decide) rfl dL_law_665 rfl dL_law_666 (by omega) hL rfl ?_
  refine l_call (n := 670) (st := [.int r]) [.int (xs (i + 1))] dL_law_667 (M_X5_kinds G (xs (i + 1)) μ1 (r, μ2) h2) cal_X5_kinds mw481 (show isO 43 5 from rfl) rfl rfl (Nat.le_of_ble_eq_true rfl) ⟨Nat.le_of_ble_eq_true rfl, Nat.le_of_ble_eq_true rfl⟩ rfl ?_
  refine l_eqI (tgt := 1076) dL_law_670 (by decide) ?_
  exact l_next (hk μ2 hI)
set_option maxRecDepth 100000 in
set_option maxHeartbeats 4000000 in
theorem l_case15 {I : Mem → Prop} {G : GG} {b L : Nat} {xs : Nat → Int32} {nc ns i : Nat} {μ : Mem} (hL : L ≤ 3072) (hi : i + 6 ≤ L) (hs : (∀ (a1 : Int32) (μ : Mem), I μ → ∃ (r : Int32) (μ1 μ2 : Mem), f_X4_letterings a1 μ = some (r, μ1) ∧ f_X5_letterings a1 μ1 = some (r, μ2) ∧ I μ2)) (hI : I μ) (hk : ∀ ν, I ν → LW G b L xs nc ns (i + 6) 18 [] ν) : LW G b L xs nc ns i 675 [] μ := by
  obtain ⟨r, μ1, μ2, h1, h2, hI⟩ := hs (xs (i + 1)) μ hI
  refine l_al1 (n := 676) dL_law_675 rfl ?_
  refine l_arg (p1 := 677) (p2 := 678) (p3 := 679) (p4 := 680) (n := 681) 1 dL_law_676 rfl dL_law_677 rfl dL_law_678 (by decide) rfl dL_law_679 rfl dL_law_680 (by omega) hL rfl ?_
  refine l_call (n := 684) (st := []) [.int (xs (i + 1))] dL_law_681 (M_X4_letterings G (xs (i + 1)) μ (r, μ1) h1) cal_X4_letterings mw484 (show isO 0 4 from rfl) rfl rfl (Nat.le_of_ble_eq_true rfl) ⟨Nat.le_of_ble_eq_true rfl, Nat.le_of_ble_eq_true rfl⟩ rfl ?_
  refine l_al2 (n := 685) dL_law_684 rfl ?_
  refine l_arg (p1 := 686) (p2 := 687) (p3 := 688) (p4 := 689) (n := 690) 1 dL_law_685 rfl dL_law_686 rfl dL_law_687 (by decide) rfl dL_law_688 rfl dL_law_689 (by omega) hL rfl ?_
  refine l_call (n := 693) (st := [.int r]) [.int (xs (i + 1))] dL_law_690 (M_X5_letterings G (xs (i + 1)) μ1 (r, μ2) h2) cal_X5_letterings mw487 (show isO 43 5 from rfl) rfl rfl (Nat.le_of_ble_eq_true rfl) ⟨Nat.le_of_ble_eq_true rfl, Nat.le_of_ble_eq_true rfl⟩ rfl ?_
  refine l_eqI (tgt := 1076) dL_law_693 (by decide) ?_
  exact l_next (hk μ2 hI)
set_option maxRecDepth 100000 in
set_option maxHeartbeats 4000000 in
theorem l_case16 {I : Mem → Prop} {G : GG} {b L : Nat} {xs : Nat → Int32} {nc ns i : Nat} {μ : Mem} (hL : L ≤ 3072) (hi : i + 6 ≤ L) (hs : (∀ (a1 a2 : Int32) (μ : Mem), I μ → ∃ (r : Int64) (μ1 μ2 : Mem), f_X4_odds a1 a2 μ = some (r, μ1) ∧ f_X5_odds a1 a2 μ1 = some (r, μ2) ∧ I μ2)) (hI : I μ) (hk : ∀ ν, I ν → LW G b L xs nc ns (i + 6) 18 [] ν) : LW G b L xs nc ns i 698 [] μ := by
  obtain ⟨r, μ1, μ2, h1, h2, hI⟩ := hs (xs (i + 1)) (xs (i + 2)) μ hI
  refine l_al1 (n := 699) dL_law_698 rfl ?_
  refine l_arg (p1 := 700) (p2 := 701) (p3 := 702) (p4 := 703) (n := 704) 1 dL_law_699 rfl dL_law_700 rfl dL_law_701 (by decide) rfl dL_law_702 rfl dL_law_703 (by omega) hL rfl ?_
  refine l_arg (p1 := 705) (p2 := 706) (p3 := 707) (p4 := 708) (n := 709) 2 dL_law_704 rfl dL_law_705 rfl dL_law_706 (by decide) rfl dL_law_707 rfl dL_law_708 (by omega) hL rfl ?_
  refine l_call (n := 712) (st := []) [.int (xs (i + 1)), .int (xs (i + 2))] dL_law_709 (M_X4_odds G (xs (i + 1)) (xs (i + 2)) μ (r, μ1) h1) cal_X4_odds mw490 (show isO 0 4 from rfl) rfl rfl (Nat.le_of_ble_eq_true rfl) ⟨Nat.le_of_ble_eq_true rfl, Nat.le_of_ble_eq_true rfl⟩ rfl ?_
  refine l_al2 (n := 713) dL_law_712 rfl ?_
  refine l_arg (p1 := 714) (p2 := 715) (p3 := 716) (p4 := 717) (n := 718) 1 dL_law_713 rfl dL_law_714 rfl dL_law_715 (by decide) rfl dL_law_716 rfl dL_law_717 (by omega) hL rfl ?_
  refine l_arg (p1 := 719) (p2 := 720) (p3 := 721) (p4 := 722) (n := 723) 2 dL_law_718 rfl dL_law_719 rfl dL_law_720 (by decide) rfl dL_law_721 rfl dL_law_722 (by omega) hL rfl ?_
  refine l_call (n := 726) (st := [.long r]) [.int (xs (i + 1)), .int (xs (i + 2))] dL_law_723 (M_X5_odds G (xs (i + 1)) (xs (i + 2)) μ1 (r, μ2) h2) cal_X5_odds mw493 (show isO 43 5 from rfl) rfl rfl (Nat.le_of_ble_eq_true rfl) ⟨Nat.le_of_ble_eq_true rfl, Nat.le_of_ble_eq_true rfl⟩ rfl ?_
  refine l_eqL (p1 := 727) (tgt := 1076) dL_law_726 rfl dL_law_727 (by decide) ?_
  exact l_next (hk μ2 hI)
set_option maxRecDepth 100000 in
set_option maxHeartbeats 4000000 in
theorem l_case17 {I : Mem → Prop} {G : GG} {b L : Nat} {xs : Nat → Int32} {nc ns i : Nat} {μ : Mem} (hL : L ≤ 3072) (hi : i + 6 ≤ L) (hs : (∀ (a1 a2 a3 : Int32) (μ : Mem), I μ → ∃ (r : Int32) (μ1 μ2 : Mem), f_X4_sheet a1 a2 a3 μ = some (r, μ1) ∧ f_X5_sheet a1 a2 a3 μ1 = some (r, μ2) ∧ I μ2)) (hI : I μ) (hk : ∀ ν, I ν → LW G b L xs nc ns (i + 6) 18 [] ν) : LW G b L xs nc ns i 732 [] μ := by
  obtain ⟨r, μ1, μ2, h1, h2, hI⟩ := hs (xs (i + 1)) (xs (i + 2)) (xs (i + 3)) μ hI
  refine l_al1 (n := 733) dL_law_732 rfl ?_
  refine l_arg (p1 := 734) (p2 := 735) (p3 := 736) (p4 := 737) (n := 738) 1 dL_law_733 rfl dL_law_734 rfl dL_law_735 (by decide) rfl dL_law_736 rfl dL_law_737 (by omega) hL rfl ?_
  refine l_arg (p1 := 739) (p2 := 740) (p3 := 741) (p4 := 742) (n := 743) 2 dL_law_738 rfl dL_law_739 rfl dL_law_740 (by decide) rfl dL_law_741 rfl dL_law_742 (by omega) hL rfl ?_
  refine l_arg (p1 := 744) (p2 := 745) (p3 := 746) (p4 := 747) (n := 748) 3 dL_law_743 rfl dL_law_744 rfl dL_law_745 (by decide) rfl dL_law_746 rfl dL_law_747 (by omega) hL rfl ?_
  refine l_call (n := 751) (st := []) [.int (xs (i + 1)), .int (xs (i + 2)), .int (xs (i + 3))] dL_law_748 (M_X4_sheet G (xs (i + 1)) (xs (i + 2)) (xs (i + 3)) μ (r, μ1) h1) cal_X4_sheet mw496 (show isO 0 4 from rfl) rfl rfl (Nat.le_of_ble_eq_true rfl) ⟨Nat.le_of_ble_eq_true rfl, Nat.le_of_ble_eq_true rfl⟩ rfl ?_
  refine l_al2 (n := 752) dL_law_751 rfl ?_
  refine l_arg (p1 := 753) (p2 := 754) (p3 := 755) (p4 := 756) (n := 757) 1 dL_law_752 rfl dL_law_753 rfl dL_law_754 (by decide) rfl dL_law_755 rfl dL_law_756 (by omega) hL rfl ?_
  refine l_arg (p1 := 758) (p2 := 759) (p3 := 760) (p4 := 761) (n := 762) 2 dL_law_757 rfl dL_law_758 rfl dL_law_759 (by decide) rfl dL_law_760 rfl dL_law_761 (by omega) hL rfl ?_
  refine l_arg (p1 := 763) (p2 := 764) (p3 := 765) (p4 := 766) (n := 767) 3 dL_law_762 rfl dL_law_763 rfl dL_law_764 (by decide) rfl dL_law_765 rfl dL_law_766 (by omega) hL rfl ?_
  refine l_call (n := 770) (st := [.int r]) [.int (xs (i + 1)), .int (xs (i + 2)), .int (xs (i + 3))] dL_law_767 (M_X5_sheet G (xs (i + 1)) (xs (i + 2)) (xs (i + 3)) μ1 (r, μ2) h2) cal_X5_sheet mw499 (show isO 43 5 from rfl) rfl rfl (Nat.le_of_ble_eq_true rfl) ⟨Nat.le_of_ble_eq_true rfl, Nat.le_of_ble_eq_true rfl⟩ rfl ?_
  refine l_eqI (tgt := 1076) dL_law_770 (by decide) ?_
  exact l_next (hk μ2 hI)
set_option maxRecDepth 100000 in
set_option maxHeartbeats 4000000 in
theorem l_case18 {I : Mem → Prop} {G : GG} {b L : Nat} {xs : Nat → Int32} {nc ns i : Nat} {μ : Mem} (hL : L ≤ 3072) (hi : i + 6 ≤ L) (hs : (∀ (a1 : Int32) (μ : Mem), I μ → ∃ (r : Int32) (μ1 μ2 : Mem), f_X4_lose a1 μ = some (r, μ1) ∧ f_X5_lose a1 μ1 = some (r, μ2) ∧ I μ2)) (hI : I μ) (hk : ∀ ν, I ν → LW G b L xs nc ns (i + 6) 18 [] ν) : LW G b L xs nc ns i 775 [] μ := by
  obtain ⟨r, μ1, μ2, h1, h2, hI⟩ := hs (xs (i + 1)) μ hI
  refine l_al1 (n := 776) dL_law_775 rfl ?_
  refine l_arg (p1 := 777) (p2 := 778) (p3 := 779) (p4 := 780) (n := 781) 1 dL_law_776 rfl dL_law_777 rfl dL_law_778 (by decide) rfl dL_law_779 rfl dL_law_780 (by omega) hL rfl ?_
  refine l_call (n := 784) (st := []) [.int (xs (i + 1))] dL_law_781 (M_X4_lose G (xs (i + 1)) μ (r, μ1) h1) cal_X4_lose mw502 (show isO 0 4 from rfl) rfl rfl (Nat.le_of_ble_eq_true rfl) ⟨Nat.le_of_ble_eq_true rfl, Nat.le_of_ble_eq_true rfl⟩ rfl ?_
  refine l_al2 (n := 785) dL_law_784 rfl ?_
  refine l_arg (p1 := 786) (p2 := 787) (p3 := 788) (p4 := 789) (n := 790) 1 dL_law_785 rfl dL_law_786 rfl dL_law_787 (by decide) rfl dL_law_788 rfl dL_law_789 (by omega) hL rfl ?_
  refine l_call (n := 793) (st := [.int r]) [.int (xs (i + 1))] dL_law_790 (M_X5_lose G (xs (i + 1)) μ1 (r, μ2) h2) cal_X5_lose mw505 (show isO 43 5 from rfl) rfl rfl (Nat.le_of_ble_eq_true rfl) ⟨Nat.le_of_ble_eq_true rfl, Nat.le_of_ble_eq_true rfl⟩ rfl ?_
  refine l_eqI (tgt := 1076) dL_law_793 (by decide) ?_
  exact l_next (hk μ2 hI)
set_option maxRecDepth 100000 in
set_option maxHeartbeats 4000000 in
theorem l_case19 {I : Mem → Prop} {G : GG} {b L : Nat} {xs : Nat → Int32} {nc ns i : Nat} {μ : Mem} (hL : L ≤ 3072) (hi : i + 6 ≤ L) (hs : (∀ (a1 a2 a3 : Int32) (μ : Mem), I μ → ∃ (r : Int32) (μ1 μ2 : Mem), f_X4_put a1 a2 a3 μ = some (r, μ1) ∧ f_X5_put a1 a2 a3 μ1 = some (r, μ2) ∧ I μ2)) (hI : I μ) (hk : ∀ ν, I ν → LW G b L xs nc ns (i + 6) 18 [] ν) : LW G b L xs nc ns i 798 [] μ := by
  obtain ⟨r, μ1, μ2, h1, h2, hI⟩ := hs (xs (i + 1)) (xs (i + 2)) (xs (i + 3)) μ hI
  refine l_al1 (n := 799) dL_law_798 rfl ?_
  refine l_arg (p1 := 800) (p2 := 801) (p3 := 802) (p4 := 803) (n := 804) 1 dL_law_799 rfl dL_law_800 rfl dL_law_801 (by decide) rfl dL_law_802 rfl dL_law_803 (by omega) hL rfl ?_
  refine l_arg (p1 := 805) (p2 := 806) (p3 := 807) (p4 := 808) (n := 809) 2 dL_law_804 rfl dL_law_805 rfl dL_law_806 (by decide) rfl dL_law_807 rfl dL_law_808 (by omega) hL rfl ?_
  refine l_arg (p1 := 810) (p2 := 811) (p3 := 812) (p4 := 813) (n := 814) 3 dL_law_809 rfl dL_law_810 rfl dL_law_811 (by decide) rfl dL_law_812 rfl dL_law_813 (by omega) hL rfl ?_
  refine l_call (n := 817) (st := []) [.int (xs (i + 1)), .int (xs (i + 2)), .int (xs (i + 3))] dL_law_814 (M_X4_put G (xs (i + 1)) (xs (i + 2)) (xs (i + 3)) μ (r, μ1) h1) cal_X4_put mw508 (show isO 0 4 from rfl) rfl rfl (Nat.le_of_ble_eq_true rfl) ⟨Nat.le_of_ble_eq_true rfl, Nat.le_of_ble_eq_true rfl⟩ rfl ?_
  refine l_al2 (n := 818) dL_law_817 rfl ?_
  refine l_arg (p1 := 819) (p2 := 820) (p3 := 821) (p4 := 822) (n := 823) 1 dL_law_818 rfl dL_law_819 rfl dL_law_820 (by decide) rfl dL_law_821 rfl dL_law_822 (by omega) hL rfl ?_
  refine l_arg (p1 := 824) (p2 := 825) (p3 := 826) (p4 := 827) (n := 828) 2 dL_law_823 rfl dL_law_824 rfl dL_law_825 (by decide) rfl dL_law_826 rfl dL_law_827 (by omega) hL rfl ?_
  refine l_arg (p1 := 829) (p2 := 830) (p3 := 831) (p4 := 832) (n := 833) 3 dL_law_828 rfl dL_law_829 rfl dL_law_830 (by decide) rfl dL_law_831 rfl dL_law_832 (by omega) hL rfl ?_
  refine l_call (n := 836) (st := [.int r]) [.int (xs (i + 1)), .int (xs (i + 2)), .int (xs (i + 3))] dL_law_833 (M_X5_put G (xs (i + 1)) (xs (i + 2)) (xs (i + 3)) μ1 (r, μ2) h2) cal_X5_put mw511 (show isO 43 5 from rfl) rfl rfl (Nat.le_of_ble_eq_true rfl) ⟨Nat.le_of_ble_eq_true rfl, Nat.le_of_ble_eq_true rfl⟩ rfl ?_
  refine l_eqI (tgt := 1076) dL_law_836 (by decide) ?_
  exact l_next (hk μ2 hI)
set_option maxRecDepth 100000 in
set_option maxHeartbeats 4000000 in
theorem l_case20 {I : Mem → Prop} {G : GG} {b L : Nat} {xs : Nat → Int32} {nc ns i : Nat} {μ : Mem} (hL : L ≤ 3072) (hi : i + 6 ≤ L) (hs : (∀ (a1 a2 a3 : Int32) (μ : Mem), I μ → ∃ (r : Int64) (μ1 μ2 : Mem), f_X4_cell a1 a2 a3 μ = some (r, μ1) ∧ f_X5_cell a1 a2 a3 μ1 = some (r, μ2) ∧ I μ2)) (hI : I μ) (hk : ∀ ν, I ν → LW G b L xs nc ns (i + 6) 18 [] ν) : LW G b L xs nc ns i 841 [] μ := by
  obtain ⟨r, μ1, μ2, h1, h2, hI⟩ := hs (xs (i + 1)) (xs (i + 2)) (xs (i + 3)) μ hI
  refine l_al1 (n := 842) dL_law_841 rfl ?_
  refine l_arg (p1 := 843) (p2 := 844) (p3 := 845) (p4 := 846) (n := 847) 1 dL_law_842 rfl dL_law_843 rfl dL_law_844 (by decide) rfl dL_law_845 rfl dL_law_846 (by omega) hL rfl ?_
  refine l_arg (p1 := 848) (p2 := 849) (p3 := 850) (p4 := 851) (n := 852) 2 dL_law_847 rfl dL_law_848 rfl dL_law_849 (by decide) rfl dL_law_850 rfl dL_law_851 (by omega) hL rfl ?_
  refine l_arg (p1 := 853) (p2 := 854) (p3 := 855) (p4 := 856) (n := 857) 3 dL_law_852 rfl dL_law_853 rfl dL_law_854 (by decide) rfl dL_law_855 rfl dL_law_856 (by omega) hL rfl ?_
  refine l_call (n := 860) (st := []) [.int (xs (i + 1)), .int (xs (i + 2)), .int (xs (i + 3))] dL_law_857 (M_X4_cell G (xs (i + 1)) (xs (i + 2)) (xs (i + 3)) μ (r, μ1) h1) cal_X4_cell mw514 (show isO 0 4 from rfl) rfl rfl (Nat.le_of_ble_eq_true rfl) ⟨Nat.le_of_ble_eq_true rfl, Nat.le_of_ble_eq_true rfl⟩ rfl ?_
  refine l_al2 (n := 861) dL_law_860 rfl ?_
  refine l_arg (p1 := 862) (p2 := 863) (p3 := 864) (p4 := 865) (n := 866) 1 dL_law_861 rfl dL_law_862 rfl dL_law_863 (by decide) rfl dL_law_864 rfl dL_law_865 (by omega) hL rfl ?_
  refine l_arg (p1 := 867) (p2 := 868) (p3 := 869) (p4 := 870) (n := 871) 2 dL_law_866 rfl dL_law_867 rfl dL_law_868 (by decide) rfl dL_law_869 rfl dL_law_870 (by omega) hL rfl ?_
  refine l_arg (p1 := 872) (p2 := 873) (p3 := 874) (p4 := 875) (n := 876) 3 dL_law_871 rfl dL_law_872 rfl dL_law_873 (by decide) rfl dL_law_874 rfl dL_law_875 (by omega) hL rfl ?_
  refine l_call (n := 879) (st := [.long r]) [.int (xs (i + 1)), .int (xs (i + 2)), .int (xs (i + 3))] dL_law_876 (M_X5_cell G (xs (i + 1)) (xs (i + 2)) (xs (i + 3)) μ1 (r, μ2) h2) cal_X5_cell mw517 (show isO 43 5 from rfl) rfl rfl (Nat.le_of_ble_eq_true rfl) ⟨Nat.le_of_ble_eq_true rfl, Nat.le_of_ble_eq_true rfl⟩ rfl ?_
  refine l_eqL (p1 := 880) (tgt := 1076) dL_law_879 rfl dL_law_880 (by decide) ?_
  exact l_next (hk μ2 hI)
set_option maxRecDepth 100000 in
set_option maxHeartbeats 4000000 in
theorem l_case21 {I : Mem → Prop} {G : GG} {b L : Nat} {xs : Nat → Int32} {nc ns i : Nat} {μ : Mem} (hL : L ≤ 3072) (hi : i + 6 ≤ L) (hs : (∀ (a1 a2 a3 a4 a5 : Int32) (μ : Mem), I μ → ∃ (r : Int32) (μ1 μ2 : Mem), f_X4_copy a1 a2 a3 a4 a5 μ = some (r, μ1) ∧ f_X5_copy a1 a2 a3 a4 a5 μ1 = some (r, μ2) ∧ I μ2)) (hI : I μ) (hk : ∀ ν, I ν → LW G b L xs nc ns (i + 6) 18 [] ν) : LW G b L xs nc ns i 885 [] μ := by
  obtain ⟨r, μ1, μ2, h1, h2, hI⟩ := hs (xs (i + 1)) (xs (i + 2)) (xs (i + 3)) (xs (i + 4)) (xs (i + 5)) μ hI
  refine l_al1 (n := 886) dL_law_885 rfl ?_
  refine l_arg (p1 := 887) (p2 := 888) (p3 := 889) (p4 := 890) (n := 891) 1 dL_law_886 rfl dL_law_887 rfl dL_law_888 (by decide) rfl dL_law_889 rfl dL_law_890 (by omega) hL rfl ?_
  refine l_arg (p1 := 892) (p2 := 893) (p3 := 894) (p4 := 895) (n := 896) 2 dL_law_891 rfl dL_law_892 rfl dL_law_893 (by decide) rfl dL_law_894 rfl dL_law_895 (by omega) hL rfl ?_
  refine l_arg (p1 := 897) (p2 := 898) (p3 := 899) (p4 := 900) (n := 901) 3 dL_law_896 rfl dL_law_897 rfl dL_law_898 (by decide) rfl dL_law_899 rfl dL_law_900 (by omega) hL rfl ?_
  refine l_arg (p1 := 902) (p2 := 903) (p3 := 904) (p4 := 905) (n := 906) 4 dL_law_901 rfl dL_law_902 rfl dL_law_903 (by decide) rfl dL_law_904 rfl dL_law_905 (by omega) hL rfl ?_
  refine l_arg (p1 := 907) (p2 := 908) (p3 := 909) (p4 := 910) (n := 911) 5 dL_law_906 rfl dL_law_907 rfl dL_law_908 (by decide) rfl dL_law_909 rfl dL_law_910 (by omega) hL rfl ?_
  refine l_call (n := 914) (st := []) [.int (xs (i + 1)), .int (xs (i + 2)), .int (xs (i + 3)), .int (xs (i + 4)), .int (xs (i + 5))] dL_law_911 (M_X4_copy G (xs (i + 1)) (xs (i + 2)) (xs (i + 3)) (xs (i + 4)) (xs (i + 5)) μ (r, μ1) h1) cal_X4_copy mw520 (show isO 0 4 from rfl) rfl rfl (Nat.le_of_ble_eq_true rfl) ⟨Nat.le_of_ble_eq_true rfl, Nat.le_of_ble_eq_true rfl⟩ rfl ?_
  refine l_al2 (n := 915) dL_law_914 rfl ?_
  refine l_arg (p1 := 916) (p2 := 917) (p3 := 918) (p4 := 919) (n := 920) 1 dL_law_915 rfl dL_law_916 rfl dL_law_917 (by decide) rfl dL_law_918 rfl dL_law_919 (by omega) hL rfl ?_
  refine l_arg (p1 := 921) (p2 := 922) (p3 := 923) (p4 := 924) (n := 925) 2 dL_law_920 rfl dL_law_921 rfl dL_law_922 (by decide) rfl dL_law_923 rfl dL_law_924 (by omega) hL rfl ?_
  refine l_arg (p1 := 926) (p2 := 927) (p3 := 928) (p4 := 929) (n := 930) 3 dL_law_925 rfl dL_law_926 rfl dL_law_927 (by decide) rfl dL_law_928 rfl dL_law_929 (by omega) hL rfl ?_
  refine l_arg (p1 := 931) (p2 := 932) (p3 := 933) (p4 := 934) (n := 935) 4 dL_law_930 rfl dL_law_931 rfl dL_law_932 (by decide) rfl dL_law_933 rfl dL_law_934 (by omega) hL rfl ?_
  refine l_arg (p1 := 936) (p2 := 937) (p3 := 938) (p4 := 939) (n := 940) 5 dL_law_935 rfl dL_law_936 rfl dL_law_937 (by decide) rfl dL_law_938 rfl dL_law_939 (by omega) hL rfl ?_
  refine l_call (n := 943) (st := [.int r]) [.int (xs (i + 1)), .int (xs (i + 2)), .int (xs (i + 3)), .int (xs (i + 4)), .int (xs (i + 5))] dL_law_940 (M_X5_copy G (xs (i + 1)) (xs (i + 2)) (xs (i + 3)) (xs (i + 4)) (xs (i + 5)) μ1 (r, μ2) h2) cal_X5_copy mw523 (show isO 43 5 from rfl) rfl rfl (Nat.le_of_ble_eq_true rfl) ⟨Nat.le_of_ble_eq_true rfl, Nat.le_of_ble_eq_true rfl⟩ rfl ?_
  refine l_eqI (tgt := 1076) dL_law_943 (by decide) ?_
  exact l_next (hk μ2 hI)
set_option maxRecDepth 100000 in
set_option maxHeartbeats 4000000 in
theorem l_case22 {I : Mem → Prop} {G : GG} {b L : Nat} {xs : Nat → Int32} {nc ns i : Nat} {μ : Mem} (hL : L ≤ 3072) (hi : i + 6 ≤ L) (hs : (∀ (a1 : Int32) (μ : Mem), I μ → ∃ (r : Int32) (μ1 μ2 : Mem), f_X4_tell a1 μ = some (r, μ1) ∧ f_X5_tell a1 μ1 = some (r, μ2) ∧ I μ2)) (hI : I μ) (hk : ∀ ν, I ν → LW G b L xs nc ns (i + 6) 18 [] ν) : LW G b L xs nc ns i 948 [] μ := by
  obtain ⟨r, μ1, μ2, h1, h2, hI⟩ := hs (xs (i + 1)) μ hI
  refine l_al1 (n := 949) dL_law_948 rfl ?_
  refine l_arg (p1 := 950) (p2 := 951) (p3 := 952) (p4 := 953) (n := 954) 1 dL_law_949 rfl dL_law_950 rfl dL_law_951 (by decide) rfl dL_law_952 rfl dL_law_953 (by omega) hL rfl ?_
  refine l_call (n := 957) (st := []) [.int (xs (i + 1))] dL_law_954 (M_X4_tell G (xs (i + 1)) μ (r, μ1) h1) cal_X4_tell mw526 (show isO 0 4 from rfl) rfl rfl (Nat.le_of_ble_eq_true rfl) ⟨Nat.le_of_ble_eq_true rfl, Nat.le_of_ble_eq_true rfl⟩ rfl ?_
  refine l_al2 (n := 958) dL_law_957 rfl ?_
  refine l_arg (p1 := 959) (p2 := 960) (p3 := 961) (p4 := 962) (n := 963) 1 dL_law_958 rfl dL_law_959 rfl dL_law_960 (by decide) rfl dL_law_961 rfl dL_law_962 (by omega) hL rfl ?_
  refine l_call (n := 966) (st := [.int r]) [.int (xs (i + 1))] dL_law_963 (M_X5_tell G (xs (i + 1)) μ1 (r, μ2) h2) cal_X5_tell mw529 (show isO 43 5 from rfl) rfl rfl (Nat.le_of_ble_eq_true rfl) ⟨Nat.le_of_ble_eq_true rfl, Nat.le_of_ble_eq_true rfl⟩ rfl ?_
  refine l_eqI (tgt := 1076) dL_law_966 (by decide) ?_
  exact l_next (hk μ2 hI)
set_option maxRecDepth 100000 in
set_option maxHeartbeats 4000000 in
theorem l_case23 {I : Mem → Prop} {G : GG} {b L : Nat} {xs : Nat → Int32} {nc ns i : Nat} {μ : Mem} (hL : L ≤ 3072) (hi : i + 6 ≤ L) (hs : (∀ (a1 : Int32) (μ : Mem), I μ → ∃ (r : Int32) (μ1 μ2 : Mem), f_X4_read a1 μ = some (r, μ1) ∧ f_X5_read a1 μ1 = some (r, μ2) ∧ I μ2)) (hI : I μ) (hk : ∀ ν, I ν → LW G b L xs nc ns (i + 6) 18 [] ν) : LW G b L xs nc ns i 971 [] μ := by
  obtain ⟨r, μ1, μ2, h1, h2, hI⟩ := hs (xs (i + 1)) μ hI
  refine l_al1 (n := 972) dL_law_971 rfl ?_
  refine l_arg (p1 := 973) (p2 := 974) (p3 := 975) (p4 := 976) (n := 977) 1 dL_law_972 rfl dL_law_973 rfl dL_law_974 (by decide) rfl dL_law_975 rfl dL_law_976 (by omega) hL rfl ?_
  refine l_call (n := 980) (st := []) [.int (xs (i + 1))] dL_law_977 (M_X4_read G (xs (i + 1)) μ (r, μ1) h1) cal_X4_read mw532 (show isO 0 4 from rfl) rfl rfl (Nat.le_of_ble_eq_true rfl) ⟨Nat.le_of_ble_eq_true rfl, Nat.le_of_ble_eq_true rfl⟩ rfl ?_
  refine l_al2 (n := 981) dL_law_980 rfl ?_
  refine l_arg (p1 := 982) (p2 := 983) (p3 := 984) (p4 := 985) (n := 986) 1 dL_law_981 rfl dL_law_982 rfl dL_law_983 (by decide) rfl dL_law_984 rfl dL_law_985 (by omega) hL rfl ?_
  refine l_call (n := 989) (st := [.int r]) [.int (xs (i + 1))] dL_law_986 (M_X5_read G (xs (i + 1)) μ1 (r, μ2) h2) cal_X5_read mw535 (show isO 43 5 from rfl) rfl rfl (Nat.le_of_ble_eq_true rfl) ⟨Nat.le_of_ble_eq_true rfl, Nat.le_of_ble_eq_true rfl⟩ rfl ?_
  refine l_eqI (tgt := 1076) dL_law_989 (by decide) ?_
  exact l_next (hk μ2 hI)
set_option maxRecDepth 100000 in
set_option maxHeartbeats 4000000 in
theorem l_case24 {I : Mem → Prop} {G : GG} {b L : Nat} {xs : Nat → Int32} {nc ns i : Nat} {μ : Mem} (hL : L ≤ 3072) (hi : i + 6 ≤ L) (hs : (∀ (a1 a2 : Int32) (μ : Mem), I μ → ∃ (r : Int32) (μ1 μ2 : Mem), f_X4_as a1 a2 μ = some (r, μ1) ∧ f_X5_as a1 a2 μ1 = some (r, μ2) ∧ I μ2)) (hI : I μ) (hk : ∀ ν, I ν → LW G b L xs nc ns (i + 6) 18 [] ν) : LW G b L xs nc ns i 994 [] μ := by
  obtain ⟨r, μ1, μ2, h1, h2, hI⟩ := hs (xs (i + 1)) (xs (i + 2)) μ hI
  refine l_al1 (n := 995) dL_law_994 rfl ?_
  refine l_arg (p1 := 996) (p2 := 997) (p3 := 998) (p4 := 999) (n := 1000) 1 dL_law_995 rfl dL_law_996 rfl dL_law_997 (by decide) rfl dL_law_998 rfl dL_law_999 (by omega) hL rfl ?_
  refine l_arg (p1 := 1001) (p2 := 1002) (p3 := 1003) (p4 := 1004) (n := 1005) 2 dL_law_1000 rfl dL_law_1001 rfl dL_law_1002 (by decide) rfl dL_law_1003 rfl dL_law_1004 (by omega) hL rfl ?_
  refine l_call (n := 1008) (st := []) [.int (xs (i + 1)), .int (xs (i + 2))] dL_law_1005 (M_X4_as G (xs (i + 1)) (xs (i + 2)) μ (r, μ1) h1) cal_X4_as mw538 (show isO 0 4 from rfl) rfl rfl (Nat.le_of_ble_eq_true rfl) ⟨Nat.le_of_ble_eq_true rfl, Nat.le_of_ble_eq_true rfl⟩ rfl ?_
  refine l_al2 (n := 1009) dL_law_1008 rfl ?_
  refine l_arg (p1 := 1010) (p2 := 1011) (p3 := 1012) (p4 := 1013) (n := 1014) 1 dL_law_1009 rfl dL_law_1010 rfl dL_law_1011 (by decide) rfl dL_law_1012 rfl dL_law_1013 (by omega) hL rfl ?_
  refine l_arg (p1 := 1015) (p2 := 1016) (p3 := 1017) (p4 := 1018) (n := 1019) 2 dL_law_1014 rfl dL_law_1015 rfl dL_law_1016 (by decide) rfl dL_law_1017 rfl dL_law_1018 (by omega) hL rfl ?_
  refine l_call (n := 1022) (st := [.int r]) [.int (xs (i + 1)), .int (xs (i + 2))] dL_law_1019 (M_X5_as G (xs (i + 1)) (xs (i + 2)) μ1 (r, μ2) h2) cal_X5_as mw541 (show isO 43 5 from rfl) rfl rfl (Nat.le_of_ble_eq_true rfl) ⟨Nat.le_of_ble_eq_true rfl, Nat.le_of_ble_eq_true rfl⟩ rfl ?_
  refine l_eqI (tgt := 1076) dL_law_1022 (by decide) ?_
  exact l_next (hk μ2 hI)
set_option maxRecDepth 100000 in
set_option maxHeartbeats 4000000 in
theorem l_case25 {I : Mem → Prop} {G : GG} {b L : Nat} {xs : Nat → Int32} {nc ns i : Nat} {μ : Mem} (hL : L ≤ 3072) (hi : i + 6 ≤ L) (hs : (∀ (μ : Mem), I μ → ∃ (r : Int32) (μ1 μ2 : Mem), f_X4_trace μ = some (r, μ1) ∧ f_X5_trace μ1 = some (r, μ2) ∧ I μ2)) (hI : I μ) (hk : ∀ ν, I ν → LW G b L xs nc ns (i + 6) 18 [] ν) : LW G b L xs nc ns i 1027 [] μ := by
  obtain ⟨r, μ1, μ2, h1, h2, hI⟩ := hs  μ hI
  refine l_al1 (n := 1028) dL_law_1027 rfl ?_
  refine l_call (n := 1031) (st := []) [] dL_law_1028 (M_X4_trace G  μ (r, μ1) h1) cal_X4_trace mw544 (show isO 0 4 from rfl) rfl rfl (Nat.le_of_ble_eq_true rfl) ⟨Nat.le_of_ble_eq_true rfl, Nat.le_of_ble_eq_true rfl⟩ rfl ?_
  refine l_al2 (n := 1032) dL_law_1031 rfl ?_
  refine l_call (n := 1035) (st := [.int r]) [] dL_law_1032 (M_X5_trace G  μ1 (r, μ2) h2) cal_X5_trace mw547 (show isO 43 5 from rfl) rfl rfl (Nat.le_of_ble_eq_true rfl) ⟨Nat.le_of_ble_eq_true rfl, Nat.le_of_ble_eq_true rfl⟩ rfl ?_
  refine l_eqI (tgt := 1076) dL_law_1035 (by decide) ?_
  exact l_next (hk μ2 hI)
set_option maxRecDepth 100000 in
set_option maxHeartbeats 4000000 in
theorem l_case26 {I : Mem → Prop} {G : GG} {b L : Nat} {xs : Nat → Int32} {nc ns i : Nat} {μ : Mem} (hL : L ≤ 3072) (hi : i + 6 ≤ L) (hs : (∀ (μ : Mem), I μ → ∃ (r : Int32) (μ1 μ2 : Mem), f_X4_fault μ = some (r, μ1) ∧ f_X5_fault μ1 = some (r, μ2) ∧ I μ2)) (hI : I μ) (hk : ∀ ν, I ν → LW G b L xs nc ns (i + 6) 18 [] ν) : LW G b L xs nc ns i 1040 [] μ := by
  obtain ⟨r, μ1, μ2, h1, h2, hI⟩ := hs  μ hI
  refine l_al1 (n := 1041) dL_law_1040 rfl ?_
  refine l_call (n := 1044) (st := []) [] dL_law_1041 (M_X4_fault G  μ (r, μ1) h1) cal_X4_fault mw550 (show isO 0 4 from rfl) rfl rfl (Nat.le_of_ble_eq_true rfl) ⟨Nat.le_of_ble_eq_true rfl, Nat.le_of_ble_eq_true rfl⟩ rfl ?_
  refine l_al2 (n := 1045) dL_law_1044 rfl ?_
  refine l_call (n := 1048) (st := [.int r]) [] dL_law_1045 (M_X5_fault G  μ1 (r, μ2) h2) cal_X5_fault mw553 (show isO 43 5 from rfl) rfl rfl (Nat.le_of_ble_eq_true rfl) ⟨Nat.le_of_ble_eq_true rfl, Nat.le_of_ble_eq_true rfl⟩ rfl ?_
  refine l_eqI (tgt := 1076) dL_law_1048 (by decide) ?_
  exact l_next (hk μ2 hI)
set_option maxRecDepth 100000 in
set_option maxHeartbeats 4000000 in
theorem l_case27 {I : Mem → Prop} {G : GG} {b L : Nat} {xs : Nat → Int32} {nc ns i : Nat} {μ : Mem} (hL : L ≤ 3072) (hi : i + 6 ≤ L) (hs : (∀ (a1 : Int32) (μ : Mem), I μ → ∃ (r : Int32) (μ1 μ2 : Mem), f_X4_many a1 μ = some (r, μ1) ∧ f_X5_many a1 μ1 = some (r, μ2) ∧ I μ2)) (hI : I μ) (hk : ∀ ν, I ν → LW G b L xs nc ns (i + 6) 18 [] ν) : LW G b L xs nc ns i 1053 [] μ := by
  obtain ⟨r, μ1, μ2, h1, h2, hI⟩ := hs (xs (i + 1)) μ hI
  refine l_al1 (n := 1054) dL_law_1053 rfl ?_
  refine l_arg (p1 := 1055) (p2 := 1056) (p3 := 1057) (p4 := 1058) (n := 1059) 1 dL_law_1054 rfl dL_law_1055 rfl dL_law_1056 (by decide) rfl dL_law_1057 rfl dL_law_1058 (by omega) hL rfl ?_
  refine l_call (n := 1062) (st := []) [.int (xs (i + 1))] dL_law_1059 (M_X4_many G (xs (i + 1)) μ (r, μ1) h1) cal_X4_many mw556 (show isO 0 4 from rfl) rfl rfl (Nat.le_of_ble_eq_true rfl) ⟨Nat.le_of_ble_eq_true rfl, Nat.le_of_ble_eq_true rfl⟩ rfl ?_
  refine l_al2 (n := 1063) dL_law_1062 rfl ?_
  refine l_arg (p1 := 1064) (p2 := 1065) (p3 := 1066) (p4 := 1067) (n := 1068) 1 dL_law_1063 rfl dL_law_1064 rfl dL_law_1065 (by decide) rfl dL_law_1066 rfl dL_law_1067 (by omega) hL rfl ?_
  refine l_call (n := 1071) (st := [.int r]) [.int (xs (i + 1))] dL_law_1068 (M_X5_many G (xs (i + 1)) μ1 (r, μ2) h2) cal_X5_many mw559 (show isO 43 5 from rfl) rfl rfl (Nat.le_of_ble_eq_true rfl) ⟨Nat.le_of_ble_eq_true rfl, Nat.le_of_ble_eq_true rfl⟩ rfl ?_
  refine l_eqI (tgt := 1076) dL_law_1071 (by decide) ?_
  exact l_next (hk μ2 hI)
set_option maxRecDepth 100000 in
set_option maxHeartbeats 4000000 in
theorem law_loop {I : Mem → Prop} (hs : Steps I) {G : GG} {b L : Nat} {xs : Nat → Int32} {nc ns : Nat} (hL : L ≤ 3072) : ∀ (n i : Nat) (μ : Mem), L + 6 - i < n → i ≤ L + 6 → I μ → LW G b L xs nc ns i 18 [] μ := by
  intro n
  induction n with
  | zero => intro i μ h; omega
  | succ n ih =>
    intro i μ hm hi hI p l e s m below meth c C H locs ls hP hS hl
    obtain ⟨hx, hb, hml, hown, hts, hlk, hre, hO, hB, hX, hbl, hnc, hns⟩ := id C
    refine lv_iload_n hx hb dL_law_18 rfl (lv_at hl 0 rfl) ?_
    refine lv_aload_n hx hb dL_law_19 rfl (lv_at hl 1 rfl) ?_
    refine va_slen hx hb hX hbl (by rw [gA, hB]; exact Nat.not_le.mpr hbl) hS dL_law_20 ?_
    refine lv_bipush (v := nI 6) hx hb dL_law_21 (by decide) ?_
    refine lv_isub hx hb dL_law_23 ?_
    refine lv_icmp_gt (tgt := 1082) hx hb dL_law_24 (by decide) (fun q => ?_) (fun q => ?_)
    · refine lv_iconst (v := 1) hx hb dL_law_1082 (by decide) ?_
      refine W.widen (k := 600000) (n := 7302250) hnc hns ?_
      refine va_forget (fun q hq => by have := hS.2.2 q hq; rw [gA, hB] at this; exact this) ?_
      exact lw_ret hx hb hre hlk dL_law_1083
    · have hi6 : i + 6 ≤ L := by
        rcases Nat.lt_or_ge L (i + 6) with z | z
        · refine absurd ?_ q
          show nI L - nI 6 < nI i
          rcases Nat.lt_or_ge L 6 with w | w
          · have h1 := pk_sneg (a := L) (b := 6) (by omega) w
            have h2 := nI_pos' (n := i) (by omega)
            exact Int32.lt_of_lt_of_le h1 h2
          · rw [pk_sub w]
            exact nI_lt (by omega) (by omega)
        · exact z
      have hk : ∀ ν, I ν → LW G b L xs nc ns (i + 6) 18 [] ν := fun ν hν => ih (i + 6) ν (by omega) (by omega) hν
      refine lv_aload_n hx hb dL_law_27 rfl (lv_at hl 1 rfl) ?_
      refine lv_iload_n hx hb dL_law_28 rfl (lv_at hl 0 rfl) ?_
      refine va_sld hx hb hX hbl (by rw [gA, hB]; exact Nat.not_le.mpr hbl) hS (vp_in_nI (by omega) (by omega)) dL_law_29 ?_
      refine lv_bipush (v := 31) hx hb dL_law_30 (by decide) ?_
      refine lv_iand hx hb dL_law_32 ?_
      obtain ⟨j, hj, ej⟩ := pk_andE (xs (nI i).toNatClampNeg) (m := 31) 5 (by decide)
      rw [ej]
      have key : ∀ (k tgt : Nat) (off : Int), k = j → k < 28 → (#[127, 180, 213, 246, 289, 322, 365, 388, 421, 464, 527, 550, 563, 596, 619, 642, 665, 699, 742, 765, 808, 852, 915, 938, 961, 994, 1007, 1020] : Array Int)[k]? = some off → ((33 : Nat) : Int) + off = (tgt : Int) → LW G b L xs nc ns i tgt [] μ → W p l e room_1 s m #[Value.ref b] below meth c H locs nc ns (lw_Z below #[Value.ref b] s) (F0 m 33 ls [.int (nI j)]) := by
        intro k tgt off e1 e2 e3 e4 h
        subst e1
        have ek : (nI k).toInt = (k : Int) := nI_toInt (by omega)
        refine lv_tableIn (tgt := tgt) (off := off) hx hb dL_law_33 (by rw [ek]; omega) (by rw [ek]; omega) ?_ e4 (h p l e s m below meth c C H locs ls hP hS hl)
        rw [ek]
        simpa using e3
      by_cases h28 : j < 28
      · match j, h28, key with
        | 0, _, key => exact key 0 160 127 rfl (by decide) rfl (by decide) (l_case0 hL hi6 hs.1 hI hk)
        | 1, _, key => exact key 1 213 180 rfl (by decide) rfl (by decide) (l_case1 hL hi6 hs.2.1 hI hk)
        | 2, _, key => exact key 2 246 213 rfl (by decide) rfl (by decide) (l_case2 hL hi6 hs.2.2.1 hI hk)
        | 3, _, key => exact key 3 279 246 rfl (by decide) rfl (by decide) (l_case3 hL hi6 hs.2.2.2.1 hI hk)
        | 4, _, key => exact key 4 322 289 rfl (by decide) rfl (by decide) (l_case4 hL hi6 hs.2.2.2.2.1 hI hk)
        | 5, _, key => exact key 5 355 322 rfl (by decide) rfl (by decide) (l_case5 hL hi6 hs.2.2.2.2.2.1 hI hk)
        | 6, _, key => exact key 6 398 365 rfl (by decide) rfl (by decide) (l_case6 hL hi6 hs.2.2.2.2.2.2.1 hI hk)
        | 7, _, key => exact key 7 421 388 rfl (by decide) rfl (by decide) (l_case7 hL hi6 hs.2.2.2.2.2.2.2.1 hI hk)
        | 8, _, key => exact key 8 454 421 rfl (by decide) rfl (by decide) (l_case8 hL hi6 hs.2.2.2.2.2.2.2.2.1 hI hk)
        | 9, _, key => exact key 9 497 464 rfl (by decide) rfl (by decide) (l_case9 hL hi6 hs.2.2.2.2.2.2.2.2.2.1 hI hk)
        | 10, _, key => exact key 10 560 527 rfl (by decide) rfl (by decide) (l_case10 hL hi6 hs.2.2.2.2.2.2.2.2.2.2.1 hI hk)
        | 11, _, key => exact key 11 583 550 rfl (by decide) rfl (by decide) (l_case11 hL hi6 hs.2.2.2.2.2.2.2.2.2.2.2.1 hI hk)
        | 12, _, key => exact key 12 596 563 rfl (by decide) rfl (by decide) (l_case12 hL hi6 hs.2.2.2.2.2.2.2.2.2.2.2.2.1 hI hk)
        | 13, _, key => exact key 13 629 596 rfl (by decide) rfl (by decide) (l_case13 hL hi6 hs.2.2.2.2.2.2.2.2.2.2.2.2.2.1 hI hk)
        | 14, _, key => exact key 14 652 619 rfl (by decide) rfl (by decide) (l_case14 hL hi6 hs.2.2.2.2.2.2.2.2.2.2.2.2.2.2.1 hI hk)
        | 15, _, key => exact key 15 675 642 rfl (by decide) rfl (by decide) (l_case15 hL hi6 hs.2.2.2.2.2.2.2.2.2.2.2.2.2.2.2.1 hI hk)
        | 16, _, key => exact key 16 698 665 rfl (by decide) rfl (by decide) (l_case16 hL hi6 hs.2.2.2.2.2.2.2.2.2.2.2.2.2.2.2.2.1 hI hk)
        | 17, _, key => exact key 17 732 699 rfl (by decide) rfl (by decide) (l_case17 hL hi6 hs.2.2.2.2.2.2.2.2.2.2.2.2.2.2.2.2.2.1 hI hk)
        | 18, _, key => exact key 18 775 742 rfl (by decide) rfl (by decide) (l_case18 hL hi6 hs.2.2.2.2.2.2.2.2.2.2.2.2.2.2.2.2.2.2.1 hI hk)
        | 19, _, key => exact key 19 798 765 rfl (by decide) rfl (by decide) (l_case19 hL hi6 hs.2.2.2.2.2.2.2.2.2.2.2.2.2.2.2.2.2.2.2.1 hI hk)
        | 20, _, key => exact key 20 841 808 rfl (by decide) rfl (by decide) (l_case20 hL hi6 hs.2.2.2.2.2.2.2.2.2.2.2.2.2.2.2.2.2.2.2.2.1 hI hk)
        | 21, _, key => exact key 21 885 852 rfl (by decide) rfl (by decide) (l_case21 hL hi6 hs.2.2.2.2.2.2.2.2.2.2.2.2.2.2.2.2.2.2.2.2.2.1 hI hk)
        | 22, _, key => exact key 22 948 915 rfl (by decide) rfl (by decide) (l_case22 hL hi6 hs.2.2.2.2.2.2.2.2.2.2.2.2.2.2.2.2.2.2.2.2.2.2.1 hI hk)
        | 23, _, key => exact key 23 971 938 rfl (by decide) rfl (by decide) (l_case23 hL hi6 hs.2.2.2.2.2.2.2.2.2.2.2.2.2.2.2.2.2.2.2.2.2.2.2.1 hI hk)
        | 24, _, key => exact key 24 994 961 rfl (by decide) rfl (by decide) (l_case24 hL hi6 hs.2.2.2.2.2.2.2.2.2.2.2.2.2.2.2.2.2.2.2.2.2.2.2.2.1 hI hk)
        | 25, _, key => exact key 25 1027 994 rfl (by decide) rfl (by decide) (l_case25 hL hi6 hs.2.2.2.2.2.2.2.2.2.2.2.2.2.2.2.2.2.2.2.2.2.2.2.2.2.1 hI hk)
        | 26, _, key => exact key 26 1040 1007 rfl (by decide) rfl (by decide) (l_case26 hL hi6 hs.2.2.2.2.2.2.2.2.2.2.2.2.2.2.2.2.2.2.2.2.2.2.2.2.2.2.1 hI hk)
        | 27, _, key => exact key 27 1053 1020 rfl (by decide) rfl (by decide) (l_case27 hL hi6 hs.2.2.2.2.2.2.2.2.2.2.2.2.2.2.2.2.2.2.2.2.2.2.2.2.2.2.2 hI hk)
        | j + 28, h, _ => exact absurd h (by omega)
      · refine lv_tableOut (tgt := 1076) hx hb dL_law_33 (by rw [nI_toInt (by omega)]; omega) (by decide) ?_
        exact l_next (hk μ hI) p l e s m below meth c C H locs ls hP hS hl
