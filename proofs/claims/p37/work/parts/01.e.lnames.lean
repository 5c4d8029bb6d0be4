def wsL_put_r1 : List Cond := [Cond.classLink RL 19 "java/lang/IndexOutOfBoundsException", Cond.classLink RL 21 "java/lang/IllegalArgumentException", Cond.methodLink RL 7 yX3_put, Cond.instanceMethod yX3_put, Cond.selects RX3 yX3_put yX3_put, Cond.initialized RX3, Cond.code yX3_put cX3_put 4 (some .int), Cond.methodLink RX3 31 yX3_bookToWritePair, Cond.instanceMethod yX3_bookToWritePair, Cond.selects RX3 yX3_bookToWritePair yX3_bookToWritePair, Cond.code yX3_bookToWritePair cX3_bookToWritePair 5 (some (.object "Rangeledger$Book")), Cond.methodLink RX3 47 yX3_bookAt, Cond.instanceMethod yX3_bookAt, Cond.selects RX3 yX3_bookAt yX3_bookAt, Cond.code yX3_bookAt cX3_bookAt 2 (some (.object "Rangeledger$Book")), Cond.classLink RX3 309 "java/lang/IndexOutOfBoundsException", Cond.initialized "java/lang/IndexOutOfBoundsException", Cond.fieldLink RX3 11 "Rangeledger" "books" "[LRangeledger$Book;", Cond.methodLink RX3 51 yX3_checkKey, Cond.static yX3_checkKey, Cond.code yX3_checkKey cX3_checkKey 1 none, Cond.classLink RX3 86 "java/lang/IllegalArgumentException", Cond.initialized "java/lang/IllegalArgumentException", Cond.methodLink RX3 54 yX3_checkValue]
def wsL_put_r2 : List Cond := [Cond.static yX3_checkValue, Cond.code yX3_checkValue cX3_checkValue 1 none, Cond.methodLink RX3 57 yX0_touch, Cond.instanceMethod yX0_touch, Cond.selects RX0 yX0_touch yX0_touch, Cond.initialized RX0, Cond.code yX0_touch cX0_touch 1 none, Cond.fieldLink RX0 28 "Rangeledger$Book" "touches" "I", Cond.methodLink RX3 35 yX0_enter, Cond.instanceMethod yX0_enter, Cond.selects RX0 yX0_enter yX0_enter, Cond.code yX0_enter cX0_enter 5 (some .int), Cond.fieldLink RX0 15 "Rangeledger$Book" "keys" "[I", Cond.fieldLink RX0 19 "Rangeledger$Book" "values" "[I", Cond.methodLink RX0 48 yX0_placeOf, Cond.instanceMethod yX0_placeOf, Cond.selects RX0 yX0_placeOf yX0_placeOf, Cond.code yX0_placeOf cX0_placeOf 2 (some .int), Cond.methodLink RX0 34 yX0_weight, Cond.instanceMethod yX0_weight, Cond.selects RX0 yX0_weight yX0_weight, Cond.code yX0_weight cX0_weight 4 (some .int), Cond.fieldLink RX0 22 "Rangeledger$Book" "order" "I", Cond.methodLink RX0 38 yX0_placeOfWeight]
def wsL_put_r3 : List Cond := [Cond.instanceMethod yX0_placeOfWeight, Cond.selects RX0 yX0_placeOfWeight yX0_placeOfWeight, Cond.code yX0_placeOfWeight cX0_placeOfWeight 6 (some .int), Cond.fieldLink RX0 25 "Rangeledger$Book" "size" "I", Cond.methodLink RX0 41 yX0_isPlace, Cond.instanceMethod yX0_isPlace, Cond.selects RX0 yX0_isPlace yX0_isPlace, Cond.code yX0_isPlace cX0_isPlace 2 (some .boolean), Cond.methodLink RX0 72 yX0_insert, Cond.instanceMethod yX0_insert, Cond.selects RX0 yX0_insert yX0_insert, Cond.code yX0_insert cX0_insert 4 none, Cond.methodLink RX0 76 arraycopyName, Cond.native arraycopyName, Cond.static arraycopyName, Cond.initialized "java/lang/System", Cond.fieldLink RX0 31 "Rangeledger$Book" "keyChanges" "I"]
def wsL_put : List Cond := .codeWith yL_put cL_put 6 (some .int) [(0, 13, 16, 19), (0, 13, 20, 21)] :: ((wsL_put_r1 ++ (wsL_put_r2 ++ wsL_put_r3)) ++ wsX40 ++ wsX30 ++ wsX00 ++ (vx_atS RX3 313 "java/lang/IndexOutOfBoundsException" ["java/lang/RuntimeException", "java/lang/Exception"]).filter goodWord ++ (vx_atS RX3 90 "java/lang/IllegalArgumentException" ["java/lang/RuntimeException", "java/lang/Exception"]).filter goodWord)
def wsL_putAbsent_r1 : List Cond := [Cond.classLink RL 19 "java/lang/IndexOutOfBoundsException", Cond.classLink RL 21 "java/lang/IllegalArgumentException", Cond.methodLink RL 23 yX3_putAbsent, Cond.instanceMethod yX3_putAbsent, Cond.selects RX3 yX3_putAbsent yX3_putAbsent, Cond.initialized RX3, Cond.code yX3_putAbsent cX3_putAbsent 5 (some .int), Cond.methodLink RX3 31 yX3_bookToWritePair, Cond.instanceMethod yX3_bookToWritePair, Cond.selects RX3 yX3_bookToWritePair yX3_bookToWritePair, Cond.code yX3_bookToWritePair cX3_bookToWritePair 5 (some (.object "Rangeledger$Book")), Cond.methodLink RX3 47 yX3_bookAt, Cond.instanceMethod yX3_bookAt, Cond.selects RX3 yX3_bookAt yX3_bookAt, Cond.code yX3_bookAt cX3_bookAt 2 (some (.object "Rangeledger$Book")), Cond.classLink RX3 309 "java/lang/IndexOutOfBoundsException", Cond.initialized "java/lang/IndexOutOfBoundsException", Cond.fieldLink RX3 11 "Rangeledger" "books" "[LRangeledger$Book;", Cond.methodLink RX3 51 yX3_checkKey, Cond.static yX3_checkKey, Cond.code yX3_checkKey cX3_checkKey 1 none, Cond.classLink RX3 86 "java/lang/IllegalArgumentException", Cond.initialized "java/lang/IllegalArgumentException", Cond.methodLink RX3 54 yX3_checkValue]
def wsL_putAbsent_r2 : List Cond := [Cond.static yX3_checkValue, Cond.code yX3_checkValue cX3_checkValue 1 none, Cond.methodLink RX3 57 yX0_touch, Cond.instanceMethod yX0_touch, Cond.selects RX0 yX0_touch yX0_touch, Cond.initialized RX0, Cond.code yX0_touch cX0_touch 1 none, Cond.fieldLink RX0 28 "Rangeledger$Book" "touches" "I", Cond.methodLink RX3 39 yX0_holds, Cond.instanceMethod yX0_holds, Cond.selects RX0 yX0_holds yX0_holds, Cond.code yX0_holds cX0_holds 2 (some .boolean), Cond.methodLink RX0 45 yX0_valueOf, Cond.instanceMethod yX0_valueOf, Cond.selects RX0 yX0_valueOf yX0_valueOf, Cond.code yX0_valueOf cX0_valueOf 3 (some .int), Cond.methodLink RX0 48 yX0_placeOf, Cond.instanceMethod yX0_placeOf, Cond.selects RX0 yX0_placeOf yX0_placeOf, Cond.code yX0_placeOf cX0_placeOf 2 (some .int), Cond.methodLink RX0 34 yX0_weight, Cond.instanceMethod yX0_weight, Cond.selects RX0 yX0_weight yX0_weight, Cond.code yX0_weight cX0_weight 4 (some .int)]
def wsL_putAbsent_r3 : List Cond := [Cond.fieldLink RX0 22 "Rangeledger$Book" "order" "I", Cond.methodLink RX0 38 yX0_placeOfWeight, Cond.instanceMethod yX0_placeOfWeight, Cond.selects RX0 yX0_placeOfWeight yX0_placeOfWeight, Cond.code yX0_placeOfWeight cX0_placeOfWeight 6 (some .int), Cond.fieldLink RX0 25 "Rangeledger$Book" "size" "I", Cond.fieldLink RX0 15 "Rangeledger$Book" "keys" "[I", Cond.methodLink RX0 51 yX0_keyAt, Cond.instanceMethod yX0_keyAt, Cond.selects RX0 yX0_keyAt yX0_keyAt, Cond.code yX0_keyAt cX0_keyAt 2 (some .int), Cond.methodLink RX0 41 yX0_isPlace, Cond.instanceMethod yX0_isPlace, Cond.selects RX0 yX0_isPlace yX0_isPlace, Cond.code yX0_isPlace cX0_isPlace 2 (some .boolean), Cond.methodLink RX0 54 yX0_valueAt, Cond.instanceMethod yX0_valueAt, Cond.selects RX0 yX0_valueAt yX0_valueAt, Cond.code yX0_valueAt cX0_valueAt 2 (some .int), Cond.fieldLink RX0 19 "Rangeledger$Book" "values" "[I", Cond.methodLink RX3 43 yX0_valueOf, Cond.methodLink RX3 35 yX0_enter, Cond.instanceMethod yX0_enter, Cond.selects RX0 yX0_enter yX0_enter]
def wsL_putAbsent_r4 : List Cond := [Cond.code yX0_enter cX0_enter 5 (some .int), Cond.methodLink RX0 72 yX0_insert, Cond.instanceMethod yX0_insert, Cond.selects RX0 yX0_insert yX0_insert, Cond.code yX0_insert cX0_insert 4 none, Cond.methodLink RX0 76 arraycopyName, Cond.native arraycopyName, Cond.static arraycopyName, Cond.initialized "java/lang/System", Cond.fieldLink RX0 31 "Rangeledger$Book" "keyChanges" "I"]
def wsL_putAbsent : List Cond := .codeWith yL_putAbsent cL_putAbsent 6 (some .int) [(0, 13, 16, 19), (0, 13, 20, 21)] :: ((wsL_putAbsent_r1 ++ (wsL_putAbsent_r2 ++ (wsL_putAbsent_r3 ++ wsL_putAbsent_r4))) ++ wsX40 ++ wsX30 ++ wsX00 ++ (vx_atS RX3 313 "java/lang/IndexOutOfBoundsException" ["java/lang/RuntimeException", "java/lang/Exception"]).filter goodWord ++ (vx_atS RX3 90 "java/lang/IllegalArgumentException" ["java/lang/RuntimeException", "java/lang/Exception"]).filter goodWord)
def wsL_replace_r1 : List Cond := [Cond.classLink RL 19 "java/lang/IndexOutOfBoundsException", Cond.classLink RL 21 "java/lang/IllegalArgumentException", Cond.methodLink RL 26 yX3_replace, Cond.instanceMethod yX3_replace, Cond.selects RX3 yX3_replace yX3_replace, Cond.initialized RX3, Cond.code yX3_replace cX3_replace 5 (some .int), Cond.methodLink RX3 31 yX3_bookToWritePair, Cond.instanceMethod yX3_bookToWritePair, Cond.selects RX3 yX3_bookToWritePair yX3_bookToWritePair, Cond.code yX3_bookToWritePair cX3_bookToWritePair 5 (some (.object "Rangeledger$Book")), Cond.methodLink RX3 47 yX3_bookAt, Cond.instanceMethod yX3_bookAt, Cond.selects RX3 yX3_bookAt yX3_bookAt, Cond.code yX3_bookAt cX3_bookAt 2 (some (.object "Rangeledger$Book")), Cond.classLink RX3 309 "java/lang/IndexOutOfBoundsException", Cond.initialized "java/lang/IndexOutOfBoundsException", Cond.fieldLink RX3 11 "Rangeledger" "books" "[LRangeledger$Book;", Cond.methodLink RX3 51 yX3_checkKey, Cond.static yX3_checkKey, Cond.code yX3_checkKey cX3_checkKey 1 none, Cond.classLink RX3 86 "java/lang/IllegalArgumentException", Cond.initialized "java/lang/IllegalArgumentException", Cond.methodLink RX3 54 yX3_checkValue]
def wsL_replace_r2 : List Cond := [Cond.static yX3_checkValue, Cond.code yX3_checkValue cX3_checkValue 1 none, Cond.methodLink RX3 57 yX0_touch, Cond.instanceMethod yX0_touch, Cond.selects RX0 yX0_touch yX0_touch, Cond.initialized RX0, Cond.code yX0_touch cX0_touch 1 none, Cond.fieldLink RX0 28 "Rangeledger$Book" "touches" "I", Cond.methodLink RX3 39 yX0_holds, Cond.instanceMethod yX0_holds, Cond.selects RX0 yX0_holds yX0_holds, Cond.code yX0_holds cX0_holds 2 (some .boolean), Cond.methodLink RX0 45 yX0_valueOf, Cond.instanceMethod yX0_valueOf, Cond.selects RX0 yX0_valueOf yX0_valueOf, Cond.code yX0_valueOf cX0_valueOf 3 (some .int), Cond.methodLink RX0 48 yX0_placeOf, Cond.instanceMethod yX0_placeOf, Cond.selects RX0 yX0_placeOf yX0_placeOf, Cond.code yX0_placeOf cX0_placeOf 2 (some .int), Cond.methodLink RX0 34 yX0_weight, Cond.instanceMethod yX0_weight, Cond.selects RX0 yX0_weight yX0_weight, Cond.code yX0_weight cX0_weight 4 (some .int)]
def wsL_replace_r3 : List Cond := [Cond.fieldLink RX0 22 "Rangeledger$Book" "order" "I", Cond.methodLink RX0 38 yX0_placeOfWeight, Cond.instanceMethod yX0_placeOfWeight, Cond.selects RX0 yX0_placeOfWeight yX0_placeOfWeight, Cond.code yX0_placeOfWeight cX0_placeOfWeight 6 (some .int), Cond.fieldLink RX0 25 "Rangeledger$Book" "size" "I", Cond.fieldLink RX0 15 "Rangeledger$Book" "keys" "[I", Cond.methodLink RX0 51 yX0_keyAt, Cond.instanceMethod yX0_keyAt, Cond.selects RX0 yX0_keyAt yX0_keyAt, Cond.code yX0_keyAt cX0_keyAt 2 (some .int), Cond.methodLink RX0 41 yX0_isPlace, Cond.instanceMethod yX0_isPlace, Cond.selects RX0 yX0_isPlace yX0_isPlace, Cond.code yX0_isPlace cX0_isPlace 2 (some .boolean), Cond.methodLink RX0 54 yX0_valueAt, Cond.instanceMethod yX0_valueAt, Cond.selects RX0 yX0_valueAt yX0_valueAt, Cond.code yX0_valueAt cX0_valueAt 2 (some .int), Cond.fieldLink RX0 19 "Rangeledger$Book" "values" "[I", Cond.methodLink RX3 35 yX0_enter, Cond.instanceMethod yX0_enter, Cond.selects RX0 yX0_enter yX0_enter, Cond.code yX0_enter cX0_enter 5 (some .int)]
def wsL_replace_r4 : List Cond := [Cond.methodLink RX0 72 yX0_insert, Cond.instanceMethod yX0_insert, Cond.selects RX0 yX0_insert yX0_insert, Cond.code yX0_insert cX0_insert 4 none, Cond.methodLink RX0 76 arraycopyName, Cond.native arraycopyName, Cond.static arraycopyName, Cond.initialized "java/lang/System", Cond.fieldLink RX0 31 "Rangeledger$Book" "keyChanges" "I"]
def wsL_replace : List Cond := .codeWith yL_replace cL_replace 6 (some .int) [(0, 13, 16, 19), (0, 13, 20, 21)] :: ((wsL_replace_r1 ++ (wsL_replace_r2 ++ (wsL_replace_r3 ++ wsL_replace_r4))) ++ wsX40 ++ wsX30 ++ wsX00 ++ (vx_atS RX3 313 "java/lang/IndexOutOfBoundsException" ["java/lang/RuntimeException", "java/lang/Exception"]).filter goodWord ++ (vx_atS RX3 90 "java/lang/IllegalArgumentException" ["java/lang/RuntimeException", "java/lang/Exception"]).filter goodWord)
def wsL_swap_r1 : List Cond := [Cond.classLink RL 19 "java/lang/IndexOutOfBoundsException", Cond.classLink RL 21 "java/lang/IllegalArgumentException", Cond.methodLink RL 29 yX3_swap, Cond.instanceMethod yX3_swap, Cond.selects RX3 yX3_swap yX3_swap, Cond.initialized RX3, Cond.code yX3_swap cX3_swap 6 (some .boolean), Cond.methodLink RX3 47 yX3_bookAt, Cond.instanceMethod yX3_bookAt, Cond.selects RX3 yX3_bookAt yX3_bookAt, Cond.code yX3_bookAt cX3_bookAt 2 (some (.object "Rangeledger$Book")), Cond.classLink RX3 309 "java/lang/IndexOutOfBoundsException", Cond.initialized "java/lang/IndexOutOfBoundsException", Cond.fieldLink RX3 11 "Rangeledger" "books" "[LRangeledger$Book;", Cond.methodLink RX3 51 yX3_checkKey, Cond.static yX3_checkKey, Cond.code yX3_checkKey cX3_checkKey 1 none, Cond.classLink RX3 86 "java/lang/IllegalArgumentException", Cond.initialized "java/lang/IllegalArgumentException", Cond.methodLink RX3 54 yX3_checkValue, Cond.static yX3_checkValue, Cond.code yX3_checkValue cX3_checkValue 1 none, Cond.methodLink RX3 57 yX0_touch, Cond.instanceMethod yX0_touch]
def wsL_swap_r2 : List Cond := [Cond.selects RX0 yX0_touch yX0_touch, Cond.initialized RX0, Cond.code yX0_touch cX0_touch 1 none, Cond.fieldLink RX0 28 "Rangeledger$Book" "touches" "I", Cond.methodLink RX3 43 yX0_valueOf, Cond.instanceMethod yX0_valueOf, Cond.selects RX0 yX0_valueOf yX0_valueOf, Cond.code yX0_valueOf cX0_valueOf 3 (some .int), Cond.methodLink RX0 48 yX0_placeOf, Cond.instanceMethod yX0_placeOf, Cond.selects RX0 yX0_placeOf yX0_placeOf, Cond.code yX0_placeOf cX0_placeOf 2 (some .int), Cond.methodLink RX0 34 yX0_weight, Cond.instanceMethod yX0_weight, Cond.selects RX0 yX0_weight yX0_weight, Cond.code yX0_weight cX0_weight 4 (some .int), Cond.fieldLink RX0 22 "Rangeledger$Book" "order" "I", Cond.methodLink RX0 38 yX0_placeOfWeight, Cond.instanceMethod yX0_placeOfWeight, Cond.selects RX0 yX0_placeOfWeight yX0_placeOfWeight, Cond.code yX0_placeOfWeight cX0_placeOfWeight 6 (some .int), Cond.fieldLink RX0 25 "Rangeledger$Book" "size" "I", Cond.fieldLink RX0 15 "Rangeledger$Book" "keys" "[I", Cond.methodLink RX0 51 yX0_keyAt]
def wsL_swap_r3 : List Cond := [Cond.instanceMethod yX0_keyAt, Cond.selects RX0 yX0_keyAt yX0_keyAt, Cond.code yX0_keyAt cX0_keyAt 2 (some .int), Cond.methodLink RX0 41 yX0_isPlace, Cond.instanceMethod yX0_isPlace, Cond.selects RX0 yX0_isPlace yX0_isPlace, Cond.code yX0_isPlace cX0_isPlace 2 (some .boolean), Cond.methodLink RX0 54 yX0_valueAt, Cond.instanceMethod yX0_valueAt, Cond.selects RX0 yX0_valueAt yX0_valueAt, Cond.code yX0_valueAt cX0_valueAt 2 (some .int), Cond.fieldLink RX0 19 "Rangeledger$Book" "values" "[I", Cond.methodLink RX3 35 yX0_enter, Cond.instanceMethod yX0_enter, Cond.selects RX0 yX0_enter yX0_enter, Cond.code yX0_enter cX0_enter 5 (some .int), Cond.methodLink RX0 72 yX0_insert, Cond.instanceMethod yX0_insert, Cond.selects RX0 yX0_insert yX0_insert, Cond.code yX0_insert cX0_insert 4 none, Cond.methodLink RX0 76 arraycopyName, Cond.native arraycopyName, Cond.static arraycopyName, Cond.initialized "java/lang/System"]
def wsL_swap_r4 : List Cond := [Cond.fieldLink RX0 31 "Rangeledger$Book" "keyChanges" "I"]
def wsL_swap : List Cond := .codeWith yL_swap cL_swap 7 (some .int) [(0, 22, 25, 19), (0, 22, 29, 21)] :: ((wsL_swap_r1 ++ (wsL_swap_r2 ++ (wsL_swap_r3 ++ wsL_swap_r4))) ++ wsX40 ++ wsX30 ++ wsX00 ++ (vx_atS RX3 313 "java/lang/IndexOutOfBoundsException" ["java/lang/RuntimeException", "java/lang/Exception"]).filter goodWord ++ (vx_atS RX3 90 "java/lang/IllegalArgumentException" ["java/lang/RuntimeException", "java/lang/Exception"]).filter goodWord)
def wsL_strike_r1 : List Cond := [Cond.classLink RL 19 "java/lang/IndexOutOfBoundsException", Cond.classLink RL 21 "java/lang/IllegalArgumentException", Cond.methodLink RL 33 yX3_strike, Cond.instanceMethod yX3_strike, Cond.selects RX3 yX3_strike yX3_strike, Cond.initialized RX3, Cond.code yX3_strike cX3_strike 3 (some .int), Cond.methodLink RX3 60 yX3_bookToWriteKey, Cond.instanceMethod yX3_bookToWriteKey, Cond.selects RX3 yX3_bookToWriteKey yX3_bookToWriteKey, Cond.code yX3_bookToWriteKey cX3_bookToWriteKey 4 (some (.object "Rangeledger$Book")), Cond.methodLink RX3 47 yX3_bookAt, Cond.instanceMethod yX3_bookAt, Cond.selects RX3 yX3_bookAt yX3_bookAt, Cond.code yX3_bookAt cX3_bookAt 2 (some (.object "Rangeledger$Book")), Cond.classLink RX3 309 "java/lang/IndexOutOfBoundsException", Cond.initialized "java/lang/IndexOutOfBoundsException", Cond.fieldLink RX3 11 "Rangeledger" "books" "[LRangeledger$Book;", Cond.methodLink RX3 51 yX3_checkKey, Cond.static yX3_checkKey, Cond.code yX3_checkKey cX3_checkKey 1 none, Cond.classLink RX3 86 "java/lang/IllegalArgumentException", Cond.initialized "java/lang/IllegalArgumentException", Cond.methodLink RX3 57 yX0_touch]
def wsL_strike_r2 : List Cond := [Cond.instanceMethod yX0_touch, Cond.selects RX0 yX0_touch yX0_touch, Cond.initialized RX0, Cond.code yX0_touch cX0_touch 1 none, Cond.fieldLink RX0 28 "Rangeledger$Book" "touches" "I", Cond.methodLink RX3 64 yX0_removeKey, Cond.instanceMethod yX0_removeKey, Cond.selects RX0 yX0_removeKey yX0_removeKey, Cond.code yX0_removeKey cX0_removeKey 4 (some .int), Cond.methodLink RX0 48 yX0_placeOf, Cond.instanceMethod yX0_placeOf, Cond.selects RX0 yX0_placeOf yX0_placeOf, Cond.code yX0_placeOf cX0_placeOf 2 (some .int), Cond.methodLink RX0 34 yX0_weight, Cond.instanceMethod yX0_weight, Cond.selects RX0 yX0_weight yX0_weight, Cond.code yX0_weight cX0_weight 4 (some .int), Cond.fieldLink RX0 22 "Rangeledger$Book" "order" "I", Cond.methodLink RX0 38 yX0_placeOfWeight, Cond.instanceMethod yX0_placeOfWeight, Cond.selects RX0 yX0_placeOfWeight yX0_placeOfWeight, Cond.code yX0_placeOfWeight cX0_placeOfWeight 6 (some .int), Cond.fieldLink RX0 25 "Rangeledger$Book" "size" "I", Cond.fieldLink RX0 15 "Rangeledger$Book" "keys" "[I"]
def wsL_strike_r3 : List Cond := [Cond.methodLink RX0 51 yX0_keyAt, Cond.instanceMethod yX0_keyAt, Cond.selects RX0 yX0_keyAt yX0_keyAt, Cond.code yX0_keyAt cX0_keyAt 2 (some .int), Cond.methodLink RX0 41 yX0_isPlace, Cond.instanceMethod yX0_isPlace, Cond.selects RX0 yX0_isPlace yX0_isPlace, Cond.code yX0_isPlace cX0_isPlace 2 (some .boolean), Cond.methodLink RX0 54 yX0_valueAt, Cond.instanceMethod yX0_valueAt, Cond.selects RX0 yX0_valueAt yX0_valueAt, Cond.code yX0_valueAt cX0_valueAt 2 (some .int), Cond.fieldLink RX0 19 "Rangeledger$Book" "values" "[I", Cond.methodLink RX0 82 yX0_removeRange, Cond.instanceMethod yX0_removeRange, Cond.selects RX0 yX0_removeRange yX0_removeRange, Cond.code yX0_removeRange cX0_removeRange 3 (some .int), Cond.methodLink RX0 76 arraycopyName, Cond.native arraycopyName, Cond.static arraycopyName, Cond.initialized "java/lang/System", Cond.fieldLink RX0 31 "Rangeledger$Book" "keyChanges" "I"]
def wsL_strike : List Cond := .codeWith yL_strike cL_strike 5 (some .int) [(0, 11, 14, 19), (0, 11, 18, 21)] :: ((wsL_strike_r1 ++ (wsL_strike_r2 ++ wsL_strike_r3)) ++ wsX40 ++ wsX30 ++ wsX00 ++ (vx_atS RX3 313 "java/lang/IndexOutOfBoundsException" ["java/lang/RuntimeException", "java/lang/Exception"]).filter goodWord ++ (vx_atS RX3 90 "java/lang/IllegalArgumentException" ["java/lang/RuntimeException", "java/lang/Exception"]).filter goodWord)
def wsL_strikePair_r1 : List Cond := [Cond.classLink RL 19 "java/lang/IndexOutOfBoundsException", Cond.classLink RL 21 "java/lang/IllegalArgumentException", Cond.methodLink RL 37 yX3_strikePair, Cond.instanceMethod yX3_strikePair, Cond.selects RX3 yX3_strikePair yX3_strikePair, Cond.initialized RX3, Cond.code yX3_strikePair cX3_strikePair 5 (some .boolean), Cond.methodLink RX3 31 yX3_bookToWritePair, Cond.instanceMethod yX3_bookToWritePair, Cond.selects RX3 yX3_bookToWritePair yX3_bookToWritePair, Cond.code yX3_bookToWritePair cX3_bookToWritePair 5 (some (.object "Rangeledger$Book")), Cond.methodLink RX3 47 yX3_bookAt, Cond.instanceMethod yX3_bookAt, Cond.selects RX3 yX3_bookAt yX3_bookAt, Cond.code yX3_bookAt cX3_bookAt 2 (some (.object "Rangeledger$Book")), Cond.classLink RX3 309 "java/lang/IndexOutOfBoundsException", Cond.initialized "java/lang/IndexOutOfBoundsException", Cond.fieldLink RX3 11 "Rangeledger" "books" "[LRangeledger$Book;", Cond.methodLink RX3 51 yX3_checkKey, Cond.static yX3_checkKey, Cond.code yX3_checkKey cX3_checkKey 1 none, Cond.classLink RX3 86 "java/lang/IllegalArgumentException", Cond.initialized "java/lang/IllegalArgumentException", Cond.methodLink RX3 54 yX3_checkValue]
def wsL_strikePair_r2 : List Cond := [Cond.static yX3_checkValue, Cond.code yX3_checkValue cX3_checkValue 1 none, Cond.methodLink RX3 57 yX0_touch, Cond.instanceMethod yX0_touch, Cond.selects RX0 yX0_touch yX0_touch, Cond.initialized RX0, Cond.code yX0_touch cX0_touch 1 none, Cond.fieldLink RX0 28 "Rangeledger$Book" "touches" "I", Cond.methodLink RX3 43 yX0_valueOf, Cond.instanceMethod yX0_valueOf, Cond.selects RX0 yX0_valueOf yX0_valueOf, Cond.code yX0_valueOf cX0_valueOf 3 (some .int), Cond.methodLink RX0 48 yX0_placeOf, Cond.instanceMethod yX0_placeOf, Cond.selects RX0 yX0_placeOf yX0_placeOf, Cond.code yX0_placeOf cX0_placeOf 2 (some .int), Cond.methodLink RX0 34 yX0_weight, Cond.instanceMethod yX0_weight, Cond.selects RX0 yX0_weight yX0_weight, Cond.code yX0_weight cX0_weight 4 (some .int), Cond.fieldLink RX0 22 "Rangeledger$Book" "order" "I", Cond.methodLink RX0 38 yX0_placeOfWeight, Cond.instanceMethod yX0_placeOfWeight, Cond.selects RX0 yX0_placeOfWeight yX0_placeOfWeight]
def wsL_strikePair_r3 : List Cond := [Cond.code yX0_placeOfWeight cX0_placeOfWeight 6 (some .int), Cond.fieldLink RX0 25 "Rangeledger$Book" "size" "I", Cond.fieldLink RX0 15 "Rangeledger$Book" "keys" "[I", Cond.methodLink RX0 51 yX0_keyAt, Cond.instanceMethod yX0_keyAt, Cond.selects RX0 yX0_keyAt yX0_keyAt, Cond.code yX0_keyAt cX0_keyAt 2 (some .int), Cond.methodLink RX0 41 yX0_isPlace, Cond.instanceMethod yX0_isPlace, Cond.selects RX0 yX0_isPlace yX0_isPlace, Cond.code yX0_isPlace cX0_isPlace 2 (some .boolean), Cond.methodLink RX0 54 yX0_valueAt, Cond.instanceMethod yX0_valueAt, Cond.selects RX0 yX0_valueAt yX0_valueAt, Cond.code yX0_valueAt cX0_valueAt 2 (some .int), Cond.fieldLink RX0 19 "Rangeledger$Book" "values" "[I", Cond.methodLink RX3 64 yX0_removeKey, Cond.instanceMethod yX0_removeKey, Cond.selects RX0 yX0_removeKey yX0_removeKey, Cond.code yX0_removeKey cX0_removeKey 4 (some .int), Cond.methodLink RX0 82 yX0_removeRange, Cond.instanceMethod yX0_removeRange, Cond.selects RX0 yX0_removeRange yX0_removeRange, Cond.code yX0_removeRange cX0_removeRange 3 (some .int)]
def wsL_strikePair_r4 : List Cond := [Cond.methodLink RX0 76 arraycopyName, Cond.native arraycopyName, Cond.static arraycopyName, Cond.initialized "java/lang/System", Cond.fieldLink RX0 31 "Rangeledger$Book" "keyChanges" "I"]
def wsL_strikePair : List Cond := .codeWith yL_strikePair cL_strikePair 6 (some .int) [(0, 20, 23, 19), (0, 20, 27, 21)] :: ((wsL_strikePair_r1 ++ (wsL_strikePair_r2 ++ (wsL_strikePair_r3 ++ wsL_strikePair_r4))) ++ wsX40 ++ wsX30 ++ wsX00 ++ (vx_atS RX3 313 "java/lang/IndexOutOfBoundsException" ["java/lang/RuntimeException", "java/lang/Exception"]).filter goodWord ++ (vx_atS RX3 90 "java/lang/IllegalArgumentException" ["java/lang/RuntimeException", "java/lang/Exception"]).filter goodWord)
def wsL_merge_r1 : List Cond := [Cond.classLink RL 19 "java/lang/IndexOutOfBoundsException", Cond.classLink RL 21 "java/lang/IllegalArgumentException", Cond.methodLink RL 41 yX3_merge, Cond.instanceMethod yX3_merge, Cond.selects RX3 yX3_merge yX3_merge, Cond.initialized RX3, Cond.code yX3_merge cX3_merge 4 (some .int), Cond.methodLink RX3 31 yX3_bookToWritePair, Cond.instanceMethod yX3_bookToWritePair, Cond.selects RX3 yX3_bookToWritePair yX3_bookToWritePair, Cond.code yX3_bookToWritePair cX3_bookToWritePair 5 (some (.object "Rangeledger$Book")), Cond.methodLink RX3 47 yX3_bookAt, Cond.instanceMethod yX3_bookAt, Cond.selects RX3 yX3_bookAt yX3_bookAt, Cond.code yX3_bookAt cX3_bookAt 2 (some (.object "Rangeledger$Book")), Cond.classLink RX3 309 "java/lang/IndexOutOfBoundsException", Cond.initialized "java/lang/IndexOutOfBoundsException", Cond.fieldLink RX3 11 "Rangeledger" "books" "[LRangeledger$Book;", Cond.methodLink RX3 51 yX3_checkKey, Cond.static yX3_checkKey, Cond.code yX3_checkKey cX3_checkKey 1 none, Cond.classLink RX3 86 "java/lang/IllegalArgumentException", Cond.initialized "java/lang/IllegalArgumentException", Cond.methodLink RX3 54 yX3_checkValue]
def wsL_merge_r2 : List Cond := [Cond.static yX3_checkValue, Cond.code yX3_checkValue cX3_checkValue 1 none, Cond.methodLink RX3 57 yX0_touch, Cond.instanceMethod yX0_touch, Cond.selects RX0 yX0_touch yX0_touch, Cond.initialized RX0, Cond.code yX0_touch cX0_touch 1 none, Cond.fieldLink RX0 28 "Rangeledger$Book" "touches" "I", Cond.methodLink RX3 67 yX0_putTogether, Cond.instanceMethod yX0_putTogether, Cond.selects RX0 yX0_putTogether yX0_putTogether, Cond.code yX0_putTogether cX0_putTogether 4 (some .int), Cond.methodLink RX0 85 yX0_holds, Cond.instanceMethod yX0_holds, Cond.selects RX0 yX0_holds yX0_holds, Cond.code yX0_holds cX0_holds 2 (some .boolean), Cond.methodLink RX0 45 yX0_valueOf, Cond.instanceMethod yX0_valueOf, Cond.selects RX0 yX0_valueOf yX0_valueOf, Cond.code yX0_valueOf cX0_valueOf 3 (some .int), Cond.methodLink RX0 48 yX0_placeOf, Cond.instanceMethod yX0_placeOf, Cond.selects RX0 yX0_placeOf yX0_placeOf, Cond.code yX0_placeOf cX0_placeOf 2 (some .int)]
def wsL_merge_r3 : List Cond := [Cond.methodLink RX0 34 yX0_weight, Cond.instanceMethod yX0_weight, Cond.selects RX0 yX0_weight yX0_weight, Cond.code yX0_weight cX0_weight 4 (some .int), Cond.fieldLink RX0 22 "Rangeledger$Book" "order" "I", Cond.methodLink RX0 38 yX0_placeOfWeight, Cond.instanceMethod yX0_placeOfWeight, Cond.selects RX0 yX0_placeOfWeight yX0_placeOfWeight, Cond.code yX0_placeOfWeight cX0_placeOfWeight 6 (some .int), Cond.fieldLink RX0 25 "Rangeledger$Book" "size" "I", Cond.fieldLink RX0 15 "Rangeledger$Book" "keys" "[I", Cond.methodLink RX0 51 yX0_keyAt, Cond.instanceMethod yX0_keyAt, Cond.selects RX0 yX0_keyAt yX0_keyAt, Cond.code yX0_keyAt cX0_keyAt 2 (some .int), Cond.methodLink RX0 41 yX0_isPlace, Cond.instanceMethod yX0_isPlace, Cond.selects RX0 yX0_isPlace yX0_isPlace, Cond.code yX0_isPlace cX0_isPlace 2 (some .boolean), Cond.methodLink RX0 54 yX0_valueAt, Cond.instanceMethod yX0_valueAt, Cond.selects RX0 yX0_valueAt yX0_valueAt, Cond.code yX0_valueAt cX0_valueAt 2 (some .int), Cond.fieldLink RX0 19 "Rangeledger$Book" "values" "[I"]
def wsL_merge_r4 : List Cond := [Cond.methodLink RX0 88 yX0_enter, Cond.instanceMethod yX0_enter, Cond.selects RX0 yX0_enter yX0_enter, Cond.code yX0_enter cX0_enter 5 (some .int), Cond.methodLink RX0 72 yX0_insert, Cond.instanceMethod yX0_insert, Cond.selects RX0 yX0_insert yX0_insert, Cond.code yX0_insert cX0_insert 4 none, Cond.methodLink RX0 76 arraycopyName, Cond.native arraycopyName, Cond.static arraycopyName, Cond.initialized "java/lang/System", Cond.fieldLink RX0 31 "Rangeledger$Book" "keyChanges" "I", Cond.methodLink RX0 91 yX0_bounded, Cond.static yX0_bounded, Cond.code yX0_bounded cX0_bounded 1 (some .int), Cond.methodLink RX0 60 Lib.Math.min.name, Cond.static Lib.Math.min.name, Cond.initialized "java/lang/Math", Cond.code Lib.Math.min.name Lib.Math.min.code 2 (some .int), Cond.methodLink RX0 69 Lib.Math.max.name, Cond.static Lib.Math.max.name, Cond.code Lib.Math.max.name Lib.Math.max.code 2 (some .int), Cond.methodLink RX0 94 yX0_enterUnlessZero]
def wsL_merge_r5 : List Cond := [Cond.instanceMethod yX0_enterUnlessZero, Cond.selects RX0 yX0_enterUnlessZero yX0_enterUnlessZero, Cond.code yX0_enterUnlessZero cX0_enterUnlessZero 3 (some .int), Cond.methodLink RX0 97 yX0_removeKey, Cond.instanceMethod yX0_removeKey, Cond.selects RX0 yX0_removeKey yX0_removeKey, Cond.code yX0_removeKey cX0_removeKey 4 (some .int), Cond.methodLink RX0 82 yX0_removeRange, Cond.instanceMethod yX0_removeRange, Cond.selects RX0 yX0_removeRange yX0_removeRange, Cond.code yX0_removeRange cX0_removeRange 3 (some .int)]
def wsL_merge : List Cond := .codeWith yL_merge cL_merge 6 (some .int) [(0, 13, 16, 19), (0, 13, 20, 21)] :: ((wsL_merge_r1 ++ (wsL_merge_r2 ++ (wsL_merge_r3 ++ (wsL_merge_r4 ++ wsL_merge_r5)))) ++ wsX40 ++ wsX30 ++ wsX00 ++ (vx_atS RX3 313 "java/lang/IndexOutOfBoundsException" ["java/lang/RuntimeException", "java/lang/Exception"]).filter goodWord ++ (vx_atS RX3 90 "java/lang/IllegalArgumentException" ["java/lang/RuntimeException", "java/lang/Exception"]).filter goodWord)
def wsL_grow_r1 : List Cond := [Cond.classLink RL 19 "java/lang/IndexOutOfBoundsException", Cond.classLink RL 21 "java/lang/IllegalArgumentException", Cond.methodLink RL 44 yX3_grow, Cond.instanceMethod yX3_grow, Cond.selects RX3 yX3_grow yX3_grow, Cond.initialized RX3, Cond.code yX3_grow cX3_grow 3 (some .int), Cond.methodLink RX3 60 yX3_bookToWriteKey, Cond.instanceMethod yX3_bookToWriteKey, Cond.selects RX3 yX3_bookToWriteKey yX3_bookToWriteKey, Cond.code yX3_bookToWriteKey cX3_bookToWriteKey 4 (some (.object "Rangeledger$Book")), Cond.methodLink RX3 47 yX3_bookAt, Cond.instanceMethod yX3_bookAt, Cond.selects RX3 yX3_bookAt yX3_bookAt, Cond.code yX3_bookAt cX3_bookAt 2 (some (.object "Rangeledger$Book")), Cond.classLink RX3 309 "java/lang/IndexOutOfBoundsException", Cond.initialized "java/lang/IndexOutOfBoundsException", Cond.fieldLink RX3 11 "Rangeledger" "books" "[LRangeledger$Book;", Cond.methodLink RX3 51 yX3_checkKey, Cond.static yX3_checkKey, Cond.code yX3_checkKey cX3_checkKey 1 none, Cond.classLink RX3 86 "java/lang/IllegalArgumentException", Cond.initialized "java/lang/IllegalArgumentException", Cond.methodLink RX3 57 yX0_touch]
def wsL_grow_r2 : List Cond := [Cond.instanceMethod yX0_touch, Cond.selects RX0 yX0_touch yX0_touch, Cond.initialized RX0, Cond.code yX0_touch cX0_touch 1 none, Cond.fieldLink RX0 28 "Rangeledger$Book" "touches" "I", Cond.methodLink RX3 70 yX0_growKey, Cond.instanceMethod yX0_growKey, Cond.selects RX0 yX0_growKey yX0_growKey, Cond.code yX0_growKey cX0_growKey 2 (some .int), Cond.methodLink RX0 85 yX0_holds, Cond.instanceMethod yX0_holds, Cond.selects RX0 yX0_holds yX0_holds, Cond.code yX0_holds cX0_holds 2 (some .boolean), Cond.methodLink RX0 45 yX0_valueOf, Cond.instanceMethod yX0_valueOf, Cond.selects RX0 yX0_valueOf yX0_valueOf, Cond.code yX0_valueOf cX0_valueOf 3 (some .int), Cond.methodLink RX0 48 yX0_placeOf, Cond.instanceMethod yX0_placeOf, Cond.selects RX0 yX0_placeOf yX0_placeOf, Cond.code yX0_placeOf cX0_placeOf 2 (some .int), Cond.methodLink RX0 34 yX0_weight, Cond.instanceMethod yX0_weight, Cond.selects RX0 yX0_weight yX0_weight]
def wsL_grow_r3 : List Cond := [Cond.code yX0_weight cX0_weight 4 (some .int), Cond.fieldLink RX0 22 "Rangeledger$Book" "order" "I", Cond.methodLink RX0 38 yX0_placeOfWeight, Cond.instanceMethod yX0_placeOfWeight, Cond.selects RX0 yX0_placeOfWeight yX0_placeOfWeight, Cond.code yX0_placeOfWeight cX0_placeOfWeight 6 (some .int), Cond.fieldLink RX0 25 "Rangeledger$Book" "size" "I", Cond.fieldLink RX0 15 "Rangeledger$Book" "keys" "[I", Cond.methodLink RX0 51 yX0_keyAt, Cond.instanceMethod yX0_keyAt, Cond.selects RX0 yX0_keyAt yX0_keyAt, Cond.code yX0_keyAt cX0_keyAt 2 (some .int), Cond.methodLink RX0 41 yX0_isPlace, Cond.instanceMethod yX0_isPlace, Cond.selects RX0 yX0_isPlace yX0_isPlace, Cond.code yX0_isPlace cX0_isPlace 2 (some .boolean), Cond.methodLink RX0 54 yX0_valueAt, Cond.instanceMethod yX0_valueAt, Cond.selects RX0 yX0_valueAt yX0_valueAt, Cond.code yX0_valueAt cX0_valueAt 2 (some .int), Cond.fieldLink RX0 19 "Rangeledger$Book" "values" "[I", Cond.methodLink RX0 88 yX0_enter, Cond.instanceMethod yX0_enter, Cond.selects RX0 yX0_enter yX0_enter]
def wsL_grow_r4 : List Cond := [Cond.code yX0_enter cX0_enter 5 (some .int), Cond.methodLink RX0 72 yX0_insert, Cond.instanceMethod yX0_insert, Cond.selects RX0 yX0_insert yX0_insert, Cond.code yX0_insert cX0_insert 4 none, Cond.methodLink RX0 76 arraycopyName, Cond.native arraycopyName, Cond.static arraycopyName, Cond.initialized "java/lang/System", Cond.fieldLink RX0 31 "Rangeledger$Book" "keyChanges" "I"]
def wsL_grow : List Cond := .codeWith yL_grow cL_grow 5 (some .int) [(0, 11, 14, 19), (0, 11, 18, 21)] :: ((wsL_grow_r1 ++ (wsL_grow_r2 ++ (wsL_grow_r3 ++ wsL_grow_r4))) ++ wsX40 ++ wsX30 ++ wsX00 ++ (vx_atS RX3 313 "java/lang/IndexOutOfBoundsException" ["java/lang/RuntimeException", "java/lang/Exception"]).filter goodWord ++ (vx_atS RX3 90 "java/lang/IllegalArgumentException" ["java/lang/RuntimeException", "java/lang/Exception"]).filter goodWord)
def wsL_halve_r1 : List Cond := [Cond.classLink RL 19 "java/lang/IndexOutOfBoundsException", Cond.classLink RL 21 "java/lang/IllegalArgumentException", Cond.methodLink RL 47 yX3_halve, Cond.instanceMethod yX3_halve, Cond.selects RX3 yX3_halve yX3_halve, Cond.initialized RX3, Cond.code yX3_halve cX3_halve 3 (some .int), Cond.methodLink RX3 60 yX3_bookToWriteKey, Cond.instanceMethod yX3_bookToWriteKey, Cond.selects RX3 yX3_bookToWriteKey yX3_bookToWriteKey, Cond.code yX3_bookToWriteKey cX3_bookToWriteKey 4 (some (.object "Rangeledger$Book")), Cond.methodLink RX3 47 yX3_bookAt, Cond.instanceMethod yX3_bookAt, Cond.selects RX3 yX3_bookAt yX3_bookAt, Cond.code yX3_bookAt cX3_bookAt 2 (some (.object "Rangeledger$Book")), Cond.classLink RX3 309 "java/lang/IndexOutOfBoundsException", Cond.initialized "java/lang/IndexOutOfBoundsException", Cond.fieldLink RX3 11 "Rangeledger" "books" "[LRangeledger$Book;", Cond.methodLink RX3 51 yX3_checkKey, Cond.static yX3_checkKey, Cond.code yX3_checkKey cX3_checkKey 1 none, Cond.classLink RX3 86 "java/lang/IllegalArgumentException", Cond.initialized "java/lang/IllegalArgumentException", Cond.methodLink RX3 57 yX0_touch]
def wsL_halve_r2 : List Cond := [Cond.instanceMethod yX0_touch, Cond.selects RX0 yX0_touch yX0_touch, Cond.initialized RX0, Cond.code yX0_touch cX0_touch 1 none, Cond.fieldLink RX0 28 "Rangeledger$Book" "touches" "I", Cond.methodLink RX3 73 yX0_halveKey, Cond.instanceMethod yX0_halveKey, Cond.selects RX0 yX0_halveKey yX0_halveKey, Cond.code yX0_halveKey cX0_halveKey 2 (some .int), Cond.methodLink RX0 85 yX0_holds, Cond.instanceMethod yX0_holds, Cond.selects RX0 yX0_holds yX0_holds, Cond.code yX0_holds cX0_holds 2 (some .boolean), Cond.methodLink RX0 45 yX0_valueOf, Cond.instanceMethod yX0_valueOf, Cond.selects RX0 yX0_valueOf yX0_valueOf, Cond.code yX0_valueOf cX0_valueOf 3 (some .int), Cond.methodLink RX0 48 yX0_placeOf, Cond.instanceMethod yX0_placeOf, Cond.selects RX0 yX0_placeOf yX0_placeOf, Cond.code yX0_placeOf cX0_placeOf 2 (some .int), Cond.methodLink RX0 34 yX0_weight, Cond.instanceMethod yX0_weight, Cond.selects RX0 yX0_weight yX0_weight]
def wsL_halve_r3 : List Cond := [Cond.code yX0_weight cX0_weight 4 (some .int), Cond.fieldLink RX0 22 "Rangeledger$Book" "order" "I", Cond.methodLink RX0 38 yX0_placeOfWeight, Cond.instanceMethod yX0_placeOfWeight, Cond.selects RX0 yX0_placeOfWeight yX0_placeOfWeight, Cond.code yX0_placeOfWeight cX0_placeOfWeight 6 (some .int), Cond.fieldLink RX0 25 "Rangeledger$Book" "size" "I", Cond.fieldLink RX0 15 "Rangeledger$Book" "keys" "[I", Cond.methodLink RX0 51 yX0_keyAt, Cond.instanceMethod yX0_keyAt, Cond.selects RX0 yX0_keyAt yX0_keyAt, Cond.code yX0_keyAt cX0_keyAt 2 (some .int), Cond.methodLink RX0 41 yX0_isPlace, Cond.instanceMethod yX0_isPlace, Cond.selects RX0 yX0_isPlace yX0_isPlace, Cond.code yX0_isPlace cX0_isPlace 2 (some .boolean), Cond.methodLink RX0 54 yX0_valueAt, Cond.instanceMethod yX0_valueAt, Cond.selects RX0 yX0_valueAt yX0_valueAt, Cond.code yX0_valueAt cX0_valueAt 2 (some .int), Cond.fieldLink RX0 19 "Rangeledger$Book" "values" "[I", Cond.methodLink RX0 94 yX0_enterUnlessZero, Cond.instanceMethod yX0_enterUnlessZero, Cond.selects RX0 yX0_enterUnlessZero yX0_enterUnlessZero]
def wsL_halve_r4 : List Cond := [Cond.code yX0_enterUnlessZero cX0_enterUnlessZero 3 (some .int), Cond.methodLink RX0 97 yX0_removeKey, Cond.instanceMethod yX0_removeKey, Cond.selects RX0 yX0_removeKey yX0_removeKey, Cond.code yX0_removeKey cX0_removeKey 4 (some .int), Cond.methodLink RX0 82 yX0_removeRange, Cond.instanceMethod yX0_removeRange, Cond.selects RX0 yX0_removeRange yX0_removeRange, Cond.code yX0_removeRange cX0_removeRange 3 (some .int), Cond.methodLink RX0 76 arraycopyName, Cond.native arraycopyName, Cond.static arraycopyName, Cond.initialized "java/lang/System", Cond.fieldLink RX0 31 "Rangeledger$Book" "keyChanges" "I", Cond.methodLink RX0 88 yX0_enter, Cond.instanceMethod yX0_enter, Cond.selects RX0 yX0_enter yX0_enter, Cond.code yX0_enter cX0_enter 5 (some .int), Cond.methodLink RX0 72 yX0_insert, Cond.instanceMethod yX0_insert, Cond.selects RX0 yX0_insert yX0_insert, Cond.code yX0_insert cX0_insert 4 none]
def wsL_halve : List Cond := .codeWith yL_halve cL_halve 5 (some .int) [(0, 11, 14, 19), (0, 11, 18, 21)] :: ((wsL_halve_r1 ++ (wsL_halve_r2 ++ (wsL_halve_r3 ++ wsL_halve_r4))) ++ wsX40 ++ wsX30 ++ wsX00 ++ (vx_atS RX3 313 "java/lang/IndexOutOfBoundsException" ["java/lang/RuntimeException", "java/lang/Exception"]).filter goodWord ++ (vx_atS RX3 90 "java/lang/IllegalArgumentException" ["java/lang/RuntimeException", "java/lang/Exception"]).filter goodWord)
def wsL_twice_r1 : List Cond := [Cond.classLink RL 19 "java/lang/IndexOutOfBoundsException", Cond.classLink RL 21 "java/lang/IllegalArgumentException", Cond.methodLink RL 50 yX3_twice, Cond.instanceMethod yX3_twice, Cond.selects RX3 yX3_twice yX3_twice, Cond.initialized RX3, Cond.code yX3_twice cX3_twice 3 (some .int), Cond.methodLink RX3 60 yX3_bookToWriteKey, Cond.instanceMethod yX3_bookToWriteKey, Cond.selects RX3 yX3_bookToWriteKey yX3_bookToWriteKey, Cond.code yX3_bookToWriteKey cX3_bookToWriteKey 4 (some (.object "Rangeledger$Book")), Cond.methodLink RX3 47 yX3_bookAt, Cond.instanceMethod yX3_bookAt, Cond.selects RX3 yX3_bookAt yX3_bookAt, Cond.code yX3_bookAt cX3_bookAt 2 (some (.object "Rangeledger$Book")), Cond.classLink RX3 309 "java/lang/IndexOutOfBoundsException", Cond.initialized "java/lang/IndexOutOfBoundsException", Cond.fieldLink RX3 11 "Rangeledger" "books" "[LRangeledger$Book;", Cond.methodLink RX3 51 yX3_checkKey, Cond.static yX3_checkKey, Cond.code yX3_checkKey cX3_checkKey 1 none, Cond.classLink RX3 86 "java/lang/IllegalArgumentException", Cond.initialized "java/lang/IllegalArgumentException", Cond.methodLink RX3 57 yX0_touch]
def wsL_twice_r2 : List Cond := [Cond.instanceMethod yX0_touch, Cond.selects RX0 yX0_touch yX0_touch, Cond.initialized RX0, Cond.code yX0_touch cX0_touch 1 none, Cond.fieldLink RX0 28 "Rangeledger$Book" "touches" "I", Cond.methodLink RX3 76 yX0_doubleKey, Cond.instanceMethod yX0_doubleKey, Cond.selects RX0 yX0_doubleKey yX0_doubleKey, Cond.code yX0_doubleKey cX0_doubleKey 3 (some .int), Cond.methodLink RX0 45 yX0_valueOf, Cond.instanceMethod yX0_valueOf, Cond.selects RX0 yX0_valueOf yX0_valueOf, Cond.code yX0_valueOf cX0_valueOf 3 (some .int), Cond.methodLink RX0 48 yX0_placeOf, Cond.instanceMethod yX0_placeOf, Cond.selects RX0 yX0_placeOf yX0_placeOf, Cond.code yX0_placeOf cX0_placeOf 2 (some .int), Cond.methodLink RX0 34 yX0_weight, Cond.instanceMethod yX0_weight, Cond.selects RX0 yX0_weight yX0_weight, Cond.code yX0_weight cX0_weight 4 (some .int), Cond.fieldLink RX0 22 "Rangeledger$Book" "order" "I", Cond.methodLink RX0 38 yX0_placeOfWeight, Cond.instanceMethod yX0_placeOfWeight]
def wsL_twice_r3 : List Cond := [Cond.selects RX0 yX0_placeOfWeight yX0_placeOfWeight, Cond.code yX0_placeOfWeight cX0_placeOfWeight 6 (some .int), Cond.fieldLink RX0 25 "Rangeledger$Book" "size" "I", Cond.fieldLink RX0 15 "Rangeledger$Book" "keys" "[I", Cond.methodLink RX0 51 yX0_keyAt, Cond.instanceMethod yX0_keyAt, Cond.selects RX0 yX0_keyAt yX0_keyAt, Cond.code yX0_keyAt cX0_keyAt 2 (some .int), Cond.methodLink RX0 41 yX0_isPlace, Cond.instanceMethod yX0_isPlace, Cond.selects RX0 yX0_isPlace yX0_isPlace, Cond.code yX0_isPlace cX0_isPlace 2 (some .boolean), Cond.methodLink RX0 54 yX0_valueAt, Cond.instanceMethod yX0_valueAt, Cond.selects RX0 yX0_valueAt yX0_valueAt, Cond.code yX0_valueAt cX0_valueAt 2 (some .int), Cond.fieldLink RX0 19 "Rangeledger$Book" "values" "[I", Cond.methodLink RX0 88 yX0_enter, Cond.instanceMethod yX0_enter, Cond.selects RX0 yX0_enter yX0_enter, Cond.code yX0_enter cX0_enter 5 (some .int), Cond.methodLink RX0 72 yX0_insert, Cond.instanceMethod yX0_insert, Cond.selects RX0 yX0_insert yX0_insert]
def wsL_twice_r4 : List Cond := [Cond.code yX0_insert cX0_insert 4 none, Cond.methodLink RX0 76 arraycopyName, Cond.native arraycopyName, Cond.static arraycopyName, Cond.initialized "java/lang/System", Cond.fieldLink RX0 31 "Rangeledger$Book" "keyChanges" "I", Cond.methodLink RX0 97 yX0_removeKey, Cond.instanceMethod yX0_removeKey, Cond.selects RX0 yX0_removeKey yX0_removeKey, Cond.code yX0_removeKey cX0_removeKey 4 (some .int), Cond.methodLink RX0 82 yX0_removeRange, Cond.instanceMethod yX0_removeRange, Cond.selects RX0 yX0_removeRange yX0_removeRange, Cond.code yX0_removeRange cX0_removeRange 3 (some .int)]
def wsL_twice : List Cond := .codeWith yL_twice cL_twice 5 (some .int) [(0, 11, 14, 19), (0, 11, 18, 21)] :: ((wsL_twice_r1 ++ (wsL_twice_r2 ++ (wsL_twice_r3 ++ wsL_twice_r4))) ++ wsX40 ++ wsX30 ++ wsX00 ++ (vx_atS RX3 313 "java/lang/IndexOutOfBoundsException" ["java/lang/RuntimeException", "java/lang/Exception"]).filter goodWord ++ (vx_atS RX3 90 "java/lang/IllegalArgumentException" ["java/lang/RuntimeException", "java/lang/Exception"]).filter goodWord)
def wsL_poll_r1 : List Cond := [Cond.classLink RL 19 "java/lang/IndexOutOfBoundsException", Cond.methodLink RL 53 yX3_poll, Cond.instanceMethod yX3_poll, Cond.selects RX3 yX3_poll yX3_poll, Cond.initialized RX3, Cond.code yX3_poll cX3_poll 4 (some .int), Cond.methodLink RX3 47 yX3_bookAt, Cond.instanceMethod yX3_bookAt, Cond.selects RX3 yX3_bookAt yX3_bookAt, Cond.code yX3_bookAt cX3_bookAt 2 (some (.object "Rangeledger$Book")), Cond.classLink RX3 309 "java/lang/IndexOutOfBoundsException", Cond.initialized "java/lang/IndexOutOfBoundsException", Cond.fieldLink RX3 11 "Rangeledger" "books" "[LRangeledger$Book;", Cond.methodLink RX3 57 yX0_touch, Cond.instanceMethod yX0_touch, Cond.selects RX0 yX0_touch yX0_touch, Cond.initialized RX0, Cond.code yX0_touch cX0_touch 1 none, Cond.fieldLink RX0 28 "Rangeledger$Book" "touches" "I", Cond.methodLink RX3 79 yX0_size, Cond.instanceMethod yX0_size, Cond.selects RX0 yX0_size yX0_size, Cond.code yX0_size cX0_size 1 (some .int), Cond.fieldLink RX0 25 "Rangeledger$Book" "size" "I"]
def wsL_poll_r2 : List Cond := [Cond.methodLink RX3 83 yX0_removeAt, Cond.instanceMethod yX0_removeAt, Cond.selects RX0 yX0_removeAt yX0_removeAt, Cond.code yX0_removeAt cX0_removeAt 3 (some .int), Cond.methodLink RX0 51 yX0_keyAt, Cond.instanceMethod yX0_keyAt, Cond.selects RX0 yX0_keyAt yX0_keyAt, Cond.code yX0_keyAt cX0_keyAt 2 (some .int), Cond.fieldLink RX0 15 "Rangeledger$Book" "keys" "[I", Cond.methodLink RX0 41 yX0_isPlace, Cond.instanceMethod yX0_isPlace, Cond.selects RX0 yX0_isPlace yX0_isPlace, Cond.code yX0_isPlace cX0_isPlace 2 (some .boolean), Cond.methodLink RX0 82 yX0_removeRange, Cond.instanceMethod yX0_removeRange, Cond.selects RX0 yX0_removeRange yX0_removeRange, Cond.code yX0_removeRange cX0_removeRange 3 (some .int), Cond.methodLink RX0 76 arraycopyName, Cond.native arraycopyName, Cond.static arraycopyName, Cond.initialized "java/lang/System", Cond.fieldLink RX0 19 "Rangeledger$Book" "values" "[I", Cond.fieldLink RX0 31 "Rangeledger$Book" "keyChanges" "I"]
def wsL_poll : List Cond := .codeWith yL_poll cL_poll 5 (some .int) [(0, 11, 14, 19)] :: ((wsL_poll_r1 ++ wsL_poll_r2) ++ wsX40 ++ wsX30 ++ wsX00 ++ (vx_atS RX3 313 "java/lang/IndexOutOfBoundsException" ["java/lang/RuntimeException", "java/lang/Exception"]).filter goodWord)
def wsL_raise_r1 : List Cond := [Cond.classLink RL 19 "java/lang/IndexOutOfBoundsException", Cond.classLink RL 21 "java/lang/IllegalArgumentException", Cond.methodLink RL 57 yX3_raise, Cond.instanceMethod yX3_raise, Cond.selects RX3 yX3_raise yX3_raise, Cond.initialized RX3, Cond.code yX3_raise cX3_raise 4 (some .int), Cond.classLink RX3 86 "java/lang/IllegalArgumentException", Cond.initialized "java/lang/IllegalArgumentException", Cond.methodLink RX3 47 yX3_bookAt, Cond.instanceMethod yX3_bookAt, Cond.selects RX3 yX3_bookAt yX3_bookAt, Cond.code yX3_bookAt cX3_bookAt 2 (some (.object "Rangeledger$Book")), Cond.classLink RX3 309 "java/lang/IndexOutOfBoundsException", Cond.initialized "java/lang/IndexOutOfBoundsException", Cond.fieldLink RX3 11 "Rangeledger" "books" "[LRangeledger$Book;", Cond.methodLink RX3 57 yX0_touch, Cond.instanceMethod yX0_touch, Cond.selects RX0 yX0_touch yX0_touch, Cond.initialized RX0, Cond.code yX0_touch cX0_touch 1 none, Cond.fieldLink RX0 28 "Rangeledger$Book" "touches" "I", Cond.methodLink RX3 93 yX0_raiseAll, Cond.instanceMethod yX0_raiseAll]
def wsL_raise_r2 : List Cond := [Cond.selects RX0 yX0_raiseAll yX0_raiseAll, Cond.code yX0_raiseAll cX0_raiseAll 5 (some .int), Cond.fieldLink RX0 25 "Rangeledger$Book" "size" "I", Cond.fieldLink RX0 19 "Rangeledger$Book" "values" "[I", Cond.methodLink RX0 91 yX0_bounded, Cond.static yX0_bounded, Cond.code yX0_bounded cX0_bounded 1 (some .int), Cond.methodLink RX0 60 Lib.Math.min.name, Cond.static Lib.Math.min.name, Cond.initialized "java/lang/Math", Cond.code Lib.Math.min.name Lib.Math.min.code 2 (some .int), Cond.methodLink RX0 69 Lib.Math.max.name, Cond.static Lib.Math.max.name, Cond.code Lib.Math.max.name Lib.Math.max.code 2 (some .int)]
def wsL_raise : List Cond := .codeWith yL_raise cL_raise 5 (some .int) [(0, 11, 14, 19), (0, 11, 18, 21)] :: ((wsL_raise_r1 ++ wsL_raise_r2) ++ wsX40 ++ wsX30 ++ wsX00 ++ (vx_atS RX3 90 "java/lang/IllegalArgumentException" ["java/lang/RuntimeException", "java/lang/Exception"]).filter goodWord ++ (vx_atS RX3 313 "java/lang/IndexOutOfBoundsException" ["java/lang/RuntimeException", "java/lang/Exception"]).filter goodWord)
def wsL_sift_r1 : List Cond := [Cond.classLink RL 19 "java/lang/IndexOutOfBoundsException", Cond.classLink RL 21 "java/lang/IllegalArgumentException", Cond.methodLink RL 60 yX3_sift, Cond.instanceMethod yX3_sift, Cond.selects RX3 yX3_sift yX3_sift, Cond.initialized RX3, Cond.code yX3_sift cX3_sift 4 (some .int), Cond.classLink RX3 86 "java/lang/IllegalArgumentException", Cond.initialized "java/lang/IllegalArgumentException", Cond.methodLink RX3 47 yX3_bookAt, Cond.instanceMethod yX3_bookAt, Cond.selects RX3 yX3_bookAt yX3_bookAt, Cond.code yX3_bookAt cX3_bookAt 2 (some (.object "Rangeledger$Book")), Cond.classLink RX3 309 "java/lang/IndexOutOfBoundsException", Cond.initialized "java/lang/IndexOutOfBoundsException", Cond.fieldLink RX3 11 "Rangeledger" "books" "[LRangeledger$Book;", Cond.methodLink RX3 57 yX0_touch, Cond.instanceMethod yX0_touch, Cond.selects RX0 yX0_touch yX0_touch, Cond.initialized RX0, Cond.code yX0_touch cX0_touch 1 none, Cond.fieldLink RX0 28 "Rangeledger$Book" "touches" "I", Cond.methodLink RX3 98 yX0_removeMultiples, Cond.instanceMethod yX0_removeMultiples]
def wsL_sift_r2 : List Cond := [Cond.selects RX0 yX0_removeMultiples yX0_removeMultiples, Cond.code yX0_removeMultiples cX0_removeMultiples 4 (some .int), Cond.fieldLink RX0 25 "Rangeledger$Book" "size" "I", Cond.methodLink RX0 54 yX0_valueAt, Cond.instanceMethod yX0_valueAt, Cond.selects RX0 yX0_valueAt yX0_valueAt, Cond.code yX0_valueAt cX0_valueAt 2 (some .int), Cond.fieldLink RX0 19 "Rangeledger$Book" "values" "[I", Cond.methodLink RX0 41 yX0_isPlace, Cond.instanceMethod yX0_isPlace, Cond.selects RX0 yX0_isPlace yX0_isPlace, Cond.code yX0_isPlace cX0_isPlace 2 (some .boolean), Cond.methodLink RX0 100 yX0_removeAt, Cond.instanceMethod yX0_removeAt, Cond.selects RX0 yX0_removeAt yX0_removeAt, Cond.code yX0_removeAt cX0_removeAt 3 (some .int), Cond.methodLink RX0 51 yX0_keyAt, Cond.instanceMethod yX0_keyAt, Cond.selects RX0 yX0_keyAt yX0_keyAt, Cond.code yX0_keyAt cX0_keyAt 2 (some .int), Cond.fieldLink RX0 15 "Rangeledger$Book" "keys" "[I", Cond.methodLink RX0 82 yX0_removeRange, Cond.instanceMethod yX0_removeRange, Cond.selects RX0 yX0_removeRange yX0_removeRange]
def wsL_sift_r3 : List Cond := [Cond.code yX0_removeRange cX0_removeRange 3 (some .int), Cond.methodLink RX0 76 arraycopyName, Cond.native arraycopyName, Cond.static arraycopyName, Cond.initialized "java/lang/System", Cond.fieldLink RX0 31 "Rangeledger$Book" "keyChanges" "I"]
def wsL_sift : List Cond := .codeWith yL_sift cL_sift 5 (some .int) [(0, 11, 14, 19), (0, 11, 18, 21)] :: ((wsL_sift_r1 ++ (wsL_sift_r2 ++ wsL_sift_r3)) ++ wsX40 ++ wsX30 ++ wsX00 ++ (vx_atS RX3 90 "java/lang/IllegalArgumentException" ["java/lang/RuntimeException", "java/lang/Exception"]).filter goodWord ++ (vx_atS RX3 313 "java/lang/IndexOutOfBoundsException" ["java/lang/RuntimeException", "java/lang/Exception"]).filter goodWord)
def wsL_strikeValue_r1 : List Cond := [Cond.classLink RL 19 "java/lang/IndexOutOfBoundsException", Cond.classLink RL 21 "java/lang/IllegalArgumentException", Cond.classLink RL 67 "java/lang/IllegalStateException", Cond.methodLink RL 63 yX3_strikeValue, Cond.instanceMethod yX3_strikeValue, Cond.selects RX3 yX3_strikeValue yX3_strikeValue, Cond.initialized RX3, Cond.code yX3_strikeValue cX3_strikeValue 5 (some .boolean), Cond.classLink RX3 104 "java/lang/IllegalStateException", Cond.initialized "java/lang/IllegalStateException", Cond.methodLink RX3 47 yX3_bookAt, Cond.instanceMethod yX3_bookAt, Cond.selects RX3 yX3_bookAt yX3_bookAt, Cond.code yX3_bookAt cX3_bookAt 2 (some (.object "Rangeledger$Book")), Cond.classLink RX3 309 "java/lang/IndexOutOfBoundsException", Cond.initialized "java/lang/IndexOutOfBoundsException", Cond.fieldLink RX3 11 "Rangeledger" "books" "[LRangeledger$Book;", Cond.methodLink RX3 54 yX3_checkValue, Cond.static yX3_checkValue, Cond.code yX3_checkValue cX3_checkValue 1 none, Cond.classLink RX3 86 "java/lang/IllegalArgumentException", Cond.initialized "java/lang/IllegalArgumentException", Cond.methodLink RX3 101 yX0_countOfValue, Cond.instanceMethod yX0_countOfValue]
def wsL_strikeValue_r2 : List Cond := [Cond.selects RX0 yX0_countOfValue yX0_countOfValue, Cond.initialized RX0, Cond.code yX0_countOfValue cX0_countOfValue 4 (some .int), Cond.fieldLink RX0 25 "Rangeledger$Book" "size" "I", Cond.fieldLink RX0 19 "Rangeledger$Book" "values" "[I", Cond.methodLink RX3 57 yX0_touch, Cond.instanceMethod yX0_touch, Cond.selects RX0 yX0_touch yX0_touch, Cond.code yX0_touch cX0_touch 1 none, Cond.fieldLink RX0 28 "Rangeledger$Book" "touches" "I", Cond.methodLink RX3 109 yX0_firstPlaceOfValue, Cond.instanceMethod yX0_firstPlaceOfValue, Cond.selects RX0 yX0_firstPlaceOfValue yX0_firstPlaceOfValue, Cond.code yX0_firstPlaceOfValue cX0_firstPlaceOfValue 3 (some .int), Cond.methodLink RX3 83 yX0_removeAt, Cond.instanceMethod yX0_removeAt, Cond.selects RX0 yX0_removeAt yX0_removeAt, Cond.code yX0_removeAt cX0_removeAt 3 (some .int), Cond.methodLink RX0 51 yX0_keyAt, Cond.instanceMethod yX0_keyAt, Cond.selects RX0 yX0_keyAt yX0_keyAt, Cond.code yX0_keyAt cX0_keyAt 2 (some .int), Cond.fieldLink RX0 15 "Rangeledger$Book" "keys" "[I", Cond.methodLink RX0 41 yX0_isPlace]
def wsL_strikeValue_r3 : List Cond := [Cond.instanceMethod yX0_isPlace, Cond.selects RX0 yX0_isPlace yX0_isPlace, Cond.code yX0_isPlace cX0_isPlace 2 (some .boolean), Cond.methodLink RX0 82 yX0_removeRange, Cond.instanceMethod yX0_removeRange, Cond.selects RX0 yX0_removeRange yX0_removeRange, Cond.code yX0_removeRange cX0_removeRange 3 (some .int), Cond.methodLink RX0 76 arraycopyName, Cond.native arraycopyName, Cond.static arraycopyName, Cond.initialized "java/lang/System", Cond.fieldLink RX0 31 "Rangeledger$Book" "keyChanges" "I"]
def wsL_strikeValue : List Cond := .codeWith yL_strikeValue cL_strikeValue 5 (some .int) [(0, 18, 21, 19), (0, 18, 25, 21), (0, 18, 29, 67)] :: ((wsL_strikeValue_r1 ++ (wsL_strikeValue_r2 ++ wsL_strikeValue_r3)) ++ wsX40 ++ wsX30 ++ wsX00 ++ (vx_atS RX3 108 "java/lang/IllegalStateException" ["java/lang/RuntimeException", "java/lang/Exception"]).filter goodWord ++ (vx_atS RX3 313 "java/lang/IndexOutOfBoundsException" ["java/lang/RuntimeException", "java/lang/Exception"]).filter goodWord ++ (vx_atS RX3 90 "java/lang/IllegalArgumentException" ["java/lang/RuntimeException", "java/lang/Exception"]).filter goodWord)
def wsL_clear_r1 : List Cond := [Cond.classLink RL 19 "java/lang/IndexOutOfBoundsException", Cond.methodLink RL 69 yX3_clear, Cond.instanceMethod yX3_clear, Cond.selects RX3 yX3_clear yX3_clear, Cond.initialized RX3, Cond.code yX3_clear cX3_clear 3 (some .int), Cond.methodLink RX3 47 yX3_bookAt, Cond.instanceMethod yX3_bookAt, Cond.selects RX3 yX3_bookAt yX3_bookAt, Cond.code yX3_bookAt cX3_bookAt 2 (some (.object "Rangeledger$Book")), Cond.classLink RX3 309 "java/lang/IndexOutOfBoundsException", Cond.initialized "java/lang/IndexOutOfBoundsException", Cond.fieldLink RX3 11 "Rangeledger" "books" "[LRangeledger$Book;", Cond.methodLink RX3 57 yX0_touch, Cond.instanceMethod yX0_touch, Cond.selects RX0 yX0_touch yX0_touch, Cond.initialized RX0, Cond.code yX0_touch cX0_touch 1 none, Cond.fieldLink RX0 28 "Rangeledger$Book" "touches" "I", Cond.methodLink RX3 79 yX0_size, Cond.instanceMethod yX0_size, Cond.selects RX0 yX0_size yX0_size, Cond.code yX0_size cX0_size 1 (some .int), Cond.fieldLink RX0 25 "Rangeledger$Book" "size" "I"]
def wsL_clear_r2 : List Cond := [Cond.methodLink RX3 112 yX0_removeRange, Cond.instanceMethod yX0_removeRange, Cond.selects RX0 yX0_removeRange yX0_removeRange, Cond.code yX0_removeRange cX0_removeRange 3 (some .int), Cond.fieldLink RX0 15 "Rangeledger$Book" "keys" "[I", Cond.methodLink RX0 76 arraycopyName, Cond.native arraycopyName, Cond.static arraycopyName, Cond.initialized "java/lang/System", Cond.fieldLink RX0 19 "Rangeledger$Book" "values" "[I", Cond.fieldLink RX0 31 "Rangeledger$Book" "keyChanges" "I"]
def wsL_clear : List Cond := .codeWith yL_clear cL_clear 4 (some .int) [(0, 10, 13, 19)] :: ((wsL_clear_r1 ++ wsL_clear_r2) ++ wsX40 ++ wsX30 ++ wsX00 ++ (vx_atS RX3 313 "java/lang/IndexOutOfBoundsException" ["java/lang/RuntimeException", "java/lang/Exception"]).filter goodWord)
def wsL_pour_r1 : List Cond := [Cond.classLink RL 19 "java/lang/IndexOutOfBoundsException", Cond.classLink RL 21 "java/lang/IllegalArgumentException", Cond.methodLink RL 73 yX3_pour, Cond.instanceMethod yX3_pour, Cond.selects RX3 yX3_pour yX3_pour, Cond.initialized RX3, Cond.code yX3_pour cX3_pour 5 (some .int), Cond.methodLink RX3 47 yX3_bookAt, Cond.instanceMethod yX3_bookAt, Cond.selects RX3 yX3_bookAt yX3_bookAt, Cond.code yX3_bookAt cX3_bookAt 2 (some (.object "Rangeledger$Book")), Cond.classLink RX3 309 "java/lang/IndexOutOfBoundsException", Cond.initialized "java/lang/IndexOutOfBoundsException", Cond.fieldLink RX3 11 "Rangeledger" "books" "[LRangeledger$Book;", Cond.methodLink RX3 115 yX3_checkUnlike, Cond.static yX3_checkUnlike, Cond.code yX3_checkUnlike cX3_checkUnlike 2 none, Cond.classLink RX3 86 "java/lang/IllegalArgumentException", Cond.initialized "java/lang/IllegalArgumentException", Cond.methodLink RX3 57 yX0_touch, Cond.instanceMethod yX0_touch, Cond.selects RX0 yX0_touch yX0_touch, Cond.initialized RX0, Cond.code yX0_touch cX0_touch 1 none]
def wsL_pour_r2 : List Cond := [Cond.fieldLink RX0 28 "Rangeledger$Book" "touches" "I", Cond.methodLink RX3 119 yX0_enterAll, Cond.instanceMethod yX0_enterAll, Cond.selects RX0 yX0_enterAll yX0_enterAll, Cond.code yX0_enterAll cX0_enterAll 3 none, Cond.methodLink RX0 103 yX0_size, Cond.instanceMethod yX0_size, Cond.selects RX0 yX0_size yX0_size, Cond.code yX0_size cX0_size 1 (some .int), Cond.fieldLink RX0 25 "Rangeledger$Book" "size" "I", Cond.methodLink RX0 51 yX0_keyAt, Cond.instanceMethod yX0_keyAt, Cond.selects RX0 yX0_keyAt yX0_keyAt, Cond.code yX0_keyAt cX0_keyAt 2 (some .int), Cond.fieldLink RX0 15 "Rangeledger$Book" "keys" "[I", Cond.methodLink RX0 41 yX0_isPlace, Cond.instanceMethod yX0_isPlace, Cond.selects RX0 yX0_isPlace yX0_isPlace, Cond.code yX0_isPlace cX0_isPlace 2 (some .boolean), Cond.methodLink RX0 54 yX0_valueAt, Cond.instanceMethod yX0_valueAt, Cond.selects RX0 yX0_valueAt yX0_valueAt, Cond.code yX0_valueAt cX0_valueAt 2 (some .int), Cond.fieldLink RX0 19 "Rangeledger$Book" "values" "[I"]
def wsL_pour_r3 : List Cond := [Cond.methodLink RX0 88 yX0_enter, Cond.instanceMethod yX0_enter, Cond.selects RX0 yX0_enter yX0_enter, Cond.code yX0_enter cX0_enter 5 (some .int), Cond.methodLink RX0 48 yX0_placeOf, Cond.instanceMethod yX0_placeOf, Cond.selects RX0 yX0_placeOf yX0_placeOf, Cond.code yX0_placeOf cX0_placeOf 2 (some .int), Cond.methodLink RX0 34 yX0_weight, Cond.instanceMethod yX0_weight, Cond.selects RX0 yX0_weight yX0_weight, Cond.code yX0_weight cX0_weight 4 (some .int), Cond.fieldLink RX0 22 "Rangeledger$Book" "order" "I", Cond.methodLink RX0 38 yX0_placeOfWeight, Cond.instanceMethod yX0_placeOfWeight, Cond.selects RX0 yX0_placeOfWeight yX0_placeOfWeight, Cond.code yX0_placeOfWeight cX0_placeOfWeight 6 (some .int), Cond.methodLink RX0 72 yX0_insert, Cond.instanceMethod yX0_insert, Cond.selects RX0 yX0_insert yX0_insert, Cond.code yX0_insert cX0_insert 4 none, Cond.methodLink RX0 76 arraycopyName, Cond.native arraycopyName, Cond.static arraycopyName]
def wsL_pour_r4 : List Cond := [Cond.initialized "java/lang/System", Cond.fieldLink RX0 31 "Rangeledger$Book" "keyChanges" "I", Cond.methodLink RX3 79 yX0_size]
def wsL_pour : List Cond := .codeWith yL_pour cL_pour 5 (some .int) [(0, 11, 14, 19), (0, 11, 18, 21)] :: ((wsL_pour_r1 ++ (wsL_pour_r2 ++ (wsL_pour_r3 ++ wsL_pour_r4))) ++ wsX40 ++ wsX30 ++ wsX00 ++ (vx_atS RX3 313 "java/lang/IndexOutOfBoundsException" ["java/lang/RuntimeException", "java/lang/Exception"]).filter goodWord ++ (vx_atS RX3 90 "java/lang/IllegalArgumentException" ["java/lang/RuntimeException", "java/lang/Exception"]).filter goodWord)
def wsL_copy_r1 : List Cond := [Cond.classLink RL 19 "java/lang/IndexOutOfBoundsException", Cond.classLink RL 21 "java/lang/IllegalArgumentException", Cond.methodLink RL 76 yX3_copy, Cond.instanceMethod yX3_copy, Cond.selects RX3 yX3_copy yX3_copy, Cond.initialized RX3, Cond.code yX3_copy cX3_copy 5 (some .int), Cond.fieldLink RX3 126 "Rangeledger" "ongoing" "LRangeledger$Walk;", Cond.methodLink RX3 47 yX3_bookAt, Cond.instanceMethod yX3_bookAt, Cond.selects RX3 yX3_bookAt yX3_bookAt, Cond.code yX3_bookAt cX3_bookAt 2 (some (.object "Rangeledger$Book")), Cond.classLink RX3 309 "java/lang/IndexOutOfBoundsException", Cond.initialized "java/lang/IndexOutOfBoundsException", Cond.fieldLink RX3 11 "Rangeledger" "books" "[LRangeledger$Book;", Cond.methodLink RX3 115 yX3_checkUnlike, Cond.static yX3_checkUnlike, Cond.code yX3_checkUnlike cX3_checkUnlike 2 none, Cond.classLink RX3 86 "java/lang/IllegalArgumentException", Cond.initialized "java/lang/IllegalArgumentException", Cond.methodLink RX3 123 yX0_becomeLike, Cond.instanceMethod yX0_becomeLike, Cond.selects RX0 yX0_becomeLike yX0_becomeLike, Cond.initialized RX0]
def wsL_copy_r2 : List Cond := [Cond.code yX0_becomeLike cX0_becomeLike 2 none, Cond.fieldLink RX0 25 "Rangeledger$Book" "size" "I", Cond.fieldLink RX0 22 "Rangeledger$Book" "order" "I", Cond.methodLink RX0 82 yX0_removeRange, Cond.instanceMethod yX0_removeRange, Cond.selects RX0 yX0_removeRange yX0_removeRange, Cond.code yX0_removeRange cX0_removeRange 3 (some .int), Cond.fieldLink RX0 15 "Rangeledger$Book" "keys" "[I", Cond.methodLink RX0 76 arraycopyName, Cond.native arraycopyName, Cond.static arraycopyName, Cond.initialized "java/lang/System", Cond.fieldLink RX0 19 "Rangeledger$Book" "values" "[I", Cond.fieldLink RX0 31 "Rangeledger$Book" "keyChanges" "I", Cond.methodLink RX0 106 yX0_order, Cond.instanceMethod yX0_order, Cond.selects RX0 yX0_order yX0_order, Cond.code yX0_order cX0_order 1 (some .int), Cond.methodLink RX0 108 yX0_enterAll, Cond.instanceMethod yX0_enterAll, Cond.selects RX0 yX0_enterAll yX0_enterAll, Cond.code yX0_enterAll cX0_enterAll 3 none, Cond.methodLink RX0 103 yX0_size, Cond.instanceMethod yX0_size]
def wsL_copy_r3 : List Cond := [Cond.selects RX0 yX0_size yX0_size, Cond.code yX0_size cX0_size 1 (some .int), Cond.methodLink RX0 51 yX0_keyAt, Cond.instanceMethod yX0_keyAt, Cond.selects RX0 yX0_keyAt yX0_keyAt, Cond.code yX0_keyAt cX0_keyAt 2 (some .int), Cond.methodLink RX0 41 yX0_isPlace, Cond.instanceMethod yX0_isPlace, Cond.selects RX0 yX0_isPlace yX0_isPlace, Cond.code yX0_isPlace cX0_isPlace 2 (some .boolean), Cond.methodLink RX0 54 yX0_valueAt, Cond.instanceMethod yX0_valueAt, Cond.selects RX0 yX0_valueAt yX0_valueAt, Cond.code yX0_valueAt cX0_valueAt 2 (some .int), Cond.methodLink RX0 88 yX0_enter, Cond.instanceMethod yX0_enter, Cond.selects RX0 yX0_enter yX0_enter, Cond.code yX0_enter cX0_enter 5 (some .int), Cond.methodLink RX0 48 yX0_placeOf, Cond.instanceMethod yX0_placeOf, Cond.selects RX0 yX0_placeOf yX0_placeOf, Cond.code yX0_placeOf cX0_placeOf 2 (some .int), Cond.methodLink RX0 34 yX0_weight, Cond.instanceMethod yX0_weight]
def wsL_copy_r4 : List Cond := [Cond.selects RX0 yX0_weight yX0_weight, Cond.code yX0_weight cX0_weight 4 (some .int), Cond.methodLink RX0 38 yX0_placeOfWeight, Cond.instanceMethod yX0_placeOfWeight, Cond.selects RX0 yX0_placeOfWeight yX0_placeOfWeight, Cond.code yX0_placeOfWeight cX0_placeOfWeight 6 (some .int), Cond.methodLink RX0 72 yX0_insert, Cond.instanceMethod yX0_insert, Cond.selects RX0 yX0_insert yX0_insert, Cond.code yX0_insert cX0_insert 4 none, Cond.methodLink RX3 130 yX2_book, Cond.instanceMethod yX2_book, Cond.selects RX2 yX2_book yX2_book, Cond.initialized RX2, Cond.code yX2_book cX2_book 1 (some (.object "Rangeledger$Book")), Cond.fieldLink RX2 9 "Rangeledger$Walk" "range" "LRangeledger$View;", Cond.methodLink RX2 19 yX1_book, Cond.instanceMethod yX1_book, Cond.selects RX1 yX1_book yX1_book, Cond.initialized RX1, Cond.code yX1_book cX1_book 1 (some (.object "Rangeledger$Book")), Cond.fieldLink RX1 9 "Rangeledger$View" "book" "LRangeledger$Book;", Cond.methodLink RX3 136 yX3_shutViewsOnto, Cond.instanceMethod yX3_shutViewsOnto]
def wsL_copy_r5 : List Cond := [Cond.selects RX3 yX3_shutViewsOnto yX3_shutViewsOnto, Cond.code yX3_shutViewsOnto cX3_shutViewsOnto 4 (some .int), Cond.fieldLink RX3 20 "Rangeledger" "views" "[LRangeledger$View;", Cond.methodLink RX3 222 yX3_viewsOnto, Cond.instanceMethod yX3_viewsOnto, Cond.selects RX3 yX3_viewsOnto yX3_viewsOnto, Cond.code yX3_viewsOnto cX3_viewsOnto 4 (some .int), Cond.methodLink RX3 165 yX1_book]
def wsL_copy : List Cond := .codeWith yL_copy cL_copy 5 (some .int) [(0, 11, 14, 19), (0, 11, 18, 21)] :: ((wsL_copy_r1 ++ (wsL_copy_r2 ++ (wsL_copy_r3 ++ (wsL_copy_r4 ++ wsL_copy_r5)))) ++ wsX40 ++ wsX30 ++ wsX00 ++ wsX20 ++ wsX10 ++ (vx_atS RX3 313 "java/lang/IndexOutOfBoundsException" ["java/lang/RuntimeException", "java/lang/Exception"]).filter goodWord ++ (vx_atS RX3 90 "java/lang/IllegalArgumentException" ["java/lang/RuntimeException", "java/lang/Exception"]).filter goodWord)
def wsL_thin_r1 : List Cond := [Cond.classLink RL 19 "java/lang/IndexOutOfBoundsException", Cond.classLink RL 21 "java/lang/IllegalArgumentException", Cond.methodLink RL 79 yX3_thin, Cond.instanceMethod yX3_thin, Cond.selects RX3 yX3_thin yX3_thin, Cond.initialized RX3, Cond.code yX3_thin cX3_thin 6 (some .int), Cond.methodLink RX3 47 yX3_bookAt, Cond.instanceMethod yX3_bookAt, Cond.selects RX3 yX3_bookAt yX3_bookAt, Cond.code yX3_bookAt cX3_bookAt 2 (some (.object "Rangeledger$Book")), Cond.classLink RX3 309 "java/lang/IndexOutOfBoundsException", Cond.initialized "java/lang/IndexOutOfBoundsException", Cond.fieldLink RX3 11 "Rangeledger" "books" "[LRangeledger$Book;", Cond.methodLink RX3 115 yX3_checkUnlike, Cond.static yX3_checkUnlike, Cond.code yX3_checkUnlike cX3_checkUnlike 2 none, Cond.classLink RX3 86 "java/lang/IllegalArgumentException", Cond.initialized "java/lang/IllegalArgumentException", Cond.methodLink RX3 57 yX0_touch, Cond.instanceMethod yX0_touch, Cond.selects RX0 yX0_touch yX0_touch, Cond.initialized RX0, Cond.code yX0_touch cX0_touch 1 none]
def wsL_thin_r2 : List Cond := [Cond.fieldLink RX0 28 "Rangeledger$Book" "touches" "I", Cond.methodLink RX3 140 yX0_removeByOther, Cond.instanceMethod yX0_removeByOther, Cond.selects RX0 yX0_removeByOther yX0_removeByOther, Cond.code yX0_removeByOther cX0_removeByOther 5 (some .int), Cond.fieldLink RX0 25 "Rangeledger$Book" "size" "I", Cond.methodLink RX0 51 yX0_keyAt, Cond.instanceMethod yX0_keyAt, Cond.selects RX0 yX0_keyAt yX0_keyAt, Cond.code yX0_keyAt cX0_keyAt 2 (some .int), Cond.fieldLink RX0 15 "Rangeledger$Book" "keys" "[I", Cond.methodLink RX0 41 yX0_isPlace, Cond.instanceMethod yX0_isPlace, Cond.selects RX0 yX0_isPlace yX0_isPlace, Cond.code yX0_isPlace cX0_isPlace 2 (some .boolean), Cond.methodLink RX0 85 yX0_holds, Cond.instanceMethod yX0_holds, Cond.selects RX0 yX0_holds yX0_holds, Cond.code yX0_holds cX0_holds 2 (some .boolean), Cond.methodLink RX0 45 yX0_valueOf, Cond.instanceMethod yX0_valueOf, Cond.selects RX0 yX0_valueOf yX0_valueOf, Cond.code yX0_valueOf cX0_valueOf 3 (some .int), Cond.methodLink RX0 48 yX0_placeOf]
def wsL_thin_r3 : List Cond := [Cond.instanceMethod yX0_placeOf, Cond.selects RX0 yX0_placeOf yX0_placeOf, Cond.code yX0_placeOf cX0_placeOf 2 (some .int), Cond.methodLink RX0 34 yX0_weight, Cond.instanceMethod yX0_weight, Cond.selects RX0 yX0_weight yX0_weight, Cond.code yX0_weight cX0_weight 4 (some .int), Cond.fieldLink RX0 22 "Rangeledger$Book" "order" "I", Cond.methodLink RX0 38 yX0_placeOfWeight, Cond.instanceMethod yX0_placeOfWeight, Cond.selects RX0 yX0_placeOfWeight yX0_placeOfWeight, Cond.code yX0_placeOfWeight cX0_placeOfWeight 6 (some .int), Cond.methodLink RX0 54 yX0_valueAt, Cond.instanceMethod yX0_valueAt, Cond.selects RX0 yX0_valueAt yX0_valueAt, Cond.code yX0_valueAt cX0_valueAt 2 (some .int), Cond.fieldLink RX0 19 "Rangeledger$Book" "values" "[I", Cond.methodLink RX0 100 yX0_removeAt, Cond.instanceMethod yX0_removeAt, Cond.selects RX0 yX0_removeAt yX0_removeAt, Cond.code yX0_removeAt cX0_removeAt 3 (some .int), Cond.methodLink RX0 82 yX0_removeRange, Cond.instanceMethod yX0_removeRange, Cond.selects RX0 yX0_removeRange yX0_removeRange]
def wsL_thin_r4 : List Cond := [Cond.code yX0_removeRange cX0_removeRange 3 (some .int), Cond.methodLink RX0 76 arraycopyName, Cond.native arraycopyName, Cond.static arraycopyName, Cond.initialized "java/lang/System", Cond.fieldLink RX0 31 "Rangeledger$Book" "keyChanges" "I"]
def wsL_thin : List Cond := .codeWith yL_thin cL_thin 6 (some .int) [(0, 13, 16, 19), (0, 13, 20, 21)] :: ((wsL_thin_r1 ++ (wsL_thin_r2 ++ (wsL_thin_r3 ++ wsL_thin_r4))) ++ wsX40 ++ wsX30 ++ wsX00 ++ (vx_atS RX3 313 "java/lang/IndexOutOfBoundsException" ["java/lang/RuntimeException", "java/lang/Exception"]).filter goodWord ++ (vx_atS RX3 90 "java/lang/IllegalArgumentException" ["java/lang/RuntimeException", "java/lang/Exception"]).filter goodWord)
def wsL_head_r1 : List Cond := [Cond.classLink RL 19 "java/lang/IndexOutOfBoundsException", Cond.classLink RL 21 "java/lang/IllegalArgumentException", Cond.classLink RL 67 "java/lang/IllegalStateException", Cond.methodLink RL 83 yX3_head, Cond.instanceMethod yX3_head, Cond.selects RX3 yX3_head yX3_head, Cond.initialized RX3, Cond.code yX3_head cX3_head 5 (some .int), Cond.classLink RX3 18 RX1, Cond.instantiable RX1 7, Cond.initialized RX1, Cond.methodLink RX3 47 yX3_bookAt, Cond.instanceMethod yX3_bookAt, Cond.selects RX3 yX3_bookAt yX3_bookAt, Cond.code yX3_bookAt cX3_bookAt 2 (some (.object "Rangeledger$Book")), Cond.classLink RX3 309 "java/lang/IndexOutOfBoundsException", Cond.initialized "java/lang/IndexOutOfBoundsException", Cond.fieldLink RX3 11 "Rangeledger" "books" "[LRangeledger$Book;", Cond.methodLink RX3 51 yX3_checkKey, Cond.static yX3_checkKey, Cond.code yX3_checkKey cX3_checkKey 1 none, Cond.classLink RX3 86 "java/lang/IllegalArgumentException", Cond.initialized "java/lang/IllegalArgumentException", Cond.methodLink RX3 144 yX1_init]
def wsL_head_r2 : List Cond := [Cond.instanceMethod yX1_init, Cond.code yX1_init cX1_init 8 none, Cond.methodLink RX1 3 objectInit, Cond.instanceMethod objectInit, Cond.code objectInit ⟨#[0xb1]⟩ 1 none, Cond.fieldLink RX1 9 "Rangeledger$View" "book" "LRangeledger$Book;", Cond.fieldLink RX1 15 "Rangeledger$View" "lower" "I", Cond.fieldLink RX1 19 "Rangeledger$View" "isLowerIn" "Z", Cond.fieldLink RX1 23 "Rangeledger$View" "upper" "I", Cond.fieldLink RX1 26 "Rangeledger$View" "isUpperIn" "Z", Cond.fieldLink RX1 35 "Rangeledger$View" "startWeight" "I", Cond.methodLink RX1 38 Lib.Math.max.name, Cond.static Lib.Math.max.name, Cond.initialized "java/lang/Math", Cond.code Lib.Math.max.name Lib.Math.max.code 2 (some .int), Cond.fieldLink RX1 44 "Rangeledger$View" "endWeight" "I", Cond.methodLink RX1 29 yX0_weight, Cond.instanceMethod yX0_weight, Cond.selects RX0 yX0_weight yX0_weight, Cond.initialized RX0, Cond.code yX0_weight cX0_weight 4 (some .int), Cond.fieldLink RX0 22 "Rangeledger$Book" "order" "I", Cond.methodLink RX3 147 yX3_openView, Cond.instanceMethod yX3_openView]
def wsL_head_r3 : List Cond := [Cond.selects RX3 yX3_openView yX3_openView, Cond.code yX3_openView cX3_openView 3 (some .int), Cond.classLink RX3 104 "java/lang/IllegalStateException", Cond.initialized "java/lang/IllegalStateException", Cond.fieldLink RX3 20 "Rangeledger" "views" "[LRangeledger$View;"]
def wsL_head : List Cond := .codeWith yL_head cL_head 6 (some .int) [(0, 13, 16, 19), (0, 13, 20, 21), (0, 13, 24, 67)] :: ((wsL_head_r1 ++ (wsL_head_r2 ++ wsL_head_r3)) ++ wsX40 ++ wsX10 ++ wsX30 ++ wsX00 ++ (vx_atS RX3 313 "java/lang/IndexOutOfBoundsException" ["java/lang/RuntimeException", "java/lang/Exception"]).filter goodWord ++ (vx_atS RX3 90 "java/lang/IllegalArgumentException" ["java/lang/RuntimeException", "java/lang/Exception"]).filter goodWord ++ (vx_atS RX3 108 "java/lang/IllegalStateException" ["java/lang/RuntimeException", "java/lang/Exception"]).filter goodWord)
def wsL_tail_r1 : List Cond := [Cond.classLink RL 19 "java/lang/IndexOutOfBoundsException", Cond.classLink RL 21 "java/lang/IllegalArgumentException", Cond.classLink RL 67 "java/lang/IllegalStateException", Cond.methodLink RL 86 yX3_tail, Cond.instanceMethod yX3_tail, Cond.selects RX3 yX3_tail yX3_tail, Cond.initialized RX3, Cond.code yX3_tail cX3_tail 5 (some .int), Cond.classLink RX3 18 RX1, Cond.instantiable RX1 7, Cond.initialized RX1, Cond.methodLink RX3 47 yX3_bookAt, Cond.instanceMethod yX3_bookAt, Cond.selects RX3 yX3_bookAt yX3_bookAt, Cond.code yX3_bookAt cX3_bookAt 2 (some (.object "Rangeledger$Book")), Cond.classLink RX3 309 "java/lang/IndexOutOfBoundsException", Cond.initialized "java/lang/IndexOutOfBoundsException", Cond.fieldLink RX3 11 "Rangeledger" "books" "[LRangeledger$Book;", Cond.methodLink RX3 51 yX3_checkKey, Cond.static yX3_checkKey, Cond.code yX3_checkKey cX3_checkKey 1 none, Cond.classLink RX3 86 "java/lang/IllegalArgumentException", Cond.initialized "java/lang/IllegalArgumentException", Cond.methodLink RX3 144 yX1_init]
def wsL_tail_r2 : List Cond := [Cond.instanceMethod yX1_init, Cond.code yX1_init cX1_init 8 none, Cond.methodLink RX1 3 objectInit, Cond.instanceMethod objectInit, Cond.code objectInit ⟨#[0xb1]⟩ 1 none, Cond.fieldLink RX1 9 "Rangeledger$View" "book" "LRangeledger$Book;", Cond.fieldLink RX1 15 "Rangeledger$View" "lower" "I", Cond.fieldLink RX1 19 "Rangeledger$View" "isLowerIn" "Z", Cond.fieldLink RX1 23 "Rangeledger$View" "upper" "I", Cond.fieldLink RX1 26 "Rangeledger$View" "isUpperIn" "Z", Cond.fieldLink RX1 35 "Rangeledger$View" "startWeight" "I", Cond.methodLink RX1 38 Lib.Math.max.name, Cond.static Lib.Math.max.name, Cond.initialized "java/lang/Math", Cond.code Lib.Math.max.name Lib.Math.max.code 2 (some .int), Cond.fieldLink RX1 44 "Rangeledger$View" "endWeight" "I", Cond.methodLink RX1 29 yX0_weight, Cond.instanceMethod yX0_weight, Cond.selects RX0 yX0_weight yX0_weight, Cond.initialized RX0, Cond.code yX0_weight cX0_weight 4 (some .int), Cond.fieldLink RX0 22 "Rangeledger$Book" "order" "I", Cond.methodLink RX3 147 yX3_openView, Cond.instanceMethod yX3_openView]
def wsL_tail_r3 : List Cond := [Cond.selects RX3 yX3_openView yX3_openView, Cond.code yX3_openView cX3_openView 3 (some .int), Cond.classLink RX3 104 "java/lang/IllegalStateException", Cond.initialized "java/lang/IllegalStateException", Cond.fieldLink RX3 20 "Rangeledger" "views" "[LRangeledger$View;"]
def wsL_tail : List Cond := .codeWith yL_tail cL_tail 6 (some .int) [(0, 13, 16, 19), (0, 13, 20, 21), (0, 13, 24, 67)] :: ((wsL_tail_r1 ++ (wsL_tail_r2 ++ wsL_tail_r3)) ++ wsX40 ++ wsX10 ++ wsX30 ++ wsX00 ++ (vx_atS RX3 313 "java/lang/IndexOutOfBoundsException" ["java/lang/RuntimeException", "java/lang/Exception"]).filter goodWord ++ (vx_atS RX3 90 "java/lang/IllegalArgumentException" ["java/lang/RuntimeException", "java/lang/Exception"]).filter goodWord ++ (vx_atS RX3 108 "java/lang/IllegalStateException" ["java/lang/RuntimeException", "java/lang/Exception"]).filter goodWord)
def wsL_sub_r1 : List Cond := [Cond.classLink RL 19 "java/lang/IndexOutOfBoundsException", Cond.classLink RL 21 "java/lang/IllegalArgumentException", Cond.classLink RL 67 "java/lang/IllegalStateException", Cond.methodLink RL 89 yX3_sub, Cond.instanceMethod yX3_sub, Cond.selects RX3 yX3_sub yX3_sub, Cond.initialized RX3, Cond.code yX3_sub cX3_sub 7 (some .int), Cond.classLink RX3 18 RX1, Cond.instantiable RX1 7, Cond.initialized RX1, Cond.methodLink RX3 47 yX3_bookAt, Cond.instanceMethod yX3_bookAt, Cond.selects RX3 yX3_bookAt yX3_bookAt, Cond.code yX3_bookAt cX3_bookAt 2 (some (.object "Rangeledger$Book")), Cond.classLink RX3 309 "java/lang/IndexOutOfBoundsException", Cond.initialized "java/lang/IndexOutOfBoundsException", Cond.fieldLink RX3 11 "Rangeledger" "books" "[LRangeledger$Book;", Cond.methodLink RX3 51 yX3_checkKey, Cond.static yX3_checkKey, Cond.code yX3_checkKey cX3_checkKey 1 none, Cond.classLink RX3 86 "java/lang/IllegalArgumentException", Cond.initialized "java/lang/IllegalArgumentException", Cond.methodLink RX3 151 yX3_checkViewIsFree]
def wsL_sub_r2 : List Cond := [Cond.instanceMethod yX3_checkViewIsFree, Cond.selects RX3 yX3_checkViewIsFree yX3_checkViewIsFree, Cond.code yX3_checkViewIsFree cX3_checkViewIsFree 1 none, Cond.classLink RX3 104 "java/lang/IllegalStateException", Cond.initialized "java/lang/IllegalStateException", Cond.fieldLink RX3 20 "Rangeledger" "views" "[LRangeledger$View;", Cond.methodLink RX3 257 yX3_openViews, Cond.instanceMethod yX3_openViews, Cond.selects RX3 yX3_openViews yX3_openViews, Cond.code yX3_openViews cX3_openViews 3 (some .int), Cond.methodLink RX3 154 yX0_isAhead, Cond.instanceMethod yX0_isAhead, Cond.selects RX0 yX0_isAhead yX0_isAhead, Cond.initialized RX0, Cond.code yX0_isAhead cX0_isAhead 3 (some .boolean), Cond.methodLink RX0 34 yX0_weight, Cond.instanceMethod yX0_weight, Cond.selects RX0 yX0_weight yX0_weight, Cond.code yX0_weight cX0_weight 4 (some .int), Cond.fieldLink RX0 22 "Rangeledger$Book" "order" "I", Cond.methodLink RX3 144 yX1_init, Cond.instanceMethod yX1_init, Cond.code yX1_init cX1_init 8 none, Cond.methodLink RX1 3 objectInit]
def wsL_sub_r3 : List Cond := [Cond.instanceMethod objectInit, Cond.code objectInit ⟨#[0xb1]⟩ 1 none, Cond.fieldLink RX1 9 "Rangeledger$View" "book" "LRangeledger$Book;", Cond.fieldLink RX1 15 "Rangeledger$View" "lower" "I", Cond.fieldLink RX1 19 "Rangeledger$View" "isLowerIn" "Z", Cond.fieldLink RX1 23 "Rangeledger$View" "upper" "I", Cond.fieldLink RX1 26 "Rangeledger$View" "isUpperIn" "Z", Cond.fieldLink RX1 35 "Rangeledger$View" "startWeight" "I", Cond.methodLink RX1 38 Lib.Math.max.name, Cond.static Lib.Math.max.name, Cond.initialized "java/lang/Math", Cond.code Lib.Math.max.name Lib.Math.max.code 2 (some .int), Cond.fieldLink RX1 44 "Rangeledger$View" "endWeight" "I", Cond.methodLink RX1 29 yX0_weight, Cond.methodLink RX3 147 yX3_openView, Cond.instanceMethod yX3_openView, Cond.selects RX3 yX3_openView yX3_openView, Cond.code yX3_openView cX3_openView 3 (some .int)]
def wsL_sub : List Cond := .codeWith yL_sub cL_sub 8 (some .int) [(0, 17, 20, 19), (0, 17, 24, 21), (0, 17, 28, 67)] :: ((wsL_sub_r1 ++ (wsL_sub_r2 ++ wsL_sub_r3)) ++ wsX40 ++ wsX10 ++ wsX30 ++ wsX00 ++ (vx_atS RX3 313 "java/lang/IndexOutOfBoundsException" ["java/lang/RuntimeException", "java/lang/Exception"]).filter goodWord ++ (vx_atS RX3 90 "java/lang/IllegalArgumentException" ["java/lang/RuntimeException", "java/lang/Exception"]).filter goodWord ++ (vx_atS RX3 108 "java/lang/IllegalStateException" ["java/lang/RuntimeException", "java/lang/Exception"]).filter goodWord)
def wsL_part_r1 : List Cond := [Cond.classLink RL 19 "java/lang/IndexOutOfBoundsException", Cond.classLink RL 21 "java/lang/IllegalArgumentException", Cond.classLink RL 67 "java/lang/IllegalStateException", Cond.methodLink RL 93 yX3_part, Cond.instanceMethod yX3_part, Cond.selects RX3 yX3_part yX3_part, Cond.initialized RX3, Cond.code yX3_part cX3_part 7 (some .int), Cond.classLink RX3 18 RX1, Cond.instantiable RX1 7, Cond.initialized RX1, Cond.methodLink RX3 158 yX3_viewAt, Cond.instanceMethod yX3_viewAt, Cond.selects RX3 yX3_viewAt yX3_viewAt, Cond.code yX3_viewAt cX3_viewAt 2 (some (.object "Rangeledger$View")), Cond.classLink RX3 309 "java/lang/IndexOutOfBoundsException", Cond.initialized "java/lang/IndexOutOfBoundsException", Cond.fieldLink RX3 20 "Rangeledger" "views" "[LRangeledger$View;", Cond.methodLink RX3 51 yX3_checkKey, Cond.static yX3_checkKey, Cond.code yX3_checkKey cX3_checkKey 1 none, Cond.classLink RX3 86 "java/lang/IllegalArgumentException", Cond.initialized "java/lang/IllegalArgumentException", Cond.methodLink RX3 151 yX3_checkViewIsFree]
def wsL_part_r2 : List Cond := [Cond.instanceMethod yX3_checkViewIsFree, Cond.selects RX3 yX3_checkViewIsFree yX3_checkViewIsFree, Cond.code yX3_checkViewIsFree cX3_checkViewIsFree 1 none, Cond.classLink RX3 104 "java/lang/IllegalStateException", Cond.initialized "java/lang/IllegalStateException", Cond.methodLink RX3 257 yX3_openViews, Cond.instanceMethod yX3_openViews, Cond.selects RX3 yX3_openViews yX3_openViews, Cond.code yX3_openViews cX3_openViews 3 (some .int), Cond.methodLink RX3 162 yX1_isWithin, Cond.instanceMethod yX1_isWithin, Cond.selects RX1 yX1_isWithin yX1_isWithin, Cond.code yX1_isWithin cX1_isWithin 3 (some .boolean), Cond.fieldLink RX1 9 "Rangeledger$View" "book" "LRangeledger$Book;", Cond.fieldLink RX1 35 "Rangeledger$View" "startWeight" "I", Cond.fieldLink RX1 44 "Rangeledger$View" "endWeight" "I", Cond.methodLink RX1 29 yX0_weight, Cond.instanceMethod yX0_weight, Cond.selects RX0 yX0_weight yX0_weight, Cond.initialized RX0, Cond.code yX0_weight cX0_weight 4 (some .int), Cond.fieldLink RX0 22 "Rangeledger$Book" "order" "I", Cond.methodLink RX3 165 yX1_book, Cond.instanceMethod yX1_book]
def wsL_part_r3 : List Cond := [Cond.selects RX1 yX1_book yX1_book, Cond.code yX1_book cX1_book 1 (some (.object "Rangeledger$Book")), Cond.methodLink RX3 154 yX0_isAhead, Cond.instanceMethod yX0_isAhead, Cond.selects RX0 yX0_isAhead yX0_isAhead, Cond.code yX0_isAhead cX0_isAhead 3 (some .boolean), Cond.methodLink RX0 34 yX0_weight, Cond.methodLink RX3 144 yX1_init, Cond.instanceMethod yX1_init, Cond.code yX1_init cX1_init 8 none, Cond.methodLink RX1 3 objectInit, Cond.instanceMethod objectInit, Cond.code objectInit ⟨#[0xb1]⟩ 1 none, Cond.fieldLink RX1 15 "Rangeledger$View" "lower" "I", Cond.fieldLink RX1 19 "Rangeledger$View" "isLowerIn" "Z", Cond.fieldLink RX1 23 "Rangeledger$View" "upper" "I", Cond.fieldLink RX1 26 "Rangeledger$View" "isUpperIn" "Z", Cond.methodLink RX1 38 Lib.Math.max.name, Cond.static Lib.Math.max.name, Cond.initialized "java/lang/Math", Cond.code Lib.Math.max.name Lib.Math.max.code 2 (some .int), Cond.methodLink RX3 147 yX3_openView, Cond.instanceMethod yX3_openView, Cond.selects RX3 yX3_openView yX3_openView]
def wsL_part_r4 : List Cond := [Cond.code yX3_openView cX3_openView 3 (some .int)]
def wsL_part : List Cond := .codeWith yL_part cL_part 8 (some .int) [(0, 17, 20, 19), (0, 17, 24, 21), (0, 17, 28, 67)] :: ((wsL_part_r1 ++ (wsL_part_r2 ++ (wsL_part_r3 ++ wsL_part_r4))) ++ wsX40 ++ wsX10 ++ wsX30 ++ wsX00 ++ (vx_atS RX3 313 "java/lang/IndexOutOfBoundsException" ["java/lang/RuntimeException", "java/lang/Exception"]).filter goodWord ++ (vx_atS RX3 90 "java/lang/IllegalArgumentException" ["java/lang/RuntimeException", "java/lang/Exception"]).filter goodWord ++ (vx_atS RX3 108 "java/lang/IllegalStateException" ["java/lang/RuntimeException", "java/lang/Exception"]).filter goodWord)
def wsL_shut_r1 : List Cond := [Cond.classLink RL 19 "java/lang/IndexOutOfBoundsException", Cond.methodLink RL 96 yX3_shut, Cond.instanceMethod yX3_shut, Cond.selects RX3 yX3_shut yX3_shut, Cond.initialized RX3, Cond.code yX3_shut cX3_shut 3 (some .int), Cond.fieldLink RX3 20 "Rangeledger" "views" "[LRangeledger$View;", Cond.methodLink RX3 158 yX3_viewAt, Cond.instanceMethod yX3_viewAt, Cond.selects RX3 yX3_viewAt yX3_viewAt, Cond.code yX3_viewAt cX3_viewAt 2 (some (.object "Rangeledger$View")), Cond.classLink RX3 309 "java/lang/IndexOutOfBoundsException", Cond.initialized "java/lang/IndexOutOfBoundsException", Cond.methodLink RX3 166 yX1_size, Cond.instanceMethod yX1_size, Cond.selects RX1 yX1_size yX1_size, Cond.initialized RX1, Cond.code yX1_size cX1_size 1 (some .int), Cond.methodLink RX1 50 yX1_end, Cond.instanceMethod yX1_end, Cond.selects RX1 yX1_end yX1_end, Cond.code yX1_end cX1_end 1 (some .int), Cond.fieldLink RX1 9 "Rangeledger$View" "book" "LRangeledger$Book;", Cond.fieldLink RX1 44 "Rangeledger$View" "endWeight" "I"]
def wsL_shut_r2 : List Cond := [Cond.methodLink RX1 47 yX0_placeOfWeight, Cond.instanceMethod yX0_placeOfWeight, Cond.selects RX0 yX0_placeOfWeight yX0_placeOfWeight, Cond.initialized RX0, Cond.code yX0_placeOfWeight cX0_placeOfWeight 6 (some .int), Cond.fieldLink RX0 25 "Rangeledger$Book" "size" "I", Cond.fieldLink RX0 15 "Rangeledger$Book" "keys" "[I", Cond.methodLink RX0 34 yX0_weight, Cond.instanceMethod yX0_weight, Cond.selects RX0 yX0_weight yX0_weight, Cond.code yX0_weight cX0_weight 4 (some .int), Cond.fieldLink RX0 22 "Rangeledger$Book" "order" "I", Cond.methodLink RX1 54 yX1_start, Cond.instanceMethod yX1_start, Cond.selects RX1 yX1_start yX1_start, Cond.code yX1_start cX1_start 1 (some .int), Cond.fieldLink RX1 35 "Rangeledger$View" "startWeight" "I"]
def wsL_shut : List Cond := .codeWith yL_shut cL_shut 4 (some .int) [(0, 10, 13, 19)] :: ((wsL_shut_r1 ++ wsL_shut_r2) ++ wsX40 ++ wsX30 ++ wsX10 ++ wsX00 ++ (vx_atS RX3 313 "java/lang/IndexOutOfBoundsException" ["java/lang/RuntimeException", "java/lang/Exception"]).filter goodWord)
def wsL_viewPut_r1 : List Cond := [Cond.classLink RL 19 "java/lang/IndexOutOfBoundsException", Cond.classLink RL 21 "java/lang/IllegalArgumentException", Cond.methodLink RL 99 yX3_viewPut, Cond.instanceMethod yX3_viewPut, Cond.selects RX3 yX3_viewPut yX3_viewPut, Cond.initialized RX3, Cond.code yX3_viewPut cX3_viewPut 5 (some .int), Cond.methodLink RX3 167 yX3_viewToWritePair, Cond.instanceMethod yX3_viewToWritePair, Cond.selects RX3 yX3_viewToWritePair yX3_viewToWritePair, Cond.code yX3_viewToWritePair cX3_viewToWritePair 5 (some (.object "Rangeledger$View")), Cond.methodLink RX3 158 yX3_viewAt, Cond.instanceMethod yX3_viewAt, Cond.selects RX3 yX3_viewAt yX3_viewAt, Cond.code yX3_viewAt cX3_viewAt 2 (some (.object "Rangeledger$View")), Cond.classLink RX3 309 "java/lang/IndexOutOfBoundsException", Cond.initialized "java/lang/IndexOutOfBoundsException", Cond.fieldLink RX3 20 "Rangeledger" "views" "[LRangeledger$View;", Cond.methodLink RX3 51 yX3_checkKey, Cond.static yX3_checkKey, Cond.code yX3_checkKey cX3_checkKey 1 none, Cond.classLink RX3 86 "java/lang/IllegalArgumentException", Cond.initialized "java/lang/IllegalArgumentException", Cond.methodLink RX3 54 yX3_checkValue]
def wsL_viewPut_r2 : List Cond := [Cond.static yX3_checkValue, Cond.code yX3_checkValue cX3_checkValue 1 none, Cond.methodLink RX3 165 yX1_book, Cond.instanceMethod yX1_book, Cond.selects RX1 yX1_book yX1_book, Cond.initialized RX1, Cond.code yX1_book cX1_book 1 (some (.object "Rangeledger$Book")), Cond.fieldLink RX1 9 "Rangeledger$View" "book" "LRangeledger$Book;", Cond.methodLink RX3 57 yX0_touch, Cond.instanceMethod yX0_touch, Cond.selects RX0 yX0_touch yX0_touch, Cond.initialized RX0, Cond.code yX0_touch cX0_touch 1 none, Cond.fieldLink RX0 28 "Rangeledger$Book" "touches" "I", Cond.methodLink RX3 162 yX1_isWithin, Cond.instanceMethod yX1_isWithin, Cond.selects RX1 yX1_isWithin yX1_isWithin, Cond.code yX1_isWithin cX1_isWithin 3 (some .boolean), Cond.fieldLink RX1 35 "Rangeledger$View" "startWeight" "I", Cond.fieldLink RX1 44 "Rangeledger$View" "endWeight" "I", Cond.methodLink RX1 29 yX0_weight, Cond.instanceMethod yX0_weight, Cond.selects RX0 yX0_weight yX0_weight, Cond.code yX0_weight cX0_weight 4 (some .int)]
def wsL_viewPut_r3 : List Cond := [Cond.fieldLink RX0 22 "Rangeledger$Book" "order" "I", Cond.methodLink RX3 35 yX0_enter, Cond.instanceMethod yX0_enter, Cond.selects RX0 yX0_enter yX0_enter, Cond.code yX0_enter cX0_enter 5 (some .int), Cond.fieldLink RX0 15 "Rangeledger$Book" "keys" "[I", Cond.fieldLink RX0 19 "Rangeledger$Book" "values" "[I", Cond.methodLink RX0 48 yX0_placeOf, Cond.instanceMethod yX0_placeOf, Cond.selects RX0 yX0_placeOf yX0_placeOf, Cond.code yX0_placeOf cX0_placeOf 2 (some .int), Cond.methodLink RX0 34 yX0_weight, Cond.methodLink RX0 38 yX0_placeOfWeight, Cond.instanceMethod yX0_placeOfWeight, Cond.selects RX0 yX0_placeOfWeight yX0_placeOfWeight, Cond.code yX0_placeOfWeight cX0_placeOfWeight 6 (some .int), Cond.fieldLink RX0 25 "Rangeledger$Book" "size" "I", Cond.methodLink RX0 41 yX0_isPlace, Cond.instanceMethod yX0_isPlace, Cond.selects RX0 yX0_isPlace yX0_isPlace, Cond.code yX0_isPlace cX0_isPlace 2 (some .boolean), Cond.methodLink RX0 72 yX0_insert, Cond.instanceMethod yX0_insert, Cond.selects RX0 yX0_insert yX0_insert]
def wsL_viewPut_r4 : List Cond := [Cond.code yX0_insert cX0_insert 4 none, Cond.methodLink RX0 76 arraycopyName, Cond.native arraycopyName, Cond.static arraycopyName, Cond.initialized "java/lang/System", Cond.fieldLink RX0 31 "Rangeledger$Book" "keyChanges" "I"]
def wsL_viewPut : List Cond := .codeWith yL_viewPut cL_viewPut 6 (some .int) [(0, 13, 16, 19), (0, 13, 20, 21)] :: ((wsL_viewPut_r1 ++ (wsL_viewPut_r2 ++ (wsL_viewPut_r3 ++ wsL_viewPut_r4))) ++ wsX40 ++ wsX30 ++ wsX10 ++ wsX00 ++ (vx_atS RX3 313 "java/lang/IndexOutOfBoundsException" ["java/lang/RuntimeException", "java/lang/Exception"]).filter goodWord ++ (vx_atS RX3 90 "java/lang/IllegalArgumentException" ["java/lang/RuntimeException", "java/lang/Exception"]).filter goodWord)
def wsL_viewStrike_r1 : List Cond := [Cond.classLink RL 19 "java/lang/IndexOutOfBoundsException", Cond.classLink RL 21 "java/lang/IllegalArgumentException", Cond.methodLink RL 102 yX3_viewStrike, Cond.instanceMethod yX3_viewStrike, Cond.selects RX3 yX3_viewStrike yX3_viewStrike, Cond.initialized RX3, Cond.code yX3_viewStrike cX3_viewStrike 4 (some .int), Cond.methodLink RX3 158 yX3_viewAt, Cond.instanceMethod yX3_viewAt, Cond.selects RX3 yX3_viewAt yX3_viewAt, Cond.code yX3_viewAt cX3_viewAt 2 (some (.object "Rangeledger$View")), Cond.classLink RX3 309 "java/lang/IndexOutOfBoundsException", Cond.initialized "java/lang/IndexOutOfBoundsException", Cond.fieldLink RX3 20 "Rangeledger" "views" "[LRangeledger$View;", Cond.methodLink RX3 51 yX3_checkKey, Cond.static yX3_checkKey, Cond.code yX3_checkKey cX3_checkKey 1 none, Cond.classLink RX3 86 "java/lang/IllegalArgumentException", Cond.initialized "java/lang/IllegalArgumentException", Cond.methodLink RX3 165 yX1_book, Cond.instanceMethod yX1_book, Cond.selects RX1 yX1_book yX1_book, Cond.initialized RX1, Cond.code yX1_book cX1_book 1 (some (.object "Rangeledger$Book"))]
def wsL_viewStrike_r2 : List Cond := [Cond.fieldLink RX1 9 "Rangeledger$View" "book" "LRangeledger$Book;", Cond.methodLink RX3 57 yX0_touch, Cond.instanceMethod yX0_touch, Cond.selects RX0 yX0_touch yX0_touch, Cond.initialized RX0, Cond.code yX0_touch cX0_touch 1 none, Cond.fieldLink RX0 28 "Rangeledger$Book" "touches" "I", Cond.methodLink RX3 162 yX1_isWithin, Cond.instanceMethod yX1_isWithin, Cond.selects RX1 yX1_isWithin yX1_isWithin, Cond.code yX1_isWithin cX1_isWithin 3 (some .boolean), Cond.fieldLink RX1 35 "Rangeledger$View" "startWeight" "I", Cond.fieldLink RX1 44 "Rangeledger$View" "endWeight" "I", Cond.methodLink RX1 29 yX0_weight, Cond.instanceMethod yX0_weight, Cond.selects RX0 yX0_weight yX0_weight, Cond.code yX0_weight cX0_weight 4 (some .int), Cond.fieldLink RX0 22 "Rangeledger$Book" "order" "I", Cond.methodLink RX3 64 yX0_removeKey, Cond.instanceMethod yX0_removeKey, Cond.selects RX0 yX0_removeKey yX0_removeKey, Cond.code yX0_removeKey cX0_removeKey 4 (some .int), Cond.methodLink RX0 48 yX0_placeOf, Cond.instanceMethod yX0_placeOf]
def wsL_viewStrike_r3 : List Cond := [Cond.selects RX0 yX0_placeOf yX0_placeOf, Cond.code yX0_placeOf cX0_placeOf 2 (some .int), Cond.methodLink RX0 34 yX0_weight, Cond.methodLink RX0 38 yX0_placeOfWeight, Cond.instanceMethod yX0_placeOfWeight, Cond.selects RX0 yX0_placeOfWeight yX0_placeOfWeight, Cond.code yX0_placeOfWeight cX0_placeOfWeight 6 (some .int), Cond.fieldLink RX0 25 "Rangeledger$Book" "size" "I", Cond.fieldLink RX0 15 "Rangeledger$Book" "keys" "[I", Cond.methodLink RX0 51 yX0_keyAt, Cond.instanceMethod yX0_keyAt, Cond.selects RX0 yX0_keyAt yX0_keyAt, Cond.code yX0_keyAt cX0_keyAt 2 (some .int), Cond.methodLink RX0 41 yX0_isPlace, Cond.instanceMethod yX0_isPlace, Cond.selects RX0 yX0_isPlace yX0_isPlace, Cond.code yX0_isPlace cX0_isPlace 2 (some .boolean), Cond.methodLink RX0 54 yX0_valueAt, Cond.instanceMethod yX0_valueAt, Cond.selects RX0 yX0_valueAt yX0_valueAt, Cond.code yX0_valueAt cX0_valueAt 2 (some .int), Cond.fieldLink RX0 19 "Rangeledger$Book" "values" "[I", Cond.methodLink RX0 82 yX0_removeRange, Cond.instanceMethod yX0_removeRange]
def wsL_viewStrike_r4 : List Cond := [Cond.selects RX0 yX0_removeRange yX0_removeRange, Cond.code yX0_removeRange cX0_removeRange 3 (some .int), Cond.methodLink RX0 76 arraycopyName, Cond.native arraycopyName, Cond.static arraycopyName, Cond.initialized "java/lang/System", Cond.fieldLink RX0 31 "Rangeledger$Book" "keyChanges" "I"]
def wsL_viewStrike : List Cond := .codeWith yL_viewStrike cL_viewStrike 5 (some .int) [(0, 11, 14, 19), (0, 11, 18, 21)] :: ((wsL_viewStrike_r1 ++ (wsL_viewStrike_r2 ++ (wsL_viewStrike_r3 ++ wsL_viewStrike_r4))) ++ wsX40 ++ wsX30 ++ wsX10 ++ wsX00 ++ (vx_atS RX3 313 "java/lang/IndexOutOfBoundsException" ["java/lang/RuntimeException", "java/lang/Exception"]).filter goodWord ++ (vx_atS RX3 90 "java/lang/IllegalArgumentException" ["java/lang/RuntimeException", "java/lang/Exception"]).filter goodWord)
def wsL_viewMerge_r1 : List Cond := [Cond.classLink RL 19 "java/lang/IndexOutOfBoundsException", Cond.classLink RL 21 "java/lang/IllegalArgumentException", Cond.methodLink RL 105 yX3_viewMerge, Cond.instanceMethod yX3_viewMerge, Cond.selects RX3 yX3_viewMerge yX3_viewMerge, Cond.initialized RX3, Cond.code yX3_viewMerge cX3_viewMerge 5 (some .int), Cond.methodLink RX3 167 yX3_viewToWritePair, Cond.instanceMethod yX3_viewToWritePair, Cond.selects RX3 yX3_viewToWritePair yX3_viewToWritePair, Cond.code yX3_viewToWritePair cX3_viewToWritePair 5 (some (.object "Rangeledger$View")), Cond.methodLink RX3 158 yX3_viewAt, Cond.instanceMethod yX3_viewAt, Cond.selects RX3 yX3_viewAt yX3_viewAt, Cond.code yX3_viewAt cX3_viewAt 2 (some (.object "Rangeledger$View")), Cond.classLink RX3 309 "java/lang/IndexOutOfBoundsException", Cond.initialized "java/lang/IndexOutOfBoundsException", Cond.fieldLink RX3 20 "Rangeledger" "views" "[LRangeledger$View;", Cond.methodLink RX3 51 yX3_checkKey, Cond.static yX3_checkKey, Cond.code yX3_checkKey cX3_checkKey 1 none, Cond.classLink RX3 86 "java/lang/IllegalArgumentException", Cond.initialized "java/lang/IllegalArgumentException", Cond.methodLink RX3 54 yX3_checkValue]
def wsL_viewMerge_r2 : List Cond := [Cond.static yX3_checkValue, Cond.code yX3_checkValue cX3_checkValue 1 none, Cond.methodLink RX3 165 yX1_book, Cond.instanceMethod yX1_book, Cond.selects RX1 yX1_book yX1_book, Cond.initialized RX1, Cond.code yX1_book cX1_book 1 (some (.object "Rangeledger$Book")), Cond.fieldLink RX1 9 "Rangeledger$View" "book" "LRangeledger$Book;", Cond.methodLink RX3 57 yX0_touch, Cond.instanceMethod yX0_touch, Cond.selects RX0 yX0_touch yX0_touch, Cond.initialized RX0, Cond.code yX0_touch cX0_touch 1 none, Cond.fieldLink RX0 28 "Rangeledger$Book" "touches" "I", Cond.methodLink RX3 162 yX1_isWithin, Cond.instanceMethod yX1_isWithin, Cond.selects RX1 yX1_isWithin yX1_isWithin, Cond.code yX1_isWithin cX1_isWithin 3 (some .boolean), Cond.fieldLink RX1 35 "Rangeledger$View" "startWeight" "I", Cond.fieldLink RX1 44 "Rangeledger$View" "endWeight" "I", Cond.methodLink RX1 29 yX0_weight, Cond.instanceMethod yX0_weight, Cond.selects RX0 yX0_weight yX0_weight, Cond.code yX0_weight cX0_weight 4 (some .int)]
def wsL_viewMerge_r3 : List Cond := [Cond.fieldLink RX0 22 "Rangeledger$Book" "order" "I", Cond.methodLink RX3 67 yX0_putTogether, Cond.instanceMethod yX0_putTogether, Cond.selects RX0 yX0_putTogether yX0_putTogether, Cond.code yX0_putTogether cX0_putTogether 4 (some .int), Cond.methodLink RX0 85 yX0_holds, Cond.instanceMethod yX0_holds, Cond.selects RX0 yX0_holds yX0_holds, Cond.code yX0_holds cX0_holds 2 (some .boolean), Cond.methodLink RX0 45 yX0_valueOf, Cond.instanceMethod yX0_valueOf, Cond.selects RX0 yX0_valueOf yX0_valueOf, Cond.code yX0_valueOf cX0_valueOf 3 (some .int), Cond.methodLink RX0 48 yX0_placeOf, Cond.instanceMethod yX0_placeOf, Cond.selects RX0 yX0_placeOf yX0_placeOf, Cond.code yX0_placeOf cX0_placeOf 2 (some .int), Cond.methodLink RX0 34 yX0_weight, Cond.methodLink RX0 38 yX0_placeOfWeight, Cond.instanceMethod yX0_placeOfWeight, Cond.selects RX0 yX0_placeOfWeight yX0_placeOfWeight, Cond.code yX0_placeOfWeight cX0_placeOfWeight 6 (some .int), Cond.fieldLink RX0 25 "Rangeledger$Book" "size" "I", Cond.fieldLink RX0 15 "Rangeledger$Book" "keys" "[I"]
def wsL_viewMerge_r4 : List Cond := [Cond.methodLink RX0 51 yX0_keyAt, Cond.instanceMethod yX0_keyAt, Cond.selects RX0 yX0_keyAt yX0_keyAt, Cond.code yX0_keyAt cX0_keyAt 2 (some .int), Cond.methodLink RX0 41 yX0_isPlace, Cond.instanceMethod yX0_isPlace, Cond.selects RX0 yX0_isPlace yX0_isPlace, Cond.code yX0_isPlace cX0_isPlace 2 (some .boolean), Cond.methodLink RX0 54 yX0_valueAt, Cond.instanceMethod yX0_valueAt, Cond.selects RX0 yX0_valueAt yX0_valueAt, Cond.code yX0_valueAt cX0_valueAt 2 (some .int), Cond.fieldLink RX0 19 "Rangeledger$Book" "values" "[I", Cond.methodLink RX0 88 yX0_enter, Cond.instanceMethod yX0_enter, Cond.selects RX0 yX0_enter yX0_enter, Cond.code yX0_enter cX0_enter 5 (some .int), Cond.methodLink RX0 72 yX0_insert, Cond.instanceMethod yX0_insert, Cond.selects RX0 yX0_insert yX0_insert, Cond.code yX0_insert cX0_insert 4 none, Cond.methodLink RX0 76 arraycopyName, Cond.native arraycopyName, Cond.static arraycopyName]
def wsL_viewMerge_r5 : List Cond := [Cond.initialized "java/lang/System", Cond.fieldLink RX0 31 "Rangeledger$Book" "keyChanges" "I", Cond.methodLink RX0 91 yX0_bounded, Cond.static yX0_bounded, Cond.code yX0_bounded cX0_bounded 1 (some .int), Cond.methodLink RX0 60 Lib.Math.min.name, Cond.static Lib.Math.min.name, Cond.initialized "java/lang/Math", Cond.code Lib.Math.min.name Lib.Math.min.code 2 (some .int), Cond.methodLink RX0 69 Lib.Math.max.name, Cond.static Lib.Math.max.name, Cond.code Lib.Math.max.name Lib.Math.max.code 2 (some .int), Cond.methodLink RX0 94 yX0_enterUnlessZero, Cond.instanceMethod yX0_enterUnlessZero, Cond.selects RX0 yX0_enterUnlessZero yX0_enterUnlessZero, Cond.code yX0_enterUnlessZero cX0_enterUnlessZero 3 (some .int), Cond.methodLink RX0 97 yX0_removeKey, Cond.instanceMethod yX0_removeKey, Cond.selects RX0 yX0_removeKey yX0_removeKey, Cond.code yX0_removeKey cX0_removeKey 4 (some .int), Cond.methodLink RX0 82 yX0_removeRange, Cond.instanceMethod yX0_removeRange, Cond.selects RX0 yX0_removeRange yX0_removeRange, Cond.code yX0_removeRange cX0_removeRange 3 (some .int)]
def wsL_viewMerge : List Cond := .codeWith yL_viewMerge cL_viewMerge 6 (some .int) [(0, 13, 16, 19), (0, 13, 20, 21)] :: ((wsL_viewMerge_r1 ++ (wsL_viewMerge_r2 ++ (wsL_viewMerge_r3 ++ (wsL_viewMerge_r4 ++ wsL_viewMerge_r5)))) ++ wsX40 ++ wsX30 ++ wsX10 ++ wsX00 ++ (vx_atS RX3 313 "java/lang/IndexOutOfBoundsException" ["java/lang/RuntimeException", "java/lang/Exception"]).filter goodWord ++ (vx_atS RX3 90 "java/lang/IllegalArgumentException" ["java/lang/RuntimeException", "java/lang/Exception"]).filter goodWord)
def wsL_viewPoll_r1 : List Cond := [Cond.classLink RL 19 "java/lang/IndexOutOfBoundsException", Cond.methodLink RL 108 yX3_viewPoll, Cond.instanceMethod yX3_viewPoll, Cond.selects RX3 yX3_viewPoll yX3_viewPoll, Cond.initialized RX3, Cond.code yX3_viewPoll cX3_viewPoll 4 (some .int), Cond.methodLink RX3 158 yX3_viewAt, Cond.instanceMethod yX3_viewAt, Cond.selects RX3 yX3_viewAt yX3_viewAt, Cond.code yX3_viewAt cX3_viewAt 2 (some (.object "Rangeledger$View")), Cond.classLink RX3 309 "java/lang/IndexOutOfBoundsException", Cond.initialized "java/lang/IndexOutOfBoundsException", Cond.fieldLink RX3 20 "Rangeledger" "views" "[LRangeledger$View;", Cond.methodLink RX3 165 yX1_book, Cond.instanceMethod yX1_book, Cond.selects RX1 yX1_book yX1_book, Cond.initialized RX1, Cond.code yX1_book cX1_book 1 (some (.object "Rangeledger$Book")), Cond.fieldLink RX1 9 "Rangeledger$View" "book" "LRangeledger$Book;", Cond.methodLink RX3 57 yX0_touch, Cond.instanceMethod yX0_touch, Cond.selects RX0 yX0_touch yX0_touch, Cond.initialized RX0, Cond.code yX0_touch cX0_touch 1 none]
def wsL_viewPoll_r2 : List Cond := [Cond.fieldLink RX0 28 "Rangeledger$Book" "touches" "I", Cond.methodLink RX3 166 yX1_size, Cond.instanceMethod yX1_size, Cond.selects RX1 yX1_size yX1_size, Cond.code yX1_size cX1_size 1 (some .int), Cond.methodLink RX1 50 yX1_end, Cond.instanceMethod yX1_end, Cond.selects RX1 yX1_end yX1_end, Cond.code yX1_end cX1_end 1 (some .int), Cond.fieldLink RX1 44 "Rangeledger$View" "endWeight" "I", Cond.methodLink RX1 47 yX0_placeOfWeight, Cond.instanceMethod yX0_placeOfWeight, Cond.selects RX0 yX0_placeOfWeight yX0_placeOfWeight, Cond.code yX0_placeOfWeight cX0_placeOfWeight 6 (some .int), Cond.fieldLink RX0 25 "Rangeledger$Book" "size" "I", Cond.fieldLink RX0 15 "Rangeledger$Book" "keys" "[I", Cond.methodLink RX0 34 yX0_weight, Cond.instanceMethod yX0_weight, Cond.selects RX0 yX0_weight yX0_weight, Cond.code yX0_weight cX0_weight 4 (some .int), Cond.fieldLink RX0 22 "Rangeledger$Book" "order" "I", Cond.methodLink RX1 54 yX1_start, Cond.instanceMethod yX1_start, Cond.selects RX1 yX1_start yX1_start]
def wsL_viewPoll_r3 : List Cond := [Cond.code yX1_start cX1_start 1 (some .int), Cond.fieldLink RX1 35 "Rangeledger$View" "startWeight" "I", Cond.methodLink RX3 171 yX1_end, Cond.methodLink RX3 174 yX1_start, Cond.methodLink RX3 83 yX0_removeAt, Cond.instanceMethod yX0_removeAt, Cond.selects RX0 yX0_removeAt yX0_removeAt, Cond.code yX0_removeAt cX0_removeAt 3 (some .int), Cond.methodLink RX0 51 yX0_keyAt, Cond.instanceMethod yX0_keyAt, Cond.selects RX0 yX0_keyAt yX0_keyAt, Cond.code yX0_keyAt cX0_keyAt 2 (some .int), Cond.methodLink RX0 41 yX0_isPlace, Cond.instanceMethod yX0_isPlace, Cond.selects RX0 yX0_isPlace yX0_isPlace, Cond.code yX0_isPlace cX0_isPlace 2 (some .boolean), Cond.methodLink RX0 82 yX0_removeRange, Cond.instanceMethod yX0_removeRange, Cond.selects RX0 yX0_removeRange yX0_removeRange, Cond.code yX0_removeRange cX0_removeRange 3 (some .int), Cond.methodLink RX0 76 arraycopyName, Cond.native arraycopyName, Cond.static arraycopyName, Cond.initialized "java/lang/System"]
def wsL_viewPoll_r4 : List Cond := [Cond.fieldLink RX0 19 "Rangeledger$Book" "values" "[I", Cond.fieldLink RX0 31 "Rangeledger$Book" "keyChanges" "I"]
def wsL_viewPoll : List Cond := .codeWith yL_viewPoll cL_viewPoll 5 (some .int) [(0, 11, 14, 19)] :: ((wsL_viewPoll_r1 ++ (wsL_viewPoll_r2 ++ (wsL_viewPoll_r3 ++ wsL_viewPoll_r4))) ++ wsX40 ++ wsX30 ++ wsX10 ++ wsX00 ++ (vx_atS RX3 313 "java/lang/IndexOutOfBoundsException" ["java/lang/RuntimeException", "java/lang/Exception"]).filter goodWord)
def wsL_viewClear_r1 : List Cond := [Cond.classLink RL 19 "java/lang/IndexOutOfBoundsException", Cond.methodLink RL 111 yX3_viewClear, Cond.instanceMethod yX3_viewClear, Cond.selects RX3 yX3_viewClear yX3_viewClear, Cond.initialized RX3, Cond.code yX3_viewClear cX3_viewClear 3 (some .int), Cond.methodLink RX3 158 yX3_viewAt, Cond.instanceMethod yX3_viewAt, Cond.selects RX3 yX3_viewAt yX3_viewAt, Cond.code yX3_viewAt cX3_viewAt 2 (some (.object "Rangeledger$View")), Cond.classLink RX3 309 "java/lang/IndexOutOfBoundsException", Cond.initialized "java/lang/IndexOutOfBoundsException", Cond.fieldLink RX3 20 "Rangeledger" "views" "[LRangeledger$View;", Cond.methodLink RX3 165 yX1_book, Cond.instanceMethod yX1_book, Cond.selects RX1 yX1_book yX1_book, Cond.initialized RX1, Cond.code yX1_book cX1_book 1 (some (.object "Rangeledger$Book")), Cond.fieldLink RX1 9 "Rangeledger$View" "book" "LRangeledger$Book;", Cond.methodLink RX3 57 yX0_touch, Cond.instanceMethod yX0_touch, Cond.selects RX0 yX0_touch yX0_touch, Cond.initialized RX0, Cond.code yX0_touch cX0_touch 1 none]
def wsL_viewClear_r2 : List Cond := [Cond.fieldLink RX0 28 "Rangeledger$Book" "touches" "I", Cond.methodLink RX3 174 yX1_start, Cond.instanceMethod yX1_start, Cond.selects RX1 yX1_start yX1_start, Cond.code yX1_start cX1_start 1 (some .int), Cond.fieldLink RX1 35 "Rangeledger$View" "startWeight" "I", Cond.methodLink RX1 47 yX0_placeOfWeight, Cond.instanceMethod yX0_placeOfWeight, Cond.selects RX0 yX0_placeOfWeight yX0_placeOfWeight, Cond.code yX0_placeOfWeight cX0_placeOfWeight 6 (some .int), Cond.fieldLink RX0 25 "Rangeledger$Book" "size" "I", Cond.fieldLink RX0 15 "Rangeledger$Book" "keys" "[I", Cond.methodLink RX0 34 yX0_weight, Cond.instanceMethod yX0_weight, Cond.selects RX0 yX0_weight yX0_weight, Cond.code yX0_weight cX0_weight 4 (some .int), Cond.fieldLink RX0 22 "Rangeledger$Book" "order" "I", Cond.methodLink RX3 171 yX1_end, Cond.instanceMethod yX1_end, Cond.selects RX1 yX1_end yX1_end, Cond.code yX1_end cX1_end 1 (some .int), Cond.fieldLink RX1 44 "Rangeledger$View" "endWeight" "I", Cond.methodLink RX3 112 yX0_removeRange, Cond.instanceMethod yX0_removeRange]
def wsL_viewClear_r3 : List Cond := [Cond.selects RX0 yX0_removeRange yX0_removeRange, Cond.code yX0_removeRange cX0_removeRange 3 (some .int), Cond.methodLink RX0 76 arraycopyName, Cond.native arraycopyName, Cond.static arraycopyName, Cond.initialized "java/lang/System", Cond.fieldLink RX0 19 "Rangeledger$Book" "values" "[I", Cond.fieldLink RX0 31 "Rangeledger$Book" "keyChanges" "I"]
def wsL_viewClear : List Cond := .codeWith yL_viewClear cL_viewClear 4 (some .int) [(0, 10, 13, 19)] :: ((wsL_viewClear_r1 ++ (wsL_viewClear_r2 ++ wsL_viewClear_r3)) ++ wsX40 ++ wsX30 ++ wsX10 ++ wsX00 ++ (vx_atS RX3 313 "java/lang/IndexOutOfBoundsException" ["java/lang/RuntimeException", "java/lang/Exception"]).filter goodWord)
def wsL_walk_r1 : List Cond := [Cond.classLink RL 19 "java/lang/IndexOutOfBoundsException", Cond.methodLink RL 114 yX3_walk, Cond.instanceMethod yX3_walk, Cond.selects RX3 yX3_walk yX3_walk, Cond.initialized RX3, Cond.code yX3_walk cX3_walk 2 (some .int), Cond.classLink RX3 18 RX1, Cond.instantiable RX1 7, Cond.initialized RX1, Cond.methodLink RX3 47 yX3_bookAt, Cond.instanceMethod yX3_bookAt, Cond.selects RX3 yX3_bookAt yX3_bookAt, Cond.code yX3_bookAt cX3_bookAt 2 (some (.object "Rangeledger$Book")), Cond.classLink RX3 309 "java/lang/IndexOutOfBoundsException", Cond.initialized "java/lang/IndexOutOfBoundsException", Cond.fieldLink RX3 11 "Rangeledger" "books" "[LRangeledger$Book;", Cond.methodLink RX3 144 yX1_init, Cond.instanceMethod yX1_init, Cond.code yX1_init cX1_init 8 none, Cond.methodLink RX1 3 objectInit, Cond.instanceMethod objectInit, Cond.code objectInit ⟨#[0xb1]⟩ 1 none, Cond.fieldLink RX1 9 "Rangeledger$View" "book" "LRangeledger$Book;", Cond.fieldLink RX1 15 "Rangeledger$View" "lower" "I"]
def wsL_walk_r2 : List Cond := [Cond.fieldLink RX1 19 "Rangeledger$View" "isLowerIn" "Z", Cond.fieldLink RX1 23 "Rangeledger$View" "upper" "I", Cond.fieldLink RX1 26 "Rangeledger$View" "isUpperIn" "Z", Cond.fieldLink RX1 35 "Rangeledger$View" "startWeight" "I", Cond.methodLink RX1 38 Lib.Math.max.name, Cond.static Lib.Math.max.name, Cond.initialized "java/lang/Math", Cond.code Lib.Math.max.name Lib.Math.max.code 2 (some .int), Cond.fieldLink RX1 44 "Rangeledger$View" "endWeight" "I", Cond.methodLink RX1 29 yX0_weight, Cond.instanceMethod yX0_weight, Cond.selects RX0 yX0_weight yX0_weight, Cond.initialized RX0, Cond.code yX0_weight cX0_weight 4 (some .int), Cond.fieldLink RX0 22 "Rangeledger$Book" "order" "I", Cond.methodLink RX3 177 yX3_beginWalk, Cond.instanceMethod yX3_beginWalk, Cond.selects RX3 yX3_beginWalk yX3_beginWalk, Cond.code yX3_beginWalk cX3_beginWalk 2 (some .int), Cond.classLink RX3 131 RX2, Cond.instantiable RX2 5, Cond.initialized RX2, Cond.fieldLink RX3 126 "Rangeledger" "ongoing" "LRangeledger$Walk;", Cond.methodLink RX3 318 yX2_init]
def wsL_walk_r3 : List Cond := [Cond.instanceMethod yX2_init, Cond.code yX2_init cX2_init 2 none, Cond.methodLink RX2 3 objectInit, Cond.fieldLink RX2 9 "Rangeledger$Walk" "range" "LRangeledger$View;", Cond.fieldLink RX2 15 "Rangeledger$Walk" "position" "I", Cond.fieldLink RX2 31 "Rangeledger$Walk" "keyChanges" "I", Cond.methodLink RX2 19 yX1_book, Cond.instanceMethod yX1_book, Cond.selects RX1 yX1_book yX1_book, Cond.code yX1_book cX1_book 1 (some (.object "Rangeledger$Book")), Cond.methodLink RX2 25 yX0_keyChanges, Cond.instanceMethod yX0_keyChanges, Cond.selects RX0 yX0_keyChanges yX0_keyChanges, Cond.code yX0_keyChanges cX0_keyChanges 1 (some .int), Cond.fieldLink RX0 31 "Rangeledger$Book" "keyChanges" "I", Cond.methodLink RX3 166 yX1_size, Cond.instanceMethod yX1_size, Cond.selects RX1 yX1_size yX1_size, Cond.code yX1_size cX1_size 1 (some .int), Cond.methodLink RX1 50 yX1_end, Cond.instanceMethod yX1_end, Cond.selects RX1 yX1_end yX1_end, Cond.code yX1_end cX1_end 1 (some .int), Cond.methodLink RX1 47 yX0_placeOfWeight]
def wsL_walk_r4 : List Cond := [Cond.instanceMethod yX0_placeOfWeight, Cond.selects RX0 yX0_placeOfWeight yX0_placeOfWeight, Cond.code yX0_placeOfWeight cX0_placeOfWeight 6 (some .int), Cond.fieldLink RX0 25 "Rangeledger$Book" "size" "I", Cond.fieldLink RX0 15 "Rangeledger$Book" "keys" "[I", Cond.methodLink RX0 34 yX0_weight, Cond.methodLink RX1 54 yX1_start, Cond.instanceMethod yX1_start, Cond.selects RX1 yX1_start yX1_start, Cond.code yX1_start cX1_start 1 (some .int)]
def wsL_walk : List Cond := .codeWith yL_walk cL_walk 4 (some .int) [(0, 10, 13, 19)] :: ((wsL_walk_r1 ++ (wsL_walk_r2 ++ (wsL_walk_r3 ++ wsL_walk_r4))) ++ wsX40 ++ wsX10 ++ wsX30 ++ wsX00 ++ wsX20 ++ (vx_atS RX3 313 "java/lang/IndexOutOfBoundsException" ["java/lang/RuntimeException", "java/lang/Exception"]).filter goodWord)
def wsL_viewWalk_r1 : List Cond := [Cond.classLink RL 19 "java/lang/IndexOutOfBoundsException", Cond.methodLink RL 117 yX3_viewWalk, Cond.instanceMethod yX3_viewWalk, Cond.selects RX3 yX3_viewWalk yX3_viewWalk, Cond.initialized RX3, Cond.code yX3_viewWalk cX3_viewWalk 2 (some .int), Cond.methodLink RX3 158 yX3_viewAt, Cond.instanceMethod yX3_viewAt, Cond.selects RX3 yX3_viewAt yX3_viewAt, Cond.code yX3_viewAt cX3_viewAt 2 (some (.object "Rangeledger$View")), Cond.classLink RX3 309 "java/lang/IndexOutOfBoundsException", Cond.initialized "java/lang/IndexOutOfBoundsException", Cond.fieldLink RX3 20 "Rangeledger" "views" "[LRangeledger$View;", Cond.methodLink RX3 177 yX3_beginWalk, Cond.instanceMethod yX3_beginWalk, Cond.selects RX3 yX3_beginWalk yX3_beginWalk, Cond.code yX3_beginWalk cX3_beginWalk 2 (some .int), Cond.classLink RX3 131 RX2, Cond.instantiable RX2 5, Cond.initialized RX2, Cond.fieldLink RX3 126 "Rangeledger" "ongoing" "LRangeledger$Walk;", Cond.methodLink RX3 318 yX2_init, Cond.instanceMethod yX2_init, Cond.code yX2_init cX2_init 2 none]
def wsL_viewWalk_r2 : List Cond := [Cond.methodLink RX2 3 objectInit, Cond.instanceMethod objectInit, Cond.code objectInit ⟨#[0xb1]⟩ 1 none, Cond.fieldLink RX2 9 "Rangeledger$Walk" "range" "LRangeledger$View;", Cond.fieldLink RX2 15 "Rangeledger$Walk" "position" "I", Cond.fieldLink RX2 31 "Rangeledger$Walk" "keyChanges" "I", Cond.methodLink RX2 19 yX1_book, Cond.instanceMethod yX1_book, Cond.selects RX1 yX1_book yX1_book, Cond.initialized RX1, Cond.code yX1_book cX1_book 1 (some (.object "Rangeledger$Book")), Cond.fieldLink RX1 9 "Rangeledger$View" "book" "LRangeledger$Book;", Cond.methodLink RX2 25 yX0_keyChanges, Cond.instanceMethod yX0_keyChanges, Cond.selects RX0 yX0_keyChanges yX0_keyChanges, Cond.initialized RX0, Cond.code yX0_keyChanges cX0_keyChanges 1 (some .int), Cond.fieldLink RX0 31 "Rangeledger$Book" "keyChanges" "I", Cond.methodLink RX3 166 yX1_size, Cond.instanceMethod yX1_size, Cond.selects RX1 yX1_size yX1_size, Cond.code yX1_size cX1_size 1 (some .int), Cond.methodLink RX1 50 yX1_end, Cond.instanceMethod yX1_end]
def wsL_viewWalk_r3 : List Cond := [Cond.selects RX1 yX1_end yX1_end, Cond.code yX1_end cX1_end 1 (some .int), Cond.fieldLink RX1 44 "Rangeledger$View" "endWeight" "I", Cond.methodLink RX1 47 yX0_placeOfWeight, Cond.instanceMethod yX0_placeOfWeight, Cond.selects RX0 yX0_placeOfWeight yX0_placeOfWeight, Cond.code yX0_placeOfWeight cX0_placeOfWeight 6 (some .int), Cond.fieldLink RX0 25 "Rangeledger$Book" "size" "I", Cond.fieldLink RX0 15 "Rangeledger$Book" "keys" "[I", Cond.methodLink RX0 34 yX0_weight, Cond.instanceMethod yX0_weight, Cond.selects RX0 yX0_weight yX0_weight, Cond.code yX0_weight cX0_weight 4 (some .int), Cond.fieldLink RX0 22 "Rangeledger$Book" "order" "I", Cond.methodLink RX1 54 yX1_start, Cond.instanceMethod yX1_start, Cond.selects RX1 yX1_start yX1_start, Cond.code yX1_start cX1_start 1 (some .int), Cond.fieldLink RX1 35 "Rangeledger$View" "startWeight" "I"]
def wsL_viewWalk : List Cond := .codeWith yL_viewWalk cL_viewWalk 4 (some .int) [(0, 10, 13, 19)] :: ((wsL_viewWalk_r1 ++ (wsL_viewWalk_r2 ++ wsL_viewWalk_r3)) ++ wsX40 ++ wsX30 ++ wsX20 ++ wsX10 ++ wsX00 ++ (vx_atS RX3 313 "java/lang/IndexOutOfBoundsException" ["java/lang/RuntimeException", "java/lang/Exception"]).filter goodWord)
def wsL_step_r1 : List Cond := [Cond.classLink RL 67 "java/lang/IllegalStateException", Cond.methodLink RL 120 yX3_step, Cond.instanceMethod yX3_step, Cond.selects RX3 yX3_step yX3_step, Cond.initialized RX3, Cond.code yX3_step cX3_step 1 (some .int), Cond.methodLink RX3 180 yX3_soundWalk, Cond.instanceMethod yX3_soundWalk, Cond.selects RX3 yX3_soundWalk yX3_soundWalk, Cond.code yX3_soundWalk cX3_soundWalk 1 (some (.object "Rangeledger$Walk")), Cond.classLink RX3 104 "java/lang/IllegalStateException", Cond.initialized "java/lang/IllegalStateException", Cond.fieldLink RX3 126 "Rangeledger" "ongoing" "LRangeledger$Walk;", Cond.methodLink RX3 260 yX2_isBroken, Cond.instanceMethod yX2_isBroken, Cond.selects RX2 yX2_isBroken yX2_isBroken, Cond.initialized RX2, Cond.code yX2_isBroken cX2_isBroken 1 (some .boolean), Cond.fieldLink RX2 31 "Rangeledger$Walk" "keyChanges" "I", Cond.methodLink RX2 33 yX2_book, Cond.instanceMethod yX2_book, Cond.selects RX2 yX2_book yX2_book, Cond.code yX2_book cX2_book 1 (some (.object "Rangeledger$Book")), Cond.fieldLink RX2 9 "Rangeledger$Walk" "range" "LRangeledger$View;"]
def wsL_step_r2 : List Cond := [Cond.methodLink RX2 19 yX1_book, Cond.instanceMethod yX1_book, Cond.selects RX1 yX1_book yX1_book, Cond.initialized RX1, Cond.code yX1_book cX1_book 1 (some (.object "Rangeledger$Book")), Cond.fieldLink RX1 9 "Rangeledger$View" "book" "LRangeledger$Book;", Cond.methodLink RX2 25 yX0_keyChanges, Cond.instanceMethod yX0_keyChanges, Cond.selects RX0 yX0_keyChanges yX0_keyChanges, Cond.initialized RX0, Cond.code yX0_keyChanges cX0_keyChanges 1 (some .int), Cond.fieldLink RX0 31 "Rangeledger$Book" "keyChanges" "I", Cond.methodLink RX3 184 yX2_advance, Cond.instanceMethod yX2_advance, Cond.selects RX2 yX2_advance yX2_advance, Cond.code yX2_advance cX2_advance 2 (some .int), Cond.fieldLink RX2 15 "Rangeledger$Walk" "position" "I", Cond.fieldLink RX2 34 "Rangeledger$Walk" "canDrop" "Z", Cond.fieldLink RX2 38 "Rangeledger$Walk" "touches" "I", Cond.methodLink RX2 43 yX1_start, Cond.instanceMethod yX1_start, Cond.selects RX1 yX1_start yX1_start, Cond.code yX1_start cX1_start 1 (some .int), Cond.fieldLink RX1 35 "Rangeledger$View" "startWeight" "I"]
def wsL_step_r3 : List Cond := [Cond.methodLink RX1 47 yX0_placeOfWeight, Cond.instanceMethod yX0_placeOfWeight, Cond.selects RX0 yX0_placeOfWeight yX0_placeOfWeight, Cond.code yX0_placeOfWeight cX0_placeOfWeight 6 (some .int), Cond.fieldLink RX0 25 "Rangeledger$Book" "size" "I", Cond.fieldLink RX0 15 "Rangeledger$Book" "keys" "[I", Cond.methodLink RX0 34 yX0_weight, Cond.instanceMethod yX0_weight, Cond.selects RX0 yX0_weight yX0_weight, Cond.code yX0_weight cX0_weight 4 (some .int), Cond.fieldLink RX0 22 "Rangeledger$Book" "order" "I", Cond.methodLink RX2 46 yX0_placeBehind, Cond.instanceMethod yX0_placeBehind, Cond.selects RX0 yX0_placeBehind yX0_placeBehind, Cond.code yX0_placeBehind cX0_placeBehind 2 (some .int), Cond.methodLink RX0 38 yX0_placeOfWeight, Cond.methodLink RX2 50 yX1_end, Cond.instanceMethod yX1_end, Cond.selects RX1 yX1_end yX1_end, Cond.code yX1_end cX1_end 1 (some .int), Cond.fieldLink RX1 44 "Rangeledger$View" "endWeight" "I", Cond.methodLink RX2 53 yX0_keyAt, Cond.instanceMethod yX0_keyAt, Cond.selects RX0 yX0_keyAt yX0_keyAt]
def wsL_step_r4 : List Cond := [Cond.code yX0_keyAt cX0_keyAt 2 (some .int), Cond.methodLink RX0 41 yX0_isPlace, Cond.instanceMethod yX0_isPlace, Cond.selects RX0 yX0_isPlace yX0_isPlace, Cond.code yX0_isPlace cX0_isPlace 2 (some .boolean), Cond.methodLink RX2 41 yX0_touches, Cond.instanceMethod yX0_touches, Cond.selects RX0 yX0_touches yX0_touches, Cond.code yX0_touches cX0_touches 1 (some .int), Cond.fieldLink RX0 28 "Rangeledger$Book" "touches" "I"]
def wsL_step : List Cond := .codeWith yL_step cL_step 3 (some .int) [(0, 9, 12, 67)] :: ((wsL_step_r1 ++ (wsL_step_r2 ++ (wsL_step_r3 ++ wsL_step_r4))) ++ wsX40 ++ wsX30 ++ wsX20 ++ wsX10 ++ wsX00 ++ (vx_atS RX3 108 "java/lang/IllegalStateException" ["java/lang/RuntimeException", "java/lang/Exception"]).filter goodWord)
def wsL_write_r1 : List Cond := [Cond.classLink RL 21 "java/lang/IllegalArgumentException", Cond.classLink RL 67 "java/lang/IllegalStateException", Cond.methodLink RL 124 yX3_write, Cond.instanceMethod yX3_write, Cond.selects RX3 yX3_write yX3_write, Cond.initialized RX3, Cond.code yX3_write cX3_write 4 (some .int), Cond.classLink RX3 104 "java/lang/IllegalStateException", Cond.initialized "java/lang/IllegalStateException", Cond.methodLink RX3 54 yX3_checkValue, Cond.static yX3_checkValue, Cond.code yX3_checkValue cX3_checkValue 1 none, Cond.classLink RX3 86 "java/lang/IllegalArgumentException", Cond.initialized "java/lang/IllegalArgumentException", Cond.methodLink RX3 180 yX3_soundWalk, Cond.instanceMethod yX3_soundWalk, Cond.selects RX3 yX3_soundWalk yX3_soundWalk, Cond.code yX3_soundWalk cX3_soundWalk 1 (some (.object "Rangeledger$Walk")), Cond.fieldLink RX3 126 "Rangeledger" "ongoing" "LRangeledger$Walk;", Cond.methodLink RX3 260 yX2_isBroken, Cond.instanceMethod yX2_isBroken, Cond.selects RX2 yX2_isBroken yX2_isBroken, Cond.initialized RX2, Cond.code yX2_isBroken cX2_isBroken 1 (some .boolean)]
def wsL_write_r2 : List Cond := [Cond.fieldLink RX2 31 "Rangeledger$Walk" "keyChanges" "I", Cond.methodLink RX2 33 yX2_book, Cond.instanceMethod yX2_book, Cond.selects RX2 yX2_book yX2_book, Cond.code yX2_book cX2_book 1 (some (.object "Rangeledger$Book")), Cond.fieldLink RX2 9 "Rangeledger$Walk" "range" "LRangeledger$View;", Cond.methodLink RX2 19 yX1_book, Cond.instanceMethod yX1_book, Cond.selects RX1 yX1_book yX1_book, Cond.initialized RX1, Cond.code yX1_book cX1_book 1 (some (.object "Rangeledger$Book")), Cond.fieldLink RX1 9 "Rangeledger$View" "book" "LRangeledger$Book;", Cond.methodLink RX2 25 yX0_keyChanges, Cond.instanceMethod yX0_keyChanges, Cond.selects RX0 yX0_keyChanges yX0_keyChanges, Cond.initialized RX0, Cond.code yX0_keyChanges cX0_keyChanges 1 (some .int), Cond.fieldLink RX0 31 "Rangeledger$Book" "keyChanges" "I", Cond.methodLink RX3 187 yX2_keyAtHand, Cond.instanceMethod yX2_keyAtHand, Cond.selects RX2 yX2_keyAtHand yX2_keyAtHand, Cond.code yX2_keyAtHand cX2_keyAtHand 1 (some .int), Cond.fieldLink RX2 34 "Rangeledger$Walk" "canDrop" "Z", Cond.fieldLink RX2 38 "Rangeledger$Walk" "touches" "I"]
def wsL_write_r3 : List Cond := [Cond.fieldLink RX2 15 "Rangeledger$Walk" "position" "I", Cond.methodLink RX2 41 yX0_touches, Cond.instanceMethod yX0_touches, Cond.selects RX0 yX0_touches yX0_touches, Cond.code yX0_touches cX0_touches 1 (some .int), Cond.fieldLink RX0 28 "Rangeledger$Book" "touches" "I", Cond.methodLink RX3 130 yX2_book, Cond.methodLink RX3 35 yX0_enter, Cond.instanceMethod yX0_enter, Cond.selects RX0 yX0_enter yX0_enter, Cond.code yX0_enter cX0_enter 5 (some .int), Cond.fieldLink RX0 15 "Rangeledger$Book" "keys" "[I", Cond.fieldLink RX0 19 "Rangeledger$Book" "values" "[I", Cond.methodLink RX0 48 yX0_placeOf, Cond.instanceMethod yX0_placeOf, Cond.selects RX0 yX0_placeOf yX0_placeOf, Cond.code yX0_placeOf cX0_placeOf 2 (some .int), Cond.methodLink RX0 34 yX0_weight, Cond.instanceMethod yX0_weight, Cond.selects RX0 yX0_weight yX0_weight, Cond.code yX0_weight cX0_weight 4 (some .int), Cond.fieldLink RX0 22 "Rangeledger$Book" "order" "I", Cond.methodLink RX0 38 yX0_placeOfWeight, Cond.instanceMethod yX0_placeOfWeight]
def wsL_write_r4 : List Cond := [Cond.selects RX0 yX0_placeOfWeight yX0_placeOfWeight, Cond.code yX0_placeOfWeight cX0_placeOfWeight 6 (some .int), Cond.fieldLink RX0 25 "Rangeledger$Book" "size" "I", Cond.methodLink RX0 41 yX0_isPlace, Cond.instanceMethod yX0_isPlace, Cond.selects RX0 yX0_isPlace yX0_isPlace, Cond.code yX0_isPlace cX0_isPlace 2 (some .boolean), Cond.methodLink RX0 72 yX0_insert, Cond.instanceMethod yX0_insert, Cond.selects RX0 yX0_insert yX0_insert, Cond.code yX0_insert cX0_insert 4 none, Cond.methodLink RX0 76 arraycopyName, Cond.native arraycopyName, Cond.static arraycopyName, Cond.initialized "java/lang/System"]
def wsL_write : List Cond := .codeWith yL_write cL_write 4 (some .int) [(0, 10, 13, 21), (0, 10, 16, 67)] :: ((wsL_write_r1 ++ (wsL_write_r2 ++ (wsL_write_r3 ++ wsL_write_r4))) ++ wsX40 ++ wsX30 ++ wsX20 ++ wsX10 ++ wsX00 ++ (vx_atS RX3 108 "java/lang/IllegalStateException" ["java/lang/RuntimeException", "java/lang/Exception"]).filter goodWord ++ (vx_atS RX3 90 "java/lang/IllegalArgumentException" ["java/lang/RuntimeException", "java/lang/Exception"]).filter goodWord)
def wsL_drop_r1 : List Cond := [Cond.classLink RL 67 "java/lang/IllegalStateException", Cond.methodLink RL 127 yX3_drop, Cond.instanceMethod yX3_drop, Cond.selects RX3 yX3_drop yX3_drop, Cond.initialized RX3, Cond.code yX3_drop cX3_drop 2 (some .int), Cond.classLink RX3 104 "java/lang/IllegalStateException", Cond.initialized "java/lang/IllegalStateException", Cond.methodLink RX3 180 yX3_soundWalk, Cond.instanceMethod yX3_soundWalk, Cond.selects RX3 yX3_soundWalk yX3_soundWalk, Cond.code yX3_soundWalk cX3_soundWalk 1 (some (.object "Rangeledger$Walk")), Cond.fieldLink RX3 126 "Rangeledger" "ongoing" "LRangeledger$Walk;", Cond.methodLink RX3 260 yX2_isBroken, Cond.instanceMethod yX2_isBroken, Cond.selects RX2 yX2_isBroken yX2_isBroken, Cond.initialized RX2, Cond.code yX2_isBroken cX2_isBroken 1 (some .boolean), Cond.fieldLink RX2 31 "Rangeledger$Walk" "keyChanges" "I", Cond.methodLink RX2 33 yX2_book, Cond.instanceMethod yX2_book, Cond.selects RX2 yX2_book yX2_book, Cond.code yX2_book cX2_book 1 (some (.object "Rangeledger$Book")), Cond.fieldLink RX2 9 "Rangeledger$Walk" "range" "LRangeledger$View;"]
def wsL_drop_r2 : List Cond := [Cond.methodLink RX2 19 yX1_book, Cond.instanceMethod yX1_book, Cond.selects RX1 yX1_book yX1_book, Cond.initialized RX1, Cond.code yX1_book cX1_book 1 (some (.object "Rangeledger$Book")), Cond.fieldLink RX1 9 "Rangeledger$View" "book" "LRangeledger$Book;", Cond.methodLink RX2 25 yX0_keyChanges, Cond.instanceMethod yX0_keyChanges, Cond.selects RX0 yX0_keyChanges yX0_keyChanges, Cond.initialized RX0, Cond.code yX0_keyChanges cX0_keyChanges 1 (some .int), Cond.fieldLink RX0 31 "Rangeledger$Book" "keyChanges" "I", Cond.methodLink RX3 192 yX2_canDrop, Cond.instanceMethod yX2_canDrop, Cond.selects RX2 yX2_canDrop yX2_canDrop, Cond.code yX2_canDrop cX2_canDrop 1 (some .boolean), Cond.fieldLink RX2 34 "Rangeledger$Walk" "canDrop" "Z", Cond.methodLink RX3 198 yX2_dropLastStep, Cond.instanceMethod yX2_dropLastStep, Cond.selects RX2 yX2_dropLastStep yX2_dropLastStep, Cond.code yX2_dropLastStep cX2_dropLastStep 1 none, Cond.fieldLink RX2 15 "Rangeledger$Walk" "position" "I", Cond.methodLink RX2 56 yX0_removeKey, Cond.instanceMethod yX0_removeKey]
def wsL_drop_r3 : List Cond := [Cond.selects RX0 yX0_removeKey yX0_removeKey, Cond.code yX0_removeKey cX0_removeKey 4 (some .int), Cond.methodLink RX0 48 yX0_placeOf, Cond.instanceMethod yX0_placeOf, Cond.selects RX0 yX0_placeOf yX0_placeOf, Cond.code yX0_placeOf cX0_placeOf 2 (some .int), Cond.methodLink RX0 34 yX0_weight, Cond.instanceMethod yX0_weight, Cond.selects RX0 yX0_weight yX0_weight, Cond.code yX0_weight cX0_weight 4 (some .int), Cond.fieldLink RX0 22 "Rangeledger$Book" "order" "I", Cond.methodLink RX0 38 yX0_placeOfWeight, Cond.instanceMethod yX0_placeOfWeight, Cond.selects RX0 yX0_placeOfWeight yX0_placeOfWeight, Cond.code yX0_placeOfWeight cX0_placeOfWeight 6 (some .int), Cond.fieldLink RX0 25 "Rangeledger$Book" "size" "I", Cond.fieldLink RX0 15 "Rangeledger$Book" "keys" "[I", Cond.methodLink RX0 51 yX0_keyAt, Cond.instanceMethod yX0_keyAt, Cond.selects RX0 yX0_keyAt yX0_keyAt, Cond.code yX0_keyAt cX0_keyAt 2 (some .int), Cond.methodLink RX0 41 yX0_isPlace, Cond.instanceMethod yX0_isPlace, Cond.selects RX0 yX0_isPlace yX0_isPlace]
def wsL_drop_r4 : List Cond := [Cond.code yX0_isPlace cX0_isPlace 2 (some .boolean), Cond.methodLink RX0 54 yX0_valueAt, Cond.instanceMethod yX0_valueAt, Cond.selects RX0 yX0_valueAt yX0_valueAt, Cond.code yX0_valueAt cX0_valueAt 2 (some .int), Cond.fieldLink RX0 19 "Rangeledger$Book" "values" "[I", Cond.methodLink RX0 82 yX0_removeRange, Cond.instanceMethod yX0_removeRange, Cond.selects RX0 yX0_removeRange yX0_removeRange, Cond.code yX0_removeRange cX0_removeRange 3 (some .int), Cond.methodLink RX0 76 arraycopyName, Cond.native arraycopyName, Cond.static arraycopyName, Cond.initialized "java/lang/System", Cond.methodLink RX3 130 yX2_book, Cond.methodLink RX3 79 yX0_size, Cond.instanceMethod yX0_size, Cond.selects RX0 yX0_size yX0_size, Cond.code yX0_size cX0_size 1 (some .int)]
def wsL_drop : List Cond := .codeWith yL_drop cL_drop 3 (some .int) [(0, 9, 12, 67)] :: ((wsL_drop_r1 ++ (wsL_drop_r2 ++ (wsL_drop_r3 ++ wsL_drop_r4))) ++ wsX40 ++ wsX30 ++ wsX20 ++ wsX10 ++ wsX00 ++ (vx_atS RX3 108 "java/lang/IllegalStateException" ["java/lang/RuntimeException", "java/lang/Exception"]).filter goodWord)
def wsL_keep_r1 : List Cond := [Cond.classLink RL 19 "java/lang/IndexOutOfBoundsException", Cond.methodLink RL 130 yX3_keep, Cond.instanceMethod yX3_keep, Cond.selects RX3 yX3_keep yX3_keep, Cond.initialized RX3, Cond.code yX3_keep cX3_keep 5 (some .int), Cond.fieldLink RX3 24 "Rangeledger" "keptKey" "I", Cond.fieldLink RX3 28 "Rangeledger" "keptValue" "I", Cond.methodLink RX3 47 yX3_bookAt, Cond.instanceMethod yX3_bookAt, Cond.selects RX3 yX3_bookAt yX3_bookAt, Cond.code yX3_bookAt cX3_bookAt 2 (some (.object "Rangeledger$Book")), Cond.classLink RX3 309 "java/lang/IndexOutOfBoundsException", Cond.initialized "java/lang/IndexOutOfBoundsException", Cond.fieldLink RX3 11 "Rangeledger" "books" "[LRangeledger$Book;", Cond.methodLink RX3 79 yX0_size, Cond.instanceMethod yX0_size, Cond.selects RX0 yX0_size yX0_size, Cond.initialized RX0, Cond.code yX0_size cX0_size 1 (some .int), Cond.fieldLink RX0 25 "Rangeledger$Book" "size" "I", Cond.methodLink RX3 201 yX0_keyAt, Cond.instanceMethod yX0_keyAt, Cond.selects RX0 yX0_keyAt yX0_keyAt]
def wsL_keep_r2 : List Cond := [Cond.code yX0_keyAt cX0_keyAt 2 (some .int), Cond.fieldLink RX0 15 "Rangeledger$Book" "keys" "[I", Cond.methodLink RX0 41 yX0_isPlace, Cond.instanceMethod yX0_isPlace, Cond.selects RX0 yX0_isPlace yX0_isPlace, Cond.code yX0_isPlace cX0_isPlace 2 (some .boolean), Cond.methodLink RX3 204 yX0_valueAt, Cond.instanceMethod yX0_valueAt, Cond.selects RX0 yX0_valueAt yX0_valueAt, Cond.code yX0_valueAt cX0_valueAt 2 (some .int), Cond.fieldLink RX0 19 "Rangeledger$Book" "values" "[I"]
def wsL_keep : List Cond := .codeWith yL_keep cL_keep 5 (some .int) [(0, 11, 14, 19)] :: ((wsL_keep_r1 ++ wsL_keep_r2) ++ wsX40 ++ wsX30 ++ wsX00 ++ (vx_atS RX3 313 "java/lang/IndexOutOfBoundsException" ["java/lang/RuntimeException", "java/lang/Exception"]).filter goodWord)
def wsL_brand : List Cond := .codeWith yL_brand cL_brand 4 (some .int) [(0, 10, 13, 21)] :: ([.classLink RL 21 "java/lang/IllegalArgumentException", .methodLink RL 133 yX3_brand, .instanceMethod yX3_brand, .selects RX3 yX3_brand yX3_brand, .initialized RX3, .code yX3_brand cX3_brand 2 (some .int), .fieldLink RX3 24 "Rangeledger" "keptKey" "I", .methodLink RX3 54 yX3_checkValue, .static yX3_checkValue, .code yX3_checkValue cX3_checkValue 1 none, .classLink RX3 86 "java/lang/IllegalArgumentException", .initialized "java/lang/IllegalArgumentException"] ++ wsX40 ++ wsX30 ++ (vx_atS RX3 90 "java/lang/IllegalArgumentException" ["java/lang/RuntimeException", "java/lang/Exception"]).filter goodWord)
def wsL_get_r1 : List Cond := [Cond.classLink RL 19 "java/lang/IndexOutOfBoundsException", Cond.classLink RL 21 "java/lang/IllegalArgumentException", Cond.methodLink RL 136 yX3_get, Cond.instanceMethod yX3_get, Cond.selects RX3 yX3_get yX3_get, Cond.initialized RX3, Cond.code yX3_get cX3_get 4 (some .int), Cond.methodLink RX3 47 yX3_bookAt, Cond.instanceMethod yX3_bookAt, Cond.selects RX3 yX3_bookAt yX3_bookAt, Cond.code yX3_bookAt cX3_bookAt 2 (some (.object "Rangeledger$Book")), Cond.classLink RX3 309 "java/lang/IndexOutOfBoundsException", Cond.initialized "java/lang/IndexOutOfBoundsException", Cond.fieldLink RX3 11 "Rangeledger" "books" "[LRangeledger$Book;", Cond.methodLink RX3 51 yX3_checkKey, Cond.static yX3_checkKey, Cond.code yX3_checkKey cX3_checkKey 1 none, Cond.classLink RX3 86 "java/lang/IllegalArgumentException", Cond.initialized "java/lang/IllegalArgumentException", Cond.methodLink RX3 43 yX0_valueOf, Cond.instanceMethod yX0_valueOf, Cond.selects RX0 yX0_valueOf yX0_valueOf, Cond.initialized RX0, Cond.code yX0_valueOf cX0_valueOf 3 (some .int)]
def wsL_get_r2 : List Cond := [Cond.methodLink RX0 48 yX0_placeOf, Cond.instanceMethod yX0_placeOf, Cond.selects RX0 yX0_placeOf yX0_placeOf, Cond.code yX0_placeOf cX0_placeOf 2 (some .int), Cond.methodLink RX0 34 yX0_weight, Cond.instanceMethod yX0_weight, Cond.selects RX0 yX0_weight yX0_weight, Cond.code yX0_weight cX0_weight 4 (some .int), Cond.fieldLink RX0 22 "Rangeledger$Book" "order" "I", Cond.methodLink RX0 38 yX0_placeOfWeight, Cond.instanceMethod yX0_placeOfWeight, Cond.selects RX0 yX0_placeOfWeight yX0_placeOfWeight, Cond.code yX0_placeOfWeight cX0_placeOfWeight 6 (some .int), Cond.fieldLink RX0 25 "Rangeledger$Book" "size" "I", Cond.fieldLink RX0 15 "Rangeledger$Book" "keys" "[I", Cond.methodLink RX0 51 yX0_keyAt, Cond.instanceMethod yX0_keyAt, Cond.selects RX0 yX0_keyAt yX0_keyAt, Cond.code yX0_keyAt cX0_keyAt 2 (some .int), Cond.methodLink RX0 41 yX0_isPlace, Cond.instanceMethod yX0_isPlace, Cond.selects RX0 yX0_isPlace yX0_isPlace, Cond.code yX0_isPlace cX0_isPlace 2 (some .boolean), Cond.methodLink RX0 54 yX0_valueAt]
def wsL_get_r3 : List Cond := [Cond.instanceMethod yX0_valueAt, Cond.selects RX0 yX0_valueAt yX0_valueAt, Cond.code yX0_valueAt cX0_valueAt 2 (some .int), Cond.fieldLink RX0 19 "Rangeledger$Book" "values" "[I"]
def wsL_get : List Cond := .codeWith yL_get cL_get 5 (some .int) [(0, 11, 14, 19), (0, 11, 18, 21)] :: ((wsL_get_r1 ++ (wsL_get_r2 ++ wsL_get_r3)) ++ wsX40 ++ wsX30 ++ wsX00 ++ (vx_atS RX3 313 "java/lang/IndexOutOfBoundsException" ["java/lang/RuntimeException", "java/lang/Exception"]).filter goodWord ++ (vx_atS RX3 90 "java/lang/IllegalArgumentException" ["java/lang/RuntimeException", "java/lang/Exception"]).filter goodWord)
def wsL_getOr_r1 : List Cond := [Cond.classLink RL 19 "java/lang/IndexOutOfBoundsException", Cond.classLink RL 21 "java/lang/IllegalArgumentException", Cond.methodLink RL 139 yX3_getOr, Cond.instanceMethod yX3_getOr, Cond.selects RX3 yX3_getOr yX3_getOr, Cond.initialized RX3, Cond.code yX3_getOr cX3_getOr 5 (some .int), Cond.methodLink RX3 47 yX3_bookAt, Cond.instanceMethod yX3_bookAt, Cond.selects RX3 yX3_bookAt yX3_bookAt, Cond.code yX3_bookAt cX3_bookAt 2 (some (.object "Rangeledger$Book")), Cond.classLink RX3 309 "java/lang/IndexOutOfBoundsException", Cond.initialized "java/lang/IndexOutOfBoundsException", Cond.fieldLink RX3 11 "Rangeledger" "books" "[LRangeledger$Book;", Cond.methodLink RX3 51 yX3_checkKey, Cond.static yX3_checkKey, Cond.code yX3_checkKey cX3_checkKey 1 none, Cond.classLink RX3 86 "java/lang/IllegalArgumentException", Cond.initialized "java/lang/IllegalArgumentException", Cond.methodLink RX3 54 yX3_checkValue, Cond.static yX3_checkValue, Cond.code yX3_checkValue cX3_checkValue 1 none, Cond.methodLink RX3 39 yX0_holds, Cond.instanceMethod yX0_holds]
def wsL_getOr_r2 : List Cond := [Cond.selects RX0 yX0_holds yX0_holds, Cond.initialized RX0, Cond.code yX0_holds cX0_holds 2 (some .boolean), Cond.methodLink RX0 45 yX0_valueOf, Cond.instanceMethod yX0_valueOf, Cond.selects RX0 yX0_valueOf yX0_valueOf, Cond.code yX0_valueOf cX0_valueOf 3 (some .int), Cond.methodLink RX0 48 yX0_placeOf, Cond.instanceMethod yX0_placeOf, Cond.selects RX0 yX0_placeOf yX0_placeOf, Cond.code yX0_placeOf cX0_placeOf 2 (some .int), Cond.methodLink RX0 34 yX0_weight, Cond.instanceMethod yX0_weight, Cond.selects RX0 yX0_weight yX0_weight, Cond.code yX0_weight cX0_weight 4 (some .int), Cond.fieldLink RX0 22 "Rangeledger$Book" "order" "I", Cond.methodLink RX0 38 yX0_placeOfWeight, Cond.instanceMethod yX0_placeOfWeight, Cond.selects RX0 yX0_placeOfWeight yX0_placeOfWeight, Cond.code yX0_placeOfWeight cX0_placeOfWeight 6 (some .int), Cond.fieldLink RX0 25 "Rangeledger$Book" "size" "I", Cond.fieldLink RX0 15 "Rangeledger$Book" "keys" "[I", Cond.methodLink RX0 51 yX0_keyAt, Cond.instanceMethod yX0_keyAt]
def wsL_getOr_r3 : List Cond := [Cond.selects RX0 yX0_keyAt yX0_keyAt, Cond.code yX0_keyAt cX0_keyAt 2 (some .int), Cond.methodLink RX0 41 yX0_isPlace, Cond.instanceMethod yX0_isPlace, Cond.selects RX0 yX0_isPlace yX0_isPlace, Cond.code yX0_isPlace cX0_isPlace 2 (some .boolean), Cond.methodLink RX0 54 yX0_valueAt, Cond.instanceMethod yX0_valueAt, Cond.selects RX0 yX0_valueAt yX0_valueAt, Cond.code yX0_valueAt cX0_valueAt 2 (some .int), Cond.fieldLink RX0 19 "Rangeledger$Book" "values" "[I", Cond.methodLink RX3 43 yX0_valueOf]
def wsL_getOr : List Cond := .codeWith yL_getOr cL_getOr 6 (some .int) [(0, 13, 16, 19), (0, 13, 20, 21)] :: ((wsL_getOr_r1 ++ (wsL_getOr_r2 ++ wsL_getOr_r3)) ++ wsX40 ++ wsX30 ++ wsX00 ++ (vx_atS RX3 313 "java/lang/IndexOutOfBoundsException" ["java/lang/RuntimeException", "java/lang/Exception"]).filter goodWord ++ (vx_atS RX3 90 "java/lang/IllegalArgumentException" ["java/lang/RuntimeException", "java/lang/Exception"]).filter goodWord)
def wsL_has_r1 : List Cond := [Cond.classLink RL 19 "java/lang/IndexOutOfBoundsException", Cond.classLink RL 21 "java/lang/IllegalArgumentException", Cond.methodLink RL 142 yX3_has, Cond.instanceMethod yX3_has, Cond.selects RX3 yX3_has yX3_has, Cond.initialized RX3, Cond.code yX3_has cX3_has 4 (some .boolean), Cond.methodLink RX3 47 yX3_bookAt, Cond.instanceMethod yX3_bookAt, Cond.selects RX3 yX3_bookAt yX3_bookAt, Cond.code yX3_bookAt cX3_bookAt 2 (some (.object "Rangeledger$Book")), Cond.classLink RX3 309 "java/lang/IndexOutOfBoundsException", Cond.initialized "java/lang/IndexOutOfBoundsException", Cond.fieldLink RX3 11 "Rangeledger" "books" "[LRangeledger$Book;", Cond.methodLink RX3 51 yX3_checkKey, Cond.static yX3_checkKey, Cond.code yX3_checkKey cX3_checkKey 1 none, Cond.classLink RX3 86 "java/lang/IllegalArgumentException", Cond.initialized "java/lang/IllegalArgumentException", Cond.methodLink RX3 39 yX0_holds, Cond.instanceMethod yX0_holds, Cond.selects RX0 yX0_holds yX0_holds, Cond.initialized RX0, Cond.code yX0_holds cX0_holds 2 (some .boolean)]
def wsL_has_r2 : List Cond := [Cond.methodLink RX0 45 yX0_valueOf, Cond.instanceMethod yX0_valueOf, Cond.selects RX0 yX0_valueOf yX0_valueOf, Cond.code yX0_valueOf cX0_valueOf 3 (some .int), Cond.methodLink RX0 48 yX0_placeOf, Cond.instanceMethod yX0_placeOf, Cond.selects RX0 yX0_placeOf yX0_placeOf, Cond.code yX0_placeOf cX0_placeOf 2 (some .int), Cond.methodLink RX0 34 yX0_weight, Cond.instanceMethod yX0_weight, Cond.selects RX0 yX0_weight yX0_weight, Cond.code yX0_weight cX0_weight 4 (some .int), Cond.fieldLink RX0 22 "Rangeledger$Book" "order" "I", Cond.methodLink RX0 38 yX0_placeOfWeight, Cond.instanceMethod yX0_placeOfWeight, Cond.selects RX0 yX0_placeOfWeight yX0_placeOfWeight, Cond.code yX0_placeOfWeight cX0_placeOfWeight 6 (some .int), Cond.fieldLink RX0 25 "Rangeledger$Book" "size" "I", Cond.fieldLink RX0 15 "Rangeledger$Book" "keys" "[I", Cond.methodLink RX0 51 yX0_keyAt, Cond.instanceMethod yX0_keyAt, Cond.selects RX0 yX0_keyAt yX0_keyAt, Cond.code yX0_keyAt cX0_keyAt 2 (some .int), Cond.methodLink RX0 41 yX0_isPlace]
def wsL_has_r3 : List Cond := [Cond.instanceMethod yX0_isPlace, Cond.selects RX0 yX0_isPlace yX0_isPlace, Cond.code yX0_isPlace cX0_isPlace 2 (some .boolean), Cond.methodLink RX0 54 yX0_valueAt, Cond.instanceMethod yX0_valueAt, Cond.selects RX0 yX0_valueAt yX0_valueAt, Cond.code yX0_valueAt cX0_valueAt 2 (some .int), Cond.fieldLink RX0 19 "Rangeledger$Book" "values" "[I"]
def wsL_has : List Cond := .codeWith yL_has cL_has 5 (some .int) [(0, 18, 21, 19), (0, 18, 25, 21)] :: ((wsL_has_r1 ++ (wsL_has_r2 ++ wsL_has_r3)) ++ wsX40 ++ wsX30 ++ wsX00 ++ (vx_atS RX3 313 "java/lang/IndexOutOfBoundsException" ["java/lang/RuntimeException", "java/lang/Exception"]).filter goodWord ++ (vx_atS RX3 90 "java/lang/IllegalArgumentException" ["java/lang/RuntimeException", "java/lang/Exception"]).filter goodWord)
def wsL_hasValue_r1 : List Cond := [Cond.classLink RL 19 "java/lang/IndexOutOfBoundsException", Cond.classLink RL 21 "java/lang/IllegalArgumentException", Cond.methodLink RL 145 yX3_hasValue, Cond.instanceMethod yX3_hasValue, Cond.selects RX3 yX3_hasValue yX3_hasValue, Cond.initialized RX3, Cond.code yX3_hasValue cX3_hasValue 4 (some .boolean), Cond.methodLink RX3 47 yX3_bookAt, Cond.instanceMethod yX3_bookAt, Cond.selects RX3 yX3_bookAt yX3_bookAt, Cond.code yX3_bookAt cX3_bookAt 2 (some (.object "Rangeledger$Book")), Cond.classLink RX3 309 "java/lang/IndexOutOfBoundsException", Cond.initialized "java/lang/IndexOutOfBoundsException", Cond.fieldLink RX3 11 "Rangeledger" "books" "[LRangeledger$Book;", Cond.methodLink RX3 54 yX3_checkValue, Cond.static yX3_checkValue, Cond.code yX3_checkValue cX3_checkValue 1 none, Cond.classLink RX3 86 "java/lang/IllegalArgumentException", Cond.initialized "java/lang/IllegalArgumentException", Cond.methodLink RX3 109 yX0_firstPlaceOfValue, Cond.instanceMethod yX0_firstPlaceOfValue, Cond.selects RX0 yX0_firstPlaceOfValue yX0_firstPlaceOfValue, Cond.initialized RX0, Cond.code yX0_firstPlaceOfValue cX0_firstPlaceOfValue 3 (some .int)]
def wsL_hasValue_r2 : List Cond := [Cond.fieldLink RX0 25 "Rangeledger$Book" "size" "I", Cond.fieldLink RX0 19 "Rangeledger$Book" "values" "[I"]
def wsL_hasValue : List Cond := .codeWith yL_hasValue cL_hasValue 5 (some .int) [(0, 18, 21, 19), (0, 18, 25, 21)] :: ((wsL_hasValue_r1 ++ wsL_hasValue_r2) ++ wsX40 ++ wsX30 ++ wsX00 ++ (vx_atS RX3 313 "java/lang/IndexOutOfBoundsException" ["java/lang/RuntimeException", "java/lang/Exception"]).filter goodWord ++ (vx_atS RX3 90 "java/lang/IllegalArgumentException" ["java/lang/RuntimeException", "java/lang/Exception"]).filter goodWord)
def wsL_ofBook_r1 : List Cond := [Cond.classLink RL 19 "java/lang/IndexOutOfBoundsException", Cond.classLink RL 21 "java/lang/IllegalArgumentException", Cond.methodLink RL 148 yX3_ofBook, Cond.instanceMethod yX3_ofBook, Cond.selects RX3 yX3_ofBook yX3_ofBook, Cond.initialized RX3, Cond.code yX3_ofBook cX3_ofBook 4 (some .int), Cond.methodLink RX3 47 yX3_bookAt, Cond.instanceMethod yX3_bookAt, Cond.selects RX3 yX3_bookAt yX3_bookAt, Cond.code yX3_bookAt cX3_bookAt 2 (some (.object "Rangeledger$Book")), Cond.classLink RX3 309 "java/lang/IndexOutOfBoundsException", Cond.initialized "java/lang/IndexOutOfBoundsException", Cond.fieldLink RX3 11 "Rangeledger" "books" "[LRangeledger$Book;", Cond.methodLink RX3 210 yX3_checkWhat, Cond.static yX3_checkWhat, Cond.code yX3_checkWhat cX3_checkWhat 2 none, Cond.classLink RX3 86 "java/lang/IllegalArgumentException", Cond.initialized "java/lang/IllegalArgumentException", Cond.methodLink RX3 79 yX0_size, Cond.instanceMethod yX0_size, Cond.selects RX0 yX0_size yX0_size, Cond.initialized RX0, Cond.code yX0_size cX0_size 1 (some .int)]
def wsL_ofBook_r2 : List Cond := [Cond.fieldLink RX0 25 "Rangeledger$Book" "size" "I", Cond.methodLink RX3 213 yX0_order, Cond.instanceMethod yX0_order, Cond.selects RX0 yX0_order yX0_order, Cond.code yX0_order cX0_order 1 (some .int), Cond.fieldLink RX0 22 "Rangeledger$Book" "order" "I", Cond.methodLink RX3 201 yX0_keyAt, Cond.instanceMethod yX0_keyAt, Cond.selects RX0 yX0_keyAt yX0_keyAt, Cond.code yX0_keyAt cX0_keyAt 2 (some .int), Cond.fieldLink RX0 15 "Rangeledger$Book" "keys" "[I", Cond.methodLink RX0 41 yX0_isPlace, Cond.instanceMethod yX0_isPlace, Cond.selects RX0 yX0_isPlace yX0_isPlace, Cond.code yX0_isPlace cX0_isPlace 2 (some .boolean), Cond.methodLink RX3 204 yX0_valueAt, Cond.instanceMethod yX0_valueAt, Cond.selects RX0 yX0_valueAt yX0_valueAt, Cond.code yX0_valueAt cX0_valueAt 2 (some .int), Cond.fieldLink RX0 19 "Rangeledger$Book" "values" "[I", Cond.methodLink RX3 216 yX0_sum, Cond.instanceMethod yX0_sum, Cond.selects RX0 yX0_sum yX0_sum, Cond.code yX0_sum cX0_sum 5 (some .int)]
def wsL_ofBook_r3 : List Cond := [Cond.methodLink RX3 219 yX0_unlikeValues, Cond.instanceMethod yX0_unlikeValues, Cond.selects RX0 yX0_unlikeValues yX0_unlikeValues, Cond.code yX0_unlikeValues cX0_unlikeValues 3 (some .int), Cond.methodLink RX0 57 yX0_firstPlaceOfValue, Cond.instanceMethod yX0_firstPlaceOfValue, Cond.selects RX0 yX0_firstPlaceOfValue yX0_firstPlaceOfValue, Cond.code yX0_firstPlaceOfValue cX0_firstPlaceOfValue 3 (some .int), Cond.methodLink RX3 222 yX3_viewsOnto, Cond.instanceMethod yX3_viewsOnto, Cond.selects RX3 yX3_viewsOnto yX3_viewsOnto, Cond.code yX3_viewsOnto cX3_viewsOnto 4 (some .int), Cond.fieldLink RX3 20 "Rangeledger" "views" "[LRangeledger$View;", Cond.methodLink RX3 165 yX1_book, Cond.instanceMethod yX1_book, Cond.selects RX1 yX1_book yX1_book, Cond.initialized RX1, Cond.code yX1_book cX1_book 1 (some (.object "Rangeledger$Book")), Cond.fieldLink RX1 9 "Rangeledger$View" "book" "LRangeledger$Book;"]
def wsL_ofBook : List Cond := .codeWith yL_ofBook cL_ofBook 5 (some .int) [(0, 11, 14, 19), (0, 11, 18, 21)] :: ((wsL_ofBook_r1 ++ (wsL_ofBook_r2 ++ wsL_ofBook_r3)) ++ wsX40 ++ wsX30 ++ wsX00 ++ wsX10 ++ (vx_atS RX3 313 "java/lang/IndexOutOfBoundsException" ["java/lang/RuntimeException", "java/lang/Exception"]).filter goodWord ++ (vx_atS RX3 90 "java/lang/IllegalArgumentException" ["java/lang/RuntimeException", "java/lang/Exception"]).filter goodWord)
def wsL_near_r1 : List Cond := [Cond.classLink RL 19 "java/lang/IndexOutOfBoundsException", Cond.classLink RL 21 "java/lang/IllegalArgumentException", Cond.methodLink RL 151 yX3_near, Cond.instanceMethod yX3_near, Cond.selects RX3 yX3_near yX3_near, Cond.initialized RX3, Cond.code yX3_near cX3_near 6 (some .int), Cond.methodLink RX3 47 yX3_bookAt, Cond.instanceMethod yX3_bookAt, Cond.selects RX3 yX3_bookAt yX3_bookAt, Cond.code yX3_bookAt cX3_bookAt 2 (some (.object "Rangeledger$Book")), Cond.classLink RX3 309 "java/lang/IndexOutOfBoundsException", Cond.initialized "java/lang/IndexOutOfBoundsException", Cond.fieldLink RX3 11 "Rangeledger" "books" "[LRangeledger$Book;", Cond.methodLink RX3 51 yX3_checkKey, Cond.static yX3_checkKey, Cond.code yX3_checkKey cX3_checkKey 1 none, Cond.classLink RX3 86 "java/lang/IllegalArgumentException", Cond.initialized "java/lang/IllegalArgumentException", Cond.methodLink RX3 210 yX3_checkWhat, Cond.static yX3_checkWhat, Cond.code yX3_checkWhat cX3_checkWhat 2 none, Cond.methodLink RX3 79 yX0_size, Cond.instanceMethod yX0_size]
def wsL_near_r2 : List Cond := [Cond.selects RX0 yX0_size yX0_size, Cond.initialized RX0, Cond.code yX0_size cX0_size 1 (some .int), Cond.fieldLink RX0 25 "Rangeledger$Book" "size" "I", Cond.methodLink RX3 225 yX0_closest, Cond.instanceMethod yX0_closest, Cond.selects RX0 yX0_closest yX0_closest, Cond.code yX0_closest cX0_closest 8 (some .int), Cond.methodLink RX0 60 Lib.Math.min.name, Cond.static Lib.Math.min.name, Cond.initialized "java/lang/Math", Cond.code Lib.Math.min.name Lib.Math.min.code 2 (some .int), Cond.methodLink RX0 69 Lib.Math.max.name, Cond.static Lib.Math.max.name, Cond.code Lib.Math.max.name Lib.Math.max.code 2 (some .int), Cond.methodLink RX0 48 yX0_placeOf, Cond.instanceMethod yX0_placeOf, Cond.selects RX0 yX0_placeOf yX0_placeOf, Cond.code yX0_placeOf cX0_placeOf 2 (some .int), Cond.methodLink RX0 34 yX0_weight, Cond.instanceMethod yX0_weight, Cond.selects RX0 yX0_weight yX0_weight, Cond.code yX0_weight cX0_weight 4 (some .int), Cond.fieldLink RX0 22 "Rangeledger$Book" "order" "I"]
def wsL_near_r3 : List Cond := [Cond.methodLink RX0 38 yX0_placeOfWeight, Cond.instanceMethod yX0_placeOfWeight, Cond.selects RX0 yX0_placeOfWeight yX0_placeOfWeight, Cond.code yX0_placeOfWeight cX0_placeOfWeight 6 (some .int), Cond.fieldLink RX0 15 "Rangeledger$Book" "keys" "[I", Cond.methodLink RX0 51 yX0_keyAt, Cond.instanceMethod yX0_keyAt, Cond.selects RX0 yX0_keyAt yX0_keyAt, Cond.code yX0_keyAt cX0_keyAt 2 (some .int), Cond.methodLink RX0 41 yX0_isPlace, Cond.instanceMethod yX0_isPlace, Cond.selects RX0 yX0_isPlace yX0_isPlace, Cond.code yX0_isPlace cX0_isPlace 2 (some .boolean), Cond.methodLink RX0 66 yX0_placeBehind, Cond.instanceMethod yX0_placeBehind, Cond.selects RX0 yX0_placeBehind yX0_placeBehind, Cond.code yX0_placeBehind cX0_placeBehind 2 (some .int), Cond.methodLink RX3 43 yX0_valueOf, Cond.instanceMethod yX0_valueOf, Cond.selects RX0 yX0_valueOf yX0_valueOf, Cond.code yX0_valueOf cX0_valueOf 3 (some .int), Cond.methodLink RX0 54 yX0_valueAt, Cond.instanceMethod yX0_valueAt, Cond.selects RX0 yX0_valueAt yX0_valueAt]
def wsL_near_r4 : List Cond := [Cond.code yX0_valueAt cX0_valueAt 2 (some .int), Cond.fieldLink RX0 19 "Rangeledger$Book" "values" "[I"]
def wsL_near : List Cond := .codeWith yL_near cL_near 6 (some .int) [(0, 13, 16, 19), (0, 13, 20, 21)] :: ((wsL_near_r1 ++ (wsL_near_r2 ++ (wsL_near_r3 ++ wsL_near_r4))) ++ wsX40 ++ wsX30 ++ wsX00 ++ (vx_atS RX3 313 "java/lang/IndexOutOfBoundsException" ["java/lang/RuntimeException", "java/lang/Exception"]).filter goodWord ++ (vx_atS RX3 90 "java/lang/IllegalArgumentException" ["java/lang/RuntimeException", "java/lang/Exception"]).filter goodWord)
def wsL_place_r1 : List Cond := [Cond.classLink RL 19 "java/lang/IndexOutOfBoundsException", Cond.classLink RL 21 "java/lang/IllegalArgumentException", Cond.methodLink RL 154 yX3_place, Cond.instanceMethod yX3_place, Cond.selects RX3 yX3_place yX3_place, Cond.initialized RX3, Cond.code yX3_place cX3_place 4 (some .int), Cond.methodLink RX3 47 yX3_bookAt, Cond.instanceMethod yX3_bookAt, Cond.selects RX3 yX3_bookAt yX3_bookAt, Cond.code yX3_bookAt cX3_bookAt 2 (some (.object "Rangeledger$Book")), Cond.classLink RX3 309 "java/lang/IndexOutOfBoundsException", Cond.initialized "java/lang/IndexOutOfBoundsException", Cond.fieldLink RX3 11 "Rangeledger" "books" "[LRangeledger$Book;", Cond.methodLink RX3 51 yX3_checkKey, Cond.static yX3_checkKey, Cond.code yX3_checkKey cX3_checkKey 1 none, Cond.classLink RX3 86 "java/lang/IllegalArgumentException", Cond.initialized "java/lang/IllegalArgumentException", Cond.methodLink RX3 229 yX0_placeOf, Cond.instanceMethod yX0_placeOf, Cond.selects RX0 yX0_placeOf yX0_placeOf, Cond.initialized RX0, Cond.code yX0_placeOf cX0_placeOf 2 (some .int)]
def wsL_place_r2 : List Cond := [Cond.methodLink RX0 34 yX0_weight, Cond.instanceMethod yX0_weight, Cond.selects RX0 yX0_weight yX0_weight, Cond.code yX0_weight cX0_weight 4 (some .int), Cond.fieldLink RX0 22 "Rangeledger$Book" "order" "I", Cond.methodLink RX0 38 yX0_placeOfWeight, Cond.instanceMethod yX0_placeOfWeight, Cond.selects RX0 yX0_placeOfWeight yX0_placeOfWeight, Cond.code yX0_placeOfWeight cX0_placeOfWeight 6 (some .int), Cond.fieldLink RX0 25 "Rangeledger$Book" "size" "I", Cond.fieldLink RX0 15 "Rangeledger$Book" "keys" "[I"]
def wsL_place : List Cond := .codeWith yL_place cL_place 5 (some .int) [(0, 11, 14, 19), (0, 11, 18, 21)] :: ((wsL_place_r1 ++ wsL_place_r2) ++ wsX40 ++ wsX30 ++ wsX00 ++ (vx_atS RX3 313 "java/lang/IndexOutOfBoundsException" ["java/lang/RuntimeException", "java/lang/Exception"]).filter goodWord ++ (vx_atS RX3 90 "java/lang/IllegalArgumentException" ["java/lang/RuntimeException", "java/lang/Exception"]).filter goodWord)
def wsL_at_r1 : List Cond := [Cond.classLink RL 19 "java/lang/IndexOutOfBoundsException", Cond.classLink RL 21 "java/lang/IllegalArgumentException", Cond.methodLink RL 157 yX3_at, Cond.instanceMethod yX3_at, Cond.selects RX3 yX3_at yX3_at, Cond.initialized RX3, Cond.code yX3_at cX3_at 4 (some .int), Cond.classLink RX3 86 "java/lang/IllegalArgumentException", Cond.initialized "java/lang/IllegalArgumentException", Cond.methodLink RX3 47 yX3_bookAt, Cond.instanceMethod yX3_bookAt, Cond.selects RX3 yX3_bookAt yX3_bookAt, Cond.code yX3_bookAt cX3_bookAt 2 (some (.object "Rangeledger$Book")), Cond.classLink RX3 309 "java/lang/IndexOutOfBoundsException", Cond.initialized "java/lang/IndexOutOfBoundsException", Cond.fieldLink RX3 11 "Rangeledger" "books" "[LRangeledger$Book;", Cond.methodLink RX3 201 yX0_keyAt, Cond.instanceMethod yX0_keyAt, Cond.selects RX0 yX0_keyAt yX0_keyAt, Cond.initialized RX0, Cond.code yX0_keyAt cX0_keyAt 2 (some .int), Cond.fieldLink RX0 15 "Rangeledger$Book" "keys" "[I", Cond.methodLink RX0 41 yX0_isPlace, Cond.instanceMethod yX0_isPlace]
def wsL_at_r2 : List Cond := [Cond.selects RX0 yX0_isPlace yX0_isPlace, Cond.code yX0_isPlace cX0_isPlace 2 (some .boolean), Cond.fieldLink RX0 25 "Rangeledger$Book" "size" "I"]
def wsL_at : List Cond := .codeWith yL_at cL_at 5 (some .int) [(0, 11, 14, 19), (0, 11, 18, 21)] :: ((wsL_at_r1 ++ wsL_at_r2) ++ wsX40 ++ wsX30 ++ wsX00 ++ (vx_atS RX3 90 "java/lang/IllegalArgumentException" ["java/lang/RuntimeException", "java/lang/Exception"]).filter goodWord ++ (vx_atS RX3 313 "java/lang/IndexOutOfBoundsException" ["java/lang/RuntimeException", "java/lang/Exception"]).filter goodWord)
def wsL_row_r1 : List Cond := [Cond.classLink RL 19 "java/lang/IndexOutOfBoundsException", Cond.methodLink RL 160 yX3_row, Cond.instanceMethod yX3_row, Cond.selects RX3 yX3_row yX3_row, Cond.initialized RX3, Cond.code yX3_row cX3_row 3 (some (.object "java/lang/String")), Cond.methodLink RX3 47 yX3_bookAt, Cond.instanceMethod yX3_bookAt, Cond.selects RX3 yX3_bookAt yX3_bookAt, Cond.code yX3_bookAt cX3_bookAt 2 (some (.object "Rangeledger$Book")), Cond.classLink RX3 309 "java/lang/IndexOutOfBoundsException", Cond.initialized "java/lang/IndexOutOfBoundsException", Cond.fieldLink RX3 11 "Rangeledger" "books" "[LRangeledger$Book;", Cond.methodLink RX3 79 yX0_size, Cond.instanceMethod yX0_size, Cond.selects RX0 yX0_size yX0_size, Cond.initialized RX0, Cond.code yX0_size cX0_size 1 (some .int), Cond.fieldLink RX0 25 "Rangeledger$Book" "size" "I", Cond.methodLink RX3 234 yX0_text, Cond.instanceMethod yX0_text, Cond.selects RX0 yX0_text yX0_text, Cond.code yX0_text cX0_text 5 (some (.object "java/lang/String")), Cond.classLink RX0 123 RJ4]
def wsL_row_r2 : List Cond := [Cond.instantiable RJ4 4, Cond.initialized RJ4, Cond.methodLink RX0 125 yJ4_init_da8c8, Cond.instanceMethod yJ4_init_da8c8, Cond.code yJ4_init_da8c8 cJ4_init_da8c8 1 none, Cond.methodLink RJ4 1 yJ5_init_d00df, Cond.instanceMethod yJ5_init_d00df, Cond.initialized RJ5, Cond.code yJ5_init_d00df cJ5_init_d00df 2 none, Cond.methodLink RJ5 3 objectInit, Cond.instanceMethod objectInit, Cond.code objectInit ⟨#[0xb1]⟩ 1 none, Cond.fieldLink RJ5 18 "java/lang/String" "COMPACT_STRINGS" "Z", Cond.arrayClass .byte, Cond.fieldLink RJ5 15 "java/lang/AbstractStringBuilder" "value" "[B", Cond.fieldLink RJ5 22 "java/lang/AbstractStringBuilder" "coder" "B", Cond.methodLink RJ5 26 yJ2_newBytesFor_77867, Cond.static yJ2_newBytesFor_77867, Cond.initialized RJ2, Cond.code yJ2_newBytesFor_77867 cJ2_newBytesFor_77867 1 (some (.array .byte)), Cond.methodLink RJ2 11 yJ2_newBytesLength_0f7a4, Cond.static yJ2_newBytesLength_0f7a4, Cond.code yJ2_newBytesLength_0f7a4 cJ2_newBytesLength_0f7a4 1 (some .int), Cond.constant RJ2 20 (1073741823)]
def wsL_row_r3 : List Cond := [Cond.methodLink RX0 126 yJ4_append_cf468, Cond.instanceMethod yJ4_append_cf468, Cond.selects RJ4 yJ4_append_cf468 yJ4_append_cf468, Cond.code yJ4_append_cf468 cJ4_append_cf468 2 (some (.object "java/lang/StringBuilder")), Cond.methodLink RJ4 50 yJ5_append_3fe6f, Cond.sameMethod "java/lang/AbstractStringBuilder" "java/lang/AbstractStringBuilder" "append" "(C)Ljava/lang/AbstractStringBuilder;", Cond.superclass RJ4 RJ5, Cond.instanceMethod yJ5_append_3fe6f, Cond.code yJ5_append_3fe6f cJ5_append_3fe6f 2 (some (.object "java/lang/AbstractStringBuilder")), Cond.fieldLink RJ5 79 "java/lang/AbstractStringBuilder" "count" "I", Cond.methodLink RJ5 100 ⟨"java/lang/AbstractStringBuilder", "ensureCapacityInternal", "(I)V"⟩, Cond.sameMethod "java/lang/AbstractStringBuilder" "java/lang/AbstractStringBuilder" "ensureCapacityInternal" "(I)V", Cond.selects RJ4 ⟨"java/lang/AbstractStringBuilder", "ensureCapacityInternal", "(I)V"⟩ yJ5_ensureCapacityInternal_d00df, Cond.instanceMethod yJ5_ensureCapacityInternal_d00df, Cond.code yJ5_ensureCapacityInternal_d00df cJ5_ensureCapacityInternal_d00df 3 none, Cond.methodLink RJ5 104 ⟨"java/lang/AbstractStringBuilder", "newCapacity", "(I)I"⟩, Cond.sameMethod "java/lang/AbstractStringBuilder" "java/lang/AbstractStringBuilder" "newCapacity" "(I)I", Cond.selects RJ4 ⟨"java/lang/AbstractStringBuilder", "newCapacity", "(I)I"⟩ yJ5_newCapacity_0f7a4, Cond.instanceMethod yJ5_newCapacity_0f7a4, Cond.code yJ5_newCapacity_0f7a4 cJ5_newCapacity_0f7a4 6 (some .int), Cond.constant RJ5 39 (2147483647), Cond.methodLink RJ5 114 yJ8_newLength_cabcc, Cond.static yJ8_newLength_cabcc, Cond.initialized RJ8]
def wsL_row_r4 : List Cond := [Cond.code yJ8_newLength_cabcc cJ8_newLength_cabcc 4 (some .int), Cond.methodLink RJ8 194 Lib.Math.max.name, Cond.static Lib.Math.max.name, Cond.initialized "java/lang/Math", Cond.code Lib.Math.max.name Lib.Math.max.code 2 (some .int), Cond.constant RJ8 200 (2147483639), Cond.methodLink RJ8 201 yJ8_hugeLength_7cf53, Cond.static yJ8_hugeLength_7cf53, Cond.code yJ8_hugeLength_7cf53 cJ8_hugeLength_7cf53 3 (some .int), Cond.methodLink RJ5 108 yJ7_copyOf_9075b, Cond.static yJ7_copyOf_9075b, Cond.initialized RJ7, Cond.code yJ7_copyOf_9075b cJ7_copyOf_9075b 3 (some (.array .byte)), Cond.methodLink RJ7 310 ⟨"[B", "clone", "()Ljava/lang/Object;"⟩, Cond.sameMethod "[B" "java/lang/Object" "clone" "()Ljava/lang/Object;", Cond.native ⟨"java/lang/Object", "clone", "()Ljava/lang/Object;"⟩, Cond.instanceMethod ⟨"java/lang/Object", "clone", "()Ljava/lang/Object;"⟩, Cond.selects "[B" ⟨"[B", "clone", "()Ljava/lang/Object;"⟩ ⟨"java/lang/Object", "clone", "()Ljava/lang/Object;"⟩, Cond.classLink RJ7 311 "[B", Cond.methodLink RJ7 304 Lib.Math.min.name, Cond.static Lib.Math.min.name, Cond.code Lib.Math.min.name Lib.Math.min.code 2 (some .int), Cond.methodLink RJ7 150 arraycopyName, Cond.native arraycopyName]
def wsL_row_r5 : List Cond := [Cond.static arraycopyName, Cond.initialized "java/lang/System", Cond.methodLink RJ5 83 ⟨"java/lang/AbstractStringBuilder", "isLatin1", "()Z"⟩, Cond.sameMethod "java/lang/AbstractStringBuilder" "java/lang/AbstractStringBuilder" "isLatin1" "()Z", Cond.selects RJ4 ⟨"java/lang/AbstractStringBuilder", "isLatin1", "()Z"⟩ yJ5_isLatin1_aae02, Cond.instanceMethod yJ5_isLatin1_aae02, Cond.code yJ5_isLatin1_aae02 cJ5_isLatin1_aae02 1 (some .boolean), Cond.methodLink RJ5 191 yJ1_canEncode_fc78d, Cond.static yJ1_canEncode_fc78d, Cond.initialized RJ1, Cond.code yJ1_canEncode_fc78d cJ1_canEncode_fc78d 1 (some .boolean), Cond.methodLink RJ5 195 ⟨"java/lang/AbstractStringBuilder", "inflate", "()V"⟩, Cond.sameMethod "java/lang/AbstractStringBuilder" "java/lang/AbstractStringBuilder" "inflate" "()V", Cond.selects RJ4 ⟨"java/lang/AbstractStringBuilder", "inflate", "()V"⟩ yJ5_inflate_da8c8, Cond.instanceMethod yJ5_inflate_da8c8, Cond.code yJ5_inflate_da8c8 cJ5_inflate_da8c8 2 none, Cond.methodLink RJ5 125 yJ1_inflate_0e8fd, Cond.static yJ1_inflate_0e8fd, Cond.code yJ1_inflate_0e8fd cJ1_inflate_0e8fd 5 none, Cond.methodLink RJ1 240 yJ2_inflate_0e8fd, Cond.static yJ2_inflate_0e8fd, Cond.code yJ2_inflate_0e8fd cJ2_inflate_0e8fd 6 none, Cond.methodLink RJ2 173 yJ2_checkBoundsOffCount_d044e, Cond.static yJ2_checkBoundsOffCount_d044e]
def wsL_row_r6 : List Cond := [Cond.code yJ2_checkBoundsOffCount_d044e cJ2_checkBoundsOffCount_d044e 3 none, Cond.methodLink RJ2 48 yJ2_length_9d52b, Cond.static yJ2_length_9d52b, Cond.code yJ2_length_9d52b cJ2_length_9d52b 1 (some .int), Cond.methodLink RJ2 419 yJ0_checkBoundsOffCount_cabcc, Cond.static yJ0_checkBoundsOffCount_cabcc, Cond.initialized RJ0, Cond.code yJ0_checkBoundsOffCount_cabcc cJ0_checkBoundsOffCount_cabcc 3 (some .int), Cond.fieldLink RJ0 1053 "jdk/internal/util/Preconditions" "SIOOBE_FORMATTER" "Ljava/util/function/BiFunction;", Cond.methodLink RJ0 1065 yJ3_checkFromIndexSize_8c36e, Cond.static yJ3_checkFromIndexSize_8c36e, Cond.initialized RJ3, Cond.code yJ3_checkFromIndexSize_8c36e cJ3_checkFromIndexSize_8c36e 4 (some .int), Cond.methodLink RJ2 111 yJ2_putChar_b72d1, Cond.static yJ2_putChar_b72d1, Cond.code yJ2_putChar_b72d1 cJ2_putChar_b72d1 3 none, Cond.fieldLink RJ2 44 "java/lang/StringUTF16" "$assertionsDisabled" "Z", Cond.fieldLink RJ2 59 "java/lang/StringUTF16" "HI_BYTE_SHIFT" "I", Cond.fieldLink RJ2 63 "java/lang/StringUTF16" "LO_BYTE_SHIFT" "I", Cond.methodLink RJ5 197 yJ2_putCharSB_b72d1, Cond.static yJ2_putCharSB_b72d1, Cond.code yJ2_putCharSB_b72d1 cJ2_putCharSB_b72d1 3 none, Cond.methodLink RJ2 67 yJ2_checkIndex_2214a, Cond.static yJ2_checkIndex_2214a]
def wsL_row_r7 : List Cond := [Cond.code yJ2_checkIndex_2214a cJ2_checkIndex_2214a 2 none, Cond.methodLink RJ2 414 yJ0_checkIndex_df160, Cond.static yJ0_checkIndex_df160, Cond.code yJ0_checkIndex_df160 cJ0_checkIndex_df160 2 none, Cond.methodLink RJ0 1059 yJ3_checkIndex_8e157, Cond.static yJ3_checkIndex_8e157, Cond.code yJ3_checkIndex_8e157 cJ3_checkIndex_8e157 3 (some .int), Cond.methodLink RX0 132 yJ4_append_15ec4, Cond.instanceMethod yJ4_append_15ec4, Cond.selects RJ4 yJ4_append_15ec4 yJ4_append_15ec4, Cond.code yJ4_append_15ec4 cJ4_append_15ec4 2 (some (.object "java/lang/StringBuilder")), Cond.methodLink RJ4 29 yJ5_append_cf1ce, Cond.sameMethod "java/lang/AbstractStringBuilder" "java/lang/AbstractStringBuilder" "append" "(Ljava/lang/String;)Ljava/lang/AbstractStringBuilder;", Cond.instanceMethod yJ5_append_cf1ce, Cond.code yJ5_append_cf1ce cJ5_append_cf1ce 3 (some (.object "java/lang/AbstractStringBuilder")), Cond.methodLink RJ5 204 ⟨"java/lang/AbstractStringBuilder", "appendNull", "()Ljava/lang/AbstractStringBuilder;"⟩, Cond.sameMethod "java/lang/AbstractStringBuilder" "java/lang/AbstractStringBuilder" "appendNull" "()Ljava/lang/AbstractStringBuilder;", Cond.selects RJ4 ⟨"java/lang/AbstractStringBuilder", "appendNull", "()Ljava/lang/AbstractStringBuilder;"⟩ yJ5_appendNull_278bc, Cond.instanceMethod yJ5_appendNull_278bc, Cond.code yJ5_appendNull_278bc cJ5_appendNull_278bc 3 (some (.object "java/lang/AbstractStringBuilder")), Cond.methodLink RJ5 226 yJ2_putCharsAt_cd4e5, Cond.static yJ2_putCharsAt_cd4e5, Cond.code yJ2_putCharsAt_cd4e5 cJ2_putCharsAt_cd4e5 7 (some .int), Cond.methodLink RJ2 96 yJ2_checkBoundsBeginEnd_d044e]
def wsL_row_r8 : List Cond := [Cond.static yJ2_checkBoundsBeginEnd_d044e, Cond.code yJ2_checkBoundsBeginEnd_d044e cJ2_checkBoundsBeginEnd_d044e 3 none, Cond.methodLink RJ2 241 yJ0_checkBoundsBeginEnd_23922, Cond.static yJ0_checkBoundsBeginEnd_23922, Cond.code yJ0_checkBoundsBeginEnd_23922 cJ0_checkBoundsBeginEnd_23922 3 none, Cond.methodLink RJ0 1062 yJ3_checkFromToIndex_8c36e, Cond.static yJ3_checkFromToIndex_8c36e, Cond.code yJ3_checkFromToIndex_8c36e cJ3_checkFromToIndex_8c36e 4 (some .int), Cond.methodLink RJ5 32 yJ0_length_8abf5, Cond.instanceMethod yJ0_length_8abf5, Cond.selects RJ0 yJ0_length_8abf5 yJ0_length_8abf5, Cond.code yJ0_length_8abf5 cJ0_length_8abf5 1 (some .int), Cond.fieldLink RJ0 9 "java/lang/String" "value" "[B", Cond.methodLink RJ0 335 yJ0_coder_7d493, Cond.instanceMethod yJ0_coder_7d493, Cond.selects RJ0 yJ0_coder_7d493 yJ0_coder_7d493, Cond.code yJ0_coder_7d493 cJ0_coder_7d493 1 (some .byte), Cond.fieldLink RJ0 38 "java/lang/String" "COMPACT_STRINGS" "Z", Cond.fieldLink RJ0 15 "java/lang/String" "coder" "B", Cond.methodLink RJ5 208 ⟨"java/lang/AbstractStringBuilder", "putStringAt", "(ILjava/lang/String;)V"⟩, Cond.sameMethod "java/lang/AbstractStringBuilder" "java/lang/AbstractStringBuilder" "putStringAt" "(ILjava/lang/String;)V", Cond.selects RJ4 ⟨"java/lang/AbstractStringBuilder", "putStringAt", "(ILjava/lang/String;)V"⟩ yJ5_putStringAt_47b60, Cond.instanceMethod yJ5_putStringAt_47b60, Cond.code yJ5_putStringAt_47b60 cJ5_putStringAt_47b60 3 none]
def wsL_row_r9 : List Cond := [Cond.methodLink RJ5 397 ⟨"java/lang/AbstractStringBuilder", "inflateIfNeededFor", "(Ljava/lang/String;)V"⟩, Cond.sameMethod "java/lang/AbstractStringBuilder" "java/lang/AbstractStringBuilder" "inflateIfNeededFor" "(Ljava/lang/String;)V", Cond.selects RJ4 ⟨"java/lang/AbstractStringBuilder", "inflateIfNeededFor", "(Ljava/lang/String;)V"⟩ yJ5_inflateIfNeededFor_a7421, Cond.instanceMethod yJ5_inflateIfNeededFor_a7421, Cond.code yJ5_inflateIfNeededFor_a7421 cJ5_inflateIfNeededFor_a7421 2 none, Cond.methodLink RJ5 40 yJ0_coder_7d493, Cond.methodLink RJ5 399 yJ0_getBytes_840e7, Cond.instanceMethod yJ0_getBytes_840e7, Cond.selects RJ0 yJ0_getBytes_840e7 yJ0_getBytes_840e7, Cond.code yJ0_getBytes_840e7 cJ0_getBytes_840e7 4 none, Cond.methodLink RJ0 212 arraycopyName, Cond.methodLink RJ0 106 yJ1_inflate_0e8fd, Cond.methodLink RX0 51 yX0_keyAt, Cond.instanceMethod yX0_keyAt, Cond.selects RX0 yX0_keyAt yX0_keyAt, Cond.code yX0_keyAt cX0_keyAt 2 (some .int), Cond.fieldLink RX0 15 "Rangeledger$Book" "keys" "[I", Cond.methodLink RX0 41 yX0_isPlace, Cond.instanceMethod yX0_isPlace, Cond.selects RX0 yX0_isPlace yX0_isPlace, Cond.code yX0_isPlace cX0_isPlace 2 (some .boolean), Cond.methodLink RX0 135 yJ4_append_bf812, Cond.instanceMethod yJ4_append_bf812, Cond.selects RJ4 yJ4_append_bf812 yJ4_append_bf812]
def wsL_row_r10 : List Cond := [Cond.code yJ4_append_bf812 cJ4_append_bf812 2 (some (.object "java/lang/StringBuilder")), Cond.methodLink RJ4 53 yJ5_append_c97b9, Cond.sameMethod "java/lang/AbstractStringBuilder" "java/lang/AbstractStringBuilder" "append" "(I)Ljava/lang/AbstractStringBuilder;", Cond.instanceMethod yJ5_append_c97b9, Cond.code yJ5_append_c97b9 cJ5_append_c97b9 4 (some (.object "java/lang/AbstractStringBuilder")), Cond.methodLink RJ5 245 yJ6_stringSize_0f7a4, Cond.static yJ6_stringSize_0f7a4, Cond.initialized RJ6, Cond.code yJ6_stringSize_0f7a4 cJ6_stringSize_0f7a4 4 (some .int), Cond.methodLink RJ5 248 yJ6_getChars_ba4f3, Cond.static yJ6_getChars_ba4f3, Cond.code yJ6_getChars_ba4f3 cJ6_getChars_ba4f3 7 (some .int), Cond.fieldLink RJ6 83 "java/lang/Integer" "DigitOnes" "[B", Cond.fieldLink RJ6 87 "java/lang/Integer" "DigitTens" "[B", Cond.methodLink RJ5 251 yJ2_getChars_46870, Cond.static yJ2_getChars_46870, Cond.code yJ2_getChars_46870 cJ2_getChars_46870 5 (some .int), Cond.methodLink RJ2 393 yJ2_getChars_ba4f3, Cond.static yJ2_getChars_ba4f3, Cond.code yJ2_getChars_ba4f3 cJ2_getChars_ba4f3 7 (some .int), Cond.fieldLink RJ2 403 "java/lang/Integer" "DigitOnes" "[B", Cond.fieldLink RJ2 407 "java/lang/Integer" "DigitTens" "[B", Cond.methodLink RX0 54 yX0_valueAt, Cond.instanceMethod yX0_valueAt]
def wsL_row_r11 : List Cond := [Cond.selects RX0 yX0_valueAt yX0_valueAt, Cond.code yX0_valueAt cX0_valueAt 2 (some .int), Cond.fieldLink RX0 19 "Rangeledger$Book" "values" "[I", Cond.methodLink RX0 138 yJ4_toString_0e30d, Cond.instanceMethod yJ4_toString_0e30d, Cond.selects RJ4 yJ4_toString_0e30d yJ4_toString_0e30d, Cond.code yJ4_toString_0e30d cJ4_toString_0e30d 1 (some (.object "java/lang/String")), Cond.classLink RJ4 18 RJ0, Cond.instantiable RJ0 4, Cond.methodLink RJ4 137 yJ0_init_81219, Cond.instanceMethod yJ0_init_81219, Cond.code yJ0_init_81219 cJ0_init_81219 2 none, Cond.methodLink RJ0 489 yJ0_init_db425, Cond.instanceMethod yJ0_init_db425, Cond.code yJ0_init_db425 cJ0_init_db425 5 none, Cond.methodLink RJ0 1 objectInit, Cond.fieldLink RJ0 1048 "java/lang/AbstractStringBuilder" "maybeLatin1" "Z", Cond.methodLink RJ0 552 ⟨"java/lang/AbstractStringBuilder", "getValue", "()[B"⟩, Cond.sameMethod "java/lang/AbstractStringBuilder" "java/lang/AbstractStringBuilder" "getValue" "()[B", Cond.selects RJ4 ⟨"java/lang/AbstractStringBuilder", "getValue", "()[B"⟩ yJ5_getValue_6d5f1, Cond.instanceMethod yJ5_getValue_6d5f1, Cond.code yJ5_getValue_6d5f1 cJ5_getValue_6d5f1 1 (some (.array .byte)), Cond.methodLink RJ0 549 ⟨"java/lang/AbstractStringBuilder", "length", "()I"⟩, Cond.sameMethod "java/lang/AbstractStringBuilder" "java/lang/AbstractStringBuilder" "length" "()I"]
def wsL_row_r12 : List Cond := [Cond.instanceMethod ⟨"java/lang/AbstractStringBuilder", "length", "()I"⟩, Cond.selects RJ4 ⟨"java/lang/AbstractStringBuilder", "length", "()I"⟩ yJ4_length_8abf5, Cond.instanceMethod yJ4_length_8abf5, Cond.code yJ4_length_8abf5 cJ4_length_8abf5 1 (some .int), Cond.methodLink RJ4 343 yJ5_length_8abf5, Cond.instanceMethod yJ5_length_8abf5, Cond.code yJ5_length_8abf5 cJ5_length_8abf5 1 (some .int), Cond.methodLink RJ0 1047 ⟨"java/lang/AbstractStringBuilder", "isLatin1", "()Z"⟩, Cond.methodLink RJ0 54 yJ7_copyOfRange_39247, Cond.static yJ7_copyOfRange_39247, Cond.code yJ7_copyOfRange_39247 cJ7_copyOfRange_39247 3 (some (.array .byte)), Cond.methodLink RJ7 339 yJ7_copyOfRangeByte_39247, Cond.static yJ7_copyOfRangeByte_39247, Cond.code yJ7_copyOfRangeByte_39247 cJ7_copyOfRangeByte_39247 5 (some (.array .byte)), Cond.methodLink RJ7 343 yJ7_checkLength_df160, Cond.static yJ7_checkLength_df160, Cond.code yJ7_checkLength_df160 cJ7_checkLength_df160 2 none, Cond.classLink RJ7 45 RJ4, Cond.methodLink RJ0 1051 yJ2_compress_39247, Cond.static yJ2_compress_39247, Cond.code yJ2_compress_39247 cJ2_compress_39247 6 (some (.array .byte)), Cond.methodLink RJ2 123 yJ2_compress_5af95, Cond.static yJ2_compress_5af95, Cond.code yJ2_compress_5af95 cJ2_compress_5af95 7 (some .int)]
def wsL_row_r13 : List Cond := [Cond.methodLink RJ2 71 yJ2_getChar_3b067, Cond.static yJ2_getChar_3b067, Cond.code yJ2_getChar_3b067 cJ2_getChar_3b067 2 (some .char), Cond.methodLink RJ2 126 yJ7_copyOfRange_39247, Cond.methodLink RJ0 47 yJ2_coderFromArrayLen_85cad, Cond.static yJ2_coderFromArrayLen_85cad, Cond.code yJ2_coderFromArrayLen_85cad cJ2_coderFromArrayLen_85cad 2 (some .byte)]
def wsL_row : List Cond := .codeWith yL_row cL_row 4 (some .int) [(0, 9, 12, 19)] :: ((wsL_row_r1 ++ (wsL_row_r2 ++ (wsL_row_r3 ++ (wsL_row_r4 ++ (wsL_row_r5 ++ (wsL_row_r6 ++ (wsL_row_r7 ++ (wsL_row_r8 ++ (wsL_row_r9 ++ (wsL_row_r10 ++ (wsL_row_r11 ++ (wsL_row_r12 ++ wsL_row_r13)))))))))))) ++ wsX40 ++ wsX30 ++ wsX00 ++ wsJ40 ++ wsJ00 ++ (vx_atS RX3 313 "java/lang/IndexOutOfBoundsException" ["java/lang/RuntimeException", "java/lang/Exception"]).filter goodWord)
def wsL_same_r1 : List Cond := [Cond.classLink RL 19 "java/lang/IndexOutOfBoundsException", Cond.methodLink RL 168 yX3_same, Cond.instanceMethod yX3_same, Cond.selects RX3 yX3_same yX3_same, Cond.initialized RX3, Cond.code yX3_same cX3_same 4 (some .boolean), Cond.methodLink RX3 47 yX3_bookAt, Cond.instanceMethod yX3_bookAt, Cond.selects RX3 yX3_bookAt yX3_bookAt, Cond.code yX3_bookAt cX3_bookAt 2 (some (.object "Rangeledger$Book")), Cond.classLink RX3 309 "java/lang/IndexOutOfBoundsException", Cond.initialized "java/lang/IndexOutOfBoundsException", Cond.fieldLink RX3 11 "Rangeledger" "books" "[LRangeledger$Book;", Cond.methodLink RX3 238 yX0_isLike, Cond.instanceMethod yX0_isLike, Cond.selects RX0 yX0_isLike yX0_isLike, Cond.initialized RX0, Cond.code yX0_isLike cX0_isLike 3 (some .boolean), Cond.fieldLink RX0 25 "Rangeledger$Book" "size" "I", Cond.fieldLink RX0 15 "Rangeledger$Book" "keys" "[I", Cond.fieldLink RX0 19 "Rangeledger$Book" "values" "[I", Cond.methodLink RX0 103 yX0_size, Cond.instanceMethod yX0_size, Cond.selects RX0 yX0_size yX0_size]
def wsL_same_r2 : List Cond := [Cond.code yX0_size cX0_size 1 (some .int), Cond.methodLink RX0 45 yX0_valueOf, Cond.instanceMethod yX0_valueOf, Cond.selects RX0 yX0_valueOf yX0_valueOf, Cond.code yX0_valueOf cX0_valueOf 3 (some .int), Cond.methodLink RX0 48 yX0_placeOf, Cond.instanceMethod yX0_placeOf, Cond.selects RX0 yX0_placeOf yX0_placeOf, Cond.code yX0_placeOf cX0_placeOf 2 (some .int), Cond.methodLink RX0 34 yX0_weight, Cond.instanceMethod yX0_weight, Cond.selects RX0 yX0_weight yX0_weight, Cond.code yX0_weight cX0_weight 4 (some .int), Cond.fieldLink RX0 22 "Rangeledger$Book" "order" "I", Cond.methodLink RX0 38 yX0_placeOfWeight, Cond.instanceMethod yX0_placeOfWeight, Cond.selects RX0 yX0_placeOfWeight yX0_placeOfWeight, Cond.code yX0_placeOfWeight cX0_placeOfWeight 6 (some .int), Cond.methodLink RX0 51 yX0_keyAt, Cond.instanceMethod yX0_keyAt, Cond.selects RX0 yX0_keyAt yX0_keyAt, Cond.code yX0_keyAt cX0_keyAt 2 (some .int), Cond.methodLink RX0 41 yX0_isPlace, Cond.instanceMethod yX0_isPlace]
def wsL_same_r3 : List Cond := [Cond.selects RX0 yX0_isPlace yX0_isPlace, Cond.code yX0_isPlace cX0_isPlace 2 (some .boolean), Cond.methodLink RX0 54 yX0_valueAt, Cond.instanceMethod yX0_valueAt, Cond.selects RX0 yX0_valueAt yX0_valueAt, Cond.code yX0_valueAt cX0_valueAt 2 (some .int)]
def wsL_same : List Cond := .codeWith yL_same cL_same 5 (some .int) [(0, 18, 21, 19)] :: ((wsL_same_r1 ++ (wsL_same_r2 ++ wsL_same_r3)) ++ wsX40 ++ wsX30 ++ wsX00 ++ (vx_atS RX3 313 "java/lang/IndexOutOfBoundsException" ["java/lang/RuntimeException", "java/lang/Exception"]).filter goodWord)
def wsL_viewGet_r1 : List Cond := [Cond.classLink RL 19 "java/lang/IndexOutOfBoundsException", Cond.classLink RL 21 "java/lang/IllegalArgumentException", Cond.methodLink RL 171 yX3_viewGet, Cond.instanceMethod yX3_viewGet, Cond.selects RX3 yX3_viewGet yX3_viewGet, Cond.initialized RX3, Cond.code yX3_viewGet cX3_viewGet 4 (some .int), Cond.methodLink RX3 158 yX3_viewAt, Cond.instanceMethod yX3_viewAt, Cond.selects RX3 yX3_viewAt yX3_viewAt, Cond.code yX3_viewAt cX3_viewAt 2 (some (.object "Rangeledger$View")), Cond.classLink RX3 309 "java/lang/IndexOutOfBoundsException", Cond.initialized "java/lang/IndexOutOfBoundsException", Cond.fieldLink RX3 20 "Rangeledger" "views" "[LRangeledger$View;", Cond.methodLink RX3 51 yX3_checkKey, Cond.static yX3_checkKey, Cond.code yX3_checkKey cX3_checkKey 1 none, Cond.classLink RX3 86 "java/lang/IllegalArgumentException", Cond.initialized "java/lang/IllegalArgumentException", Cond.methodLink RX3 162 yX1_isWithin, Cond.instanceMethod yX1_isWithin, Cond.selects RX1 yX1_isWithin yX1_isWithin, Cond.initialized RX1, Cond.code yX1_isWithin cX1_isWithin 3 (some .boolean)]
def wsL_viewGet_r2 : List Cond := [Cond.fieldLink RX1 9 "Rangeledger$View" "book" "LRangeledger$Book;", Cond.fieldLink RX1 35 "Rangeledger$View" "startWeight" "I", Cond.fieldLink RX1 44 "Rangeledger$View" "endWeight" "I", Cond.methodLink RX1 29 yX0_weight, Cond.instanceMethod yX0_weight, Cond.selects RX0 yX0_weight yX0_weight, Cond.initialized RX0, Cond.code yX0_weight cX0_weight 4 (some .int), Cond.fieldLink RX0 22 "Rangeledger$Book" "order" "I", Cond.methodLink RX3 165 yX1_book, Cond.instanceMethod yX1_book, Cond.selects RX1 yX1_book yX1_book, Cond.code yX1_book cX1_book 1 (some (.object "Rangeledger$Book")), Cond.methodLink RX3 43 yX0_valueOf, Cond.instanceMethod yX0_valueOf, Cond.selects RX0 yX0_valueOf yX0_valueOf, Cond.code yX0_valueOf cX0_valueOf 3 (some .int), Cond.methodLink RX0 48 yX0_placeOf, Cond.instanceMethod yX0_placeOf, Cond.selects RX0 yX0_placeOf yX0_placeOf, Cond.code yX0_placeOf cX0_placeOf 2 (some .int), Cond.methodLink RX0 34 yX0_weight, Cond.methodLink RX0 38 yX0_placeOfWeight, Cond.instanceMethod yX0_placeOfWeight]
def wsL_viewGet_r3 : List Cond := [Cond.selects RX0 yX0_placeOfWeight yX0_placeOfWeight, Cond.code yX0_placeOfWeight cX0_placeOfWeight 6 (some .int), Cond.fieldLink RX0 25 "Rangeledger$Book" "size" "I", Cond.fieldLink RX0 15 "Rangeledger$Book" "keys" "[I", Cond.methodLink RX0 51 yX0_keyAt, Cond.instanceMethod yX0_keyAt, Cond.selects RX0 yX0_keyAt yX0_keyAt, Cond.code yX0_keyAt cX0_keyAt 2 (some .int), Cond.methodLink RX0 41 yX0_isPlace, Cond.instanceMethod yX0_isPlace, Cond.selects RX0 yX0_isPlace yX0_isPlace, Cond.code yX0_isPlace cX0_isPlace 2 (some .boolean), Cond.methodLink RX0 54 yX0_valueAt, Cond.instanceMethod yX0_valueAt, Cond.selects RX0 yX0_valueAt yX0_valueAt, Cond.code yX0_valueAt cX0_valueAt 2 (some .int), Cond.fieldLink RX0 19 "Rangeledger$Book" "values" "[I"]
def wsL_viewGet : List Cond := .codeWith yL_viewGet cL_viewGet 5 (some .int) [(0, 11, 14, 19), (0, 11, 18, 21)] :: ((wsL_viewGet_r1 ++ (wsL_viewGet_r2 ++ wsL_viewGet_r3)) ++ wsX40 ++ wsX30 ++ wsX10 ++ wsX00 ++ (vx_atS RX3 313 "java/lang/IndexOutOfBoundsException" ["java/lang/RuntimeException", "java/lang/Exception"]).filter goodWord ++ (vx_atS RX3 90 "java/lang/IllegalArgumentException" ["java/lang/RuntimeException", "java/lang/Exception"]).filter goodWord)
def wsL_ofView_r1 : List Cond := [Cond.classLink RL 19 "java/lang/IndexOutOfBoundsException", Cond.classLink RL 21 "java/lang/IllegalArgumentException", Cond.methodLink RL 174 yX3_ofView, Cond.instanceMethod yX3_ofView, Cond.selects RX3 yX3_ofView yX3_ofView, Cond.initialized RX3, Cond.code yX3_ofView cX3_ofView 4 (some .int), Cond.methodLink RX3 158 yX3_viewAt, Cond.instanceMethod yX3_viewAt, Cond.selects RX3 yX3_viewAt yX3_viewAt, Cond.code yX3_viewAt cX3_viewAt 2 (some (.object "Rangeledger$View")), Cond.classLink RX3 309 "java/lang/IndexOutOfBoundsException", Cond.initialized "java/lang/IndexOutOfBoundsException", Cond.fieldLink RX3 20 "Rangeledger" "views" "[LRangeledger$View;", Cond.methodLink RX3 210 yX3_checkWhat, Cond.static yX3_checkWhat, Cond.code yX3_checkWhat cX3_checkWhat 2 none, Cond.classLink RX3 86 "java/lang/IllegalArgumentException", Cond.initialized "java/lang/IllegalArgumentException", Cond.methodLink RX3 166 yX1_size, Cond.instanceMethod yX1_size, Cond.selects RX1 yX1_size yX1_size, Cond.initialized RX1, Cond.code yX1_size cX1_size 1 (some .int)]
def wsL_ofView_r2 : List Cond := [Cond.methodLink RX1 50 yX1_end, Cond.instanceMethod yX1_end, Cond.selects RX1 yX1_end yX1_end, Cond.code yX1_end cX1_end 1 (some .int), Cond.fieldLink RX1 9 "Rangeledger$View" "book" "LRangeledger$Book;", Cond.fieldLink RX1 44 "Rangeledger$View" "endWeight" "I", Cond.methodLink RX1 47 yX0_placeOfWeight, Cond.instanceMethod yX0_placeOfWeight, Cond.selects RX0 yX0_placeOfWeight yX0_placeOfWeight, Cond.initialized RX0, Cond.code yX0_placeOfWeight cX0_placeOfWeight 6 (some .int), Cond.fieldLink RX0 25 "Rangeledger$Book" "size" "I", Cond.fieldLink RX0 15 "Rangeledger$Book" "keys" "[I", Cond.methodLink RX0 34 yX0_weight, Cond.instanceMethod yX0_weight, Cond.selects RX0 yX0_weight yX0_weight, Cond.code yX0_weight cX0_weight 4 (some .int), Cond.fieldLink RX0 22 "Rangeledger$Book" "order" "I", Cond.methodLink RX1 54 yX1_start, Cond.instanceMethod yX1_start, Cond.selects RX1 yX1_start yX1_start, Cond.code yX1_start cX1_start 1 (some .int), Cond.fieldLink RX1 35 "Rangeledger$View" "startWeight" "I", Cond.methodLink RX3 165 yX1_book]
def wsL_ofView_r3 : List Cond := [Cond.instanceMethod yX1_book, Cond.selects RX1 yX1_book yX1_book, Cond.code yX1_book cX1_book 1 (some (.object "Rangeledger$Book")), Cond.methodLink RX3 242 yX0_number, Cond.instanceMethod yX0_number, Cond.selects RX0 yX0_number yX0_number, Cond.code yX0_number cX0_number 1 (some .int), Cond.fieldLink RX0 9 "Rangeledger$Book" "number" "I", Cond.methodLink RX3 245 yX1_lowerBound, Cond.instanceMethod yX1_lowerBound, Cond.selects RX1 yX1_lowerBound yX1_lowerBound, Cond.code yX1_lowerBound cX1_lowerBound 1 (some .int), Cond.fieldLink RX1 15 "Rangeledger$View" "lower" "I", Cond.methodLink RX3 248 yX1_upperBound, Cond.instanceMethod yX1_upperBound, Cond.selects RX1 yX1_upperBound yX1_upperBound, Cond.code yX1_upperBound cX1_upperBound 1 (some .int), Cond.fieldLink RX1 23 "Rangeledger$View" "upper" "I", Cond.methodLink RX3 251 yX1_isLowerIn, Cond.instanceMethod yX1_isLowerIn, Cond.selects RX1 yX1_isLowerIn yX1_isLowerIn, Cond.code yX1_isLowerIn cX1_isLowerIn 1 (some .boolean), Cond.fieldLink RX1 19 "Rangeledger$View" "isLowerIn" "Z", Cond.methodLink RX3 254 yX1_isUpperIn]
def wsL_ofView_r4 : List Cond := [Cond.instanceMethod yX1_isUpperIn, Cond.selects RX1 yX1_isUpperIn yX1_isUpperIn, Cond.code yX1_isUpperIn cX1_isUpperIn 1 (some .boolean), Cond.fieldLink RX1 26 "Rangeledger$View" "isUpperIn" "Z", Cond.methodLink RX3 174 yX1_start, Cond.methodLink RX3 201 yX0_keyAt, Cond.instanceMethod yX0_keyAt, Cond.selects RX0 yX0_keyAt yX0_keyAt, Cond.code yX0_keyAt cX0_keyAt 2 (some .int), Cond.methodLink RX0 41 yX0_isPlace, Cond.instanceMethod yX0_isPlace, Cond.selects RX0 yX0_isPlace yX0_isPlace, Cond.code yX0_isPlace cX0_isPlace 2 (some .boolean), Cond.methodLink RX3 171 yX1_end, Cond.methodLink RX3 216 yX0_sum, Cond.instanceMethod yX0_sum, Cond.selects RX0 yX0_sum yX0_sum, Cond.code yX0_sum cX0_sum 5 (some .int), Cond.fieldLink RX0 19 "Rangeledger$Book" "values" "[I"]
def wsL_ofView : List Cond := .codeWith yL_ofView cL_ofView 5 (some .int) [(0, 11, 14, 19), (0, 11, 18, 21)] :: ((wsL_ofView_r1 ++ (wsL_ofView_r2 ++ (wsL_ofView_r3 ++ wsL_ofView_r4))) ++ wsX40 ++ wsX30 ++ wsX10 ++ wsX00 ++ (vx_atS RX3 313 "java/lang/IndexOutOfBoundsException" ["java/lang/RuntimeException", "java/lang/Exception"]).filter goodWord ++ (vx_atS RX3 90 "java/lang/IllegalArgumentException" ["java/lang/RuntimeException", "java/lang/Exception"]).filter goodWord)
def wsL_viewNear_r1 : List Cond := [Cond.classLink RL 19 "java/lang/IndexOutOfBoundsException", Cond.classLink RL 21 "java/lang/IllegalArgumentException", Cond.methodLink RL 177 yX3_viewNear, Cond.instanceMethod yX3_viewNear, Cond.selects RX3 yX3_viewNear yX3_viewNear, Cond.initialized RX3, Cond.code yX3_viewNear cX3_viewNear 5 (some .int), Cond.methodLink RX3 158 yX3_viewAt, Cond.instanceMethod yX3_viewAt, Cond.selects RX3 yX3_viewAt yX3_viewAt, Cond.code yX3_viewAt cX3_viewAt 2 (some (.object "Rangeledger$View")), Cond.classLink RX3 309 "java/lang/IndexOutOfBoundsException", Cond.initialized "java/lang/IndexOutOfBoundsException", Cond.fieldLink RX3 20 "Rangeledger" "views" "[LRangeledger$View;", Cond.methodLink RX3 51 yX3_checkKey, Cond.static yX3_checkKey, Cond.code yX3_checkKey cX3_checkKey 1 none, Cond.classLink RX3 86 "java/lang/IllegalArgumentException", Cond.initialized "java/lang/IllegalArgumentException", Cond.methodLink RX3 210 yX3_checkWhat, Cond.static yX3_checkWhat, Cond.code yX3_checkWhat cX3_checkWhat 2 none, Cond.methodLink RX3 165 yX1_book, Cond.instanceMethod yX1_book]
def wsL_viewNear_r2 : List Cond := [Cond.selects RX1 yX1_book yX1_book, Cond.initialized RX1, Cond.code yX1_book cX1_book 1 (some (.object "Rangeledger$Book")), Cond.fieldLink RX1 9 "Rangeledger$View" "book" "LRangeledger$Book;", Cond.methodLink RX3 174 yX1_start, Cond.instanceMethod yX1_start, Cond.selects RX1 yX1_start yX1_start, Cond.code yX1_start cX1_start 1 (some .int), Cond.fieldLink RX1 35 "Rangeledger$View" "startWeight" "I", Cond.methodLink RX1 47 yX0_placeOfWeight, Cond.instanceMethod yX0_placeOfWeight, Cond.selects RX0 yX0_placeOfWeight yX0_placeOfWeight, Cond.initialized RX0, Cond.code yX0_placeOfWeight cX0_placeOfWeight 6 (some .int), Cond.fieldLink RX0 25 "Rangeledger$Book" "size" "I", Cond.fieldLink RX0 15 "Rangeledger$Book" "keys" "[I", Cond.methodLink RX0 34 yX0_weight, Cond.instanceMethod yX0_weight, Cond.selects RX0 yX0_weight yX0_weight, Cond.code yX0_weight cX0_weight 4 (some .int), Cond.fieldLink RX0 22 "Rangeledger$Book" "order" "I", Cond.methodLink RX3 171 yX1_end, Cond.instanceMethod yX1_end, Cond.selects RX1 yX1_end yX1_end]
def wsL_viewNear_r3 : List Cond := [Cond.code yX1_end cX1_end 1 (some .int), Cond.fieldLink RX1 44 "Rangeledger$View" "endWeight" "I", Cond.methodLink RX3 225 yX0_closest, Cond.instanceMethod yX0_closest, Cond.selects RX0 yX0_closest yX0_closest, Cond.code yX0_closest cX0_closest 8 (some .int), Cond.methodLink RX0 60 Lib.Math.min.name, Cond.static Lib.Math.min.name, Cond.initialized "java/lang/Math", Cond.code Lib.Math.min.name Lib.Math.min.code 2 (some .int), Cond.methodLink RX0 69 Lib.Math.max.name, Cond.static Lib.Math.max.name, Cond.code Lib.Math.max.name Lib.Math.max.code 2 (some .int), Cond.methodLink RX0 48 yX0_placeOf, Cond.instanceMethod yX0_placeOf, Cond.selects RX0 yX0_placeOf yX0_placeOf, Cond.code yX0_placeOf cX0_placeOf 2 (some .int), Cond.methodLink RX0 38 yX0_placeOfWeight, Cond.methodLink RX0 51 yX0_keyAt, Cond.instanceMethod yX0_keyAt, Cond.selects RX0 yX0_keyAt yX0_keyAt, Cond.code yX0_keyAt cX0_keyAt 2 (some .int), Cond.methodLink RX0 41 yX0_isPlace, Cond.instanceMethod yX0_isPlace]
def wsL_viewNear_r4 : List Cond := [Cond.selects RX0 yX0_isPlace yX0_isPlace, Cond.code yX0_isPlace cX0_isPlace 2 (some .boolean), Cond.methodLink RX0 66 yX0_placeBehind, Cond.instanceMethod yX0_placeBehind, Cond.selects RX0 yX0_placeBehind yX0_placeBehind, Cond.code yX0_placeBehind cX0_placeBehind 2 (some .int)]
def wsL_viewNear : List Cond := .codeWith yL_viewNear cL_viewNear 6 (some .int) [(0, 13, 16, 19), (0, 13, 20, 21)] :: ((wsL_viewNear_r1 ++ (wsL_viewNear_r2 ++ (wsL_viewNear_r3 ++ wsL_viewNear_r4))) ++ wsX40 ++ wsX30 ++ wsX10 ++ wsX00 ++ (vx_atS RX3 313 "java/lang/IndexOutOfBoundsException" ["java/lang/RuntimeException", "java/lang/Exception"]).filter goodWord ++ (vx_atS RX3 90 "java/lang/IllegalArgumentException" ["java/lang/RuntimeException", "java/lang/Exception"]).filter goodWord)
def wsL_viewRow_r1 : List Cond := [Cond.classLink RL 19 "java/lang/IndexOutOfBoundsException", Cond.methodLink RL 180 yX3_viewRow, Cond.instanceMethod yX3_viewRow, Cond.selects RX3 yX3_viewRow yX3_viewRow, Cond.initialized RX3, Cond.code yX3_viewRow cX3_viewRow 3 (some (.object "java/lang/String")), Cond.methodLink RX3 158 yX3_viewAt, Cond.instanceMethod yX3_viewAt, Cond.selects RX3 yX3_viewAt yX3_viewAt, Cond.code yX3_viewAt cX3_viewAt 2 (some (.object "Rangeledger$View")), Cond.classLink RX3 309 "java/lang/IndexOutOfBoundsException", Cond.initialized "java/lang/IndexOutOfBoundsException", Cond.fieldLink RX3 20 "Rangeledger" "views" "[LRangeledger$View;", Cond.methodLink RX3 165 yX1_book, Cond.instanceMethod yX1_book, Cond.selects RX1 yX1_book yX1_book, Cond.initialized RX1, Cond.code yX1_book cX1_book 1 (some (.object "Rangeledger$Book")), Cond.fieldLink RX1 9 "Rangeledger$View" "book" "LRangeledger$Book;", Cond.methodLink RX3 174 yX1_start, Cond.instanceMethod yX1_start, Cond.selects RX1 yX1_start yX1_start, Cond.code yX1_start cX1_start 1 (some .int), Cond.fieldLink RX1 35 "Rangeledger$View" "startWeight" "I"]
def wsL_viewRow_r2 : List Cond := [Cond.methodLink RX1 47 yX0_placeOfWeight, Cond.instanceMethod yX0_placeOfWeight, Cond.selects RX0 yX0_placeOfWeight yX0_placeOfWeight, Cond.initialized RX0, Cond.code yX0_placeOfWeight cX0_placeOfWeight 6 (some .int), Cond.fieldLink RX0 25 "Rangeledger$Book" "size" "I", Cond.fieldLink RX0 15 "Rangeledger$Book" "keys" "[I", Cond.methodLink RX0 34 yX0_weight, Cond.instanceMethod yX0_weight, Cond.selects RX0 yX0_weight yX0_weight, Cond.code yX0_weight cX0_weight 4 (some .int), Cond.fieldLink RX0 22 "Rangeledger$Book" "order" "I", Cond.methodLink RX3 171 yX1_end, Cond.instanceMethod yX1_end, Cond.selects RX1 yX1_end yX1_end, Cond.code yX1_end cX1_end 1 (some .int), Cond.fieldLink RX1 44 "Rangeledger$View" "endWeight" "I", Cond.methodLink RX3 234 yX0_text, Cond.instanceMethod yX0_text, Cond.selects RX0 yX0_text yX0_text, Cond.code yX0_text cX0_text 5 (some (.object "java/lang/String")), Cond.classLink RX0 123 RJ4, Cond.instantiable RJ4 4, Cond.initialized RJ4]
def wsL_viewRow_r3 : List Cond := [Cond.methodLink RX0 125 yJ4_init_da8c8, Cond.instanceMethod yJ4_init_da8c8, Cond.code yJ4_init_da8c8 cJ4_init_da8c8 1 none, Cond.methodLink RJ4 1 yJ5_init_d00df, Cond.instanceMethod yJ5_init_d00df, Cond.initialized RJ5, Cond.code yJ5_init_d00df cJ5_init_d00df 2 none, Cond.methodLink RJ5 3 objectInit, Cond.instanceMethod objectInit, Cond.code objectInit ⟨#[0xb1]⟩ 1 none, Cond.fieldLink RJ5 18 "java/lang/String" "COMPACT_STRINGS" "Z", Cond.arrayClass .byte, Cond.fieldLink RJ5 15 "java/lang/AbstractStringBuilder" "value" "[B", Cond.fieldLink RJ5 22 "java/lang/AbstractStringBuilder" "coder" "B", Cond.methodLink RJ5 26 yJ2_newBytesFor_77867, Cond.static yJ2_newBytesFor_77867, Cond.initialized RJ2, Cond.code yJ2_newBytesFor_77867 cJ2_newBytesFor_77867 1 (some (.array .byte)), Cond.methodLink RJ2 11 yJ2_newBytesLength_0f7a4, Cond.static yJ2_newBytesLength_0f7a4, Cond.code yJ2_newBytesLength_0f7a4 cJ2_newBytesLength_0f7a4 1 (some .int), Cond.constant RJ2 20 (1073741823), Cond.methodLink RX0 126 yJ4_append_cf468, Cond.instanceMethod yJ4_append_cf468]
def wsL_viewRow_r4 : List Cond := [Cond.selects RJ4 yJ4_append_cf468 yJ4_append_cf468, Cond.code yJ4_append_cf468 cJ4_append_cf468 2 (some (.object "java/lang/StringBuilder")), Cond.methodLink RJ4 50 yJ5_append_3fe6f, Cond.sameMethod "java/lang/AbstractStringBuilder" "java/lang/AbstractStringBuilder" "append" "(C)Ljava/lang/AbstractStringBuilder;", Cond.superclass RJ4 RJ5, Cond.instanceMethod yJ5_append_3fe6f, Cond.code yJ5_append_3fe6f cJ5_append_3fe6f 2 (some (.object "java/lang/AbstractStringBuilder")), Cond.fieldLink RJ5 79 "java/lang/AbstractStringBuilder" "count" "I", Cond.methodLink RJ5 100 ⟨"java/lang/AbstractStringBuilder", "ensureCapacityInternal", "(I)V"⟩, Cond.sameMethod "java/lang/AbstractStringBuilder" "java/lang/AbstractStringBuilder" "ensureCapacityInternal" "(I)V", Cond.selects RJ4 ⟨"java/lang/AbstractStringBuilder", "ensureCapacityInternal", "(I)V"⟩ yJ5_ensureCapacityInternal_d00df, Cond.instanceMethod yJ5_ensureCapacityInternal_d00df, Cond.code yJ5_ensureCapacityInternal_d00df cJ5_ensureCapacityInternal_d00df 3 none, Cond.methodLink RJ5 104 ⟨"java/lang/AbstractStringBuilder", "newCapacity", "(I)I"⟩, Cond.sameMethod "java/lang/AbstractStringBuilder" "java/lang/AbstractStringBuilder" "newCapacity" "(I)I", Cond.selects RJ4 ⟨"java/lang/AbstractStringBuilder", "newCapacity", "(I)I"⟩ yJ5_newCapacity_0f7a4, Cond.instanceMethod yJ5_newCapacity_0f7a4, Cond.code yJ5_newCapacity_0f7a4 cJ5_newCapacity_0f7a4 6 (some .int), Cond.constant RJ5 39 (2147483647), Cond.methodLink RJ5 114 yJ8_newLength_cabcc, Cond.static yJ8_newLength_cabcc, Cond.initialized RJ8, Cond.code yJ8_newLength_cabcc cJ8_newLength_cabcc 4 (some .int), Cond.methodLink RJ8 194 Lib.Math.max.name]
def wsL_viewRow_r5 : List Cond := [Cond.static Lib.Math.max.name, Cond.initialized "java/lang/Math", Cond.code Lib.Math.max.name Lib.Math.max.code 2 (some .int), Cond.constant RJ8 200 (2147483639), Cond.methodLink RJ8 201 yJ8_hugeLength_7cf53, Cond.static yJ8_hugeLength_7cf53, Cond.code yJ8_hugeLength_7cf53 cJ8_hugeLength_7cf53 3 (some .int), Cond.methodLink RJ5 108 yJ7_copyOf_9075b, Cond.static yJ7_copyOf_9075b, Cond.initialized RJ7, Cond.code yJ7_copyOf_9075b cJ7_copyOf_9075b 3 (some (.array .byte)), Cond.methodLink RJ7 310 ⟨"[B", "clone", "()Ljava/lang/Object;"⟩, Cond.sameMethod "[B" "java/lang/Object" "clone" "()Ljava/lang/Object;", Cond.native ⟨"java/lang/Object", "clone", "()Ljava/lang/Object;"⟩, Cond.instanceMethod ⟨"java/lang/Object", "clone", "()Ljava/lang/Object;"⟩, Cond.selects "[B" ⟨"[B", "clone", "()Ljava/lang/Object;"⟩ ⟨"java/lang/Object", "clone", "()Ljava/lang/Object;"⟩, Cond.classLink RJ7 311 "[B", Cond.methodLink RJ7 304 Lib.Math.min.name, Cond.static Lib.Math.min.name, Cond.code Lib.Math.min.name Lib.Math.min.code 2 (some .int), Cond.methodLink RJ7 150 arraycopyName, Cond.native arraycopyName, Cond.static arraycopyName, Cond.initialized "java/lang/System"]
def wsL_viewRow_r6 : List Cond := [Cond.methodLink RJ5 83 ⟨"java/lang/AbstractStringBuilder", "isLatin1", "()Z"⟩, Cond.sameMethod "java/lang/AbstractStringBuilder" "java/lang/AbstractStringBuilder" "isLatin1" "()Z", Cond.selects RJ4 ⟨"java/lang/AbstractStringBuilder", "isLatin1", "()Z"⟩ yJ5_isLatin1_aae02, Cond.instanceMethod yJ5_isLatin1_aae02, Cond.code yJ5_isLatin1_aae02 cJ5_isLatin1_aae02 1 (some .boolean), Cond.methodLink RJ5 191 yJ1_canEncode_fc78d, Cond.static yJ1_canEncode_fc78d, Cond.initialized RJ1, Cond.code yJ1_canEncode_fc78d cJ1_canEncode_fc78d 1 (some .boolean), Cond.methodLink RJ5 195 ⟨"java/lang/AbstractStringBuilder", "inflate", "()V"⟩, Cond.sameMethod "java/lang/AbstractStringBuilder" "java/lang/AbstractStringBuilder" "inflate" "()V", Cond.selects RJ4 ⟨"java/lang/AbstractStringBuilder", "inflate", "()V"⟩ yJ5_inflate_da8c8, Cond.instanceMethod yJ5_inflate_da8c8, Cond.code yJ5_inflate_da8c8 cJ5_inflate_da8c8 2 none, Cond.methodLink RJ5 125 yJ1_inflate_0e8fd, Cond.static yJ1_inflate_0e8fd, Cond.code yJ1_inflate_0e8fd cJ1_inflate_0e8fd 5 none, Cond.methodLink RJ1 240 yJ2_inflate_0e8fd, Cond.static yJ2_inflate_0e8fd, Cond.code yJ2_inflate_0e8fd cJ2_inflate_0e8fd 6 none, Cond.methodLink RJ2 173 yJ2_checkBoundsOffCount_d044e, Cond.static yJ2_checkBoundsOffCount_d044e, Cond.code yJ2_checkBoundsOffCount_d044e cJ2_checkBoundsOffCount_d044e 3 none, Cond.methodLink RJ2 48 yJ2_length_9d52b]
def wsL_viewRow_r7 : List Cond := [Cond.static yJ2_length_9d52b, Cond.code yJ2_length_9d52b cJ2_length_9d52b 1 (some .int), Cond.methodLink RJ2 419 yJ0_checkBoundsOffCount_cabcc, Cond.static yJ0_checkBoundsOffCount_cabcc, Cond.initialized RJ0, Cond.code yJ0_checkBoundsOffCount_cabcc cJ0_checkBoundsOffCount_cabcc 3 (some .int), Cond.fieldLink RJ0 1053 "jdk/internal/util/Preconditions" "SIOOBE_FORMATTER" "Ljava/util/function/BiFunction;", Cond.methodLink RJ0 1065 yJ3_checkFromIndexSize_8c36e, Cond.static yJ3_checkFromIndexSize_8c36e, Cond.initialized RJ3, Cond.code yJ3_checkFromIndexSize_8c36e cJ3_checkFromIndexSize_8c36e 4 (some .int), Cond.methodLink RJ2 111 yJ2_putChar_b72d1, Cond.static yJ2_putChar_b72d1, Cond.code yJ2_putChar_b72d1 cJ2_putChar_b72d1 3 none, Cond.fieldLink RJ2 44 "java/lang/StringUTF16" "$assertionsDisabled" "Z", Cond.fieldLink RJ2 59 "java/lang/StringUTF16" "HI_BYTE_SHIFT" "I", Cond.fieldLink RJ2 63 "java/lang/StringUTF16" "LO_BYTE_SHIFT" "I", Cond.methodLink RJ5 197 yJ2_putCharSB_b72d1, Cond.static yJ2_putCharSB_b72d1, Cond.code yJ2_putCharSB_b72d1 cJ2_putCharSB_b72d1 3 none, Cond.methodLink RJ2 67 yJ2_checkIndex_2214a, Cond.static yJ2_checkIndex_2214a, Cond.code yJ2_checkIndex_2214a cJ2_checkIndex_2214a 2 none, Cond.methodLink RJ2 414 yJ0_checkIndex_df160]
def wsL_viewRow_r8 : List Cond := [Cond.static yJ0_checkIndex_df160, Cond.code yJ0_checkIndex_df160 cJ0_checkIndex_df160 2 none, Cond.methodLink RJ0 1059 yJ3_checkIndex_8e157, Cond.static yJ3_checkIndex_8e157, Cond.code yJ3_checkIndex_8e157 cJ3_checkIndex_8e157 3 (some .int), Cond.methodLink RX0 132 yJ4_append_15ec4, Cond.instanceMethod yJ4_append_15ec4, Cond.selects RJ4 yJ4_append_15ec4 yJ4_append_15ec4, Cond.code yJ4_append_15ec4 cJ4_append_15ec4 2 (some (.object "java/lang/StringBuilder")), Cond.methodLink RJ4 29 yJ5_append_cf1ce, Cond.sameMethod "java/lang/AbstractStringBuilder" "java/lang/AbstractStringBuilder" "append" "(Ljava/lang/String;)Ljava/lang/AbstractStringBuilder;", Cond.instanceMethod yJ5_append_cf1ce, Cond.code yJ5_append_cf1ce cJ5_append_cf1ce 3 (some (.object "java/lang/AbstractStringBuilder")), Cond.methodLink RJ5 204 ⟨"java/lang/AbstractStringBuilder", "appendNull", "()Ljava/lang/AbstractStringBuilder;"⟩, Cond.sameMethod "java/lang/AbstractStringBuilder" "java/lang/AbstractStringBuilder" "appendNull" "()Ljava/lang/AbstractStringBuilder;", Cond.selects RJ4 ⟨"java/lang/AbstractStringBuilder", "appendNull", "()Ljava/lang/AbstractStringBuilder;"⟩ yJ5_appendNull_278bc, Cond.instanceMethod yJ5_appendNull_278bc, Cond.code yJ5_appendNull_278bc cJ5_appendNull_278bc 3 (some (.object "java/lang/AbstractStringBuilder")), Cond.methodLink RJ5 226 yJ2_putCharsAt_cd4e5, Cond.static yJ2_putCharsAt_cd4e5, Cond.code yJ2_putCharsAt_cd4e5 cJ2_putCharsAt_cd4e5 7 (some .int), Cond.methodLink RJ2 96 yJ2_checkBoundsBeginEnd_d044e, Cond.static yJ2_checkBoundsBeginEnd_d044e, Cond.code yJ2_checkBoundsBeginEnd_d044e cJ2_checkBoundsBeginEnd_d044e 3 none]
def wsL_viewRow_r9 : List Cond := [Cond.methodLink RJ2 241 yJ0_checkBoundsBeginEnd_23922, Cond.static yJ0_checkBoundsBeginEnd_23922, Cond.code yJ0_checkBoundsBeginEnd_23922 cJ0_checkBoundsBeginEnd_23922 3 none, Cond.methodLink RJ0 1062 yJ3_checkFromToIndex_8c36e, Cond.static yJ3_checkFromToIndex_8c36e, Cond.code yJ3_checkFromToIndex_8c36e cJ3_checkFromToIndex_8c36e 4 (some .int), Cond.methodLink RJ5 32 yJ0_length_8abf5, Cond.instanceMethod yJ0_length_8abf5, Cond.selects RJ0 yJ0_length_8abf5 yJ0_length_8abf5, Cond.code yJ0_length_8abf5 cJ0_length_8abf5 1 (some .int), Cond.fieldLink RJ0 9 "java/lang/String" "value" "[B", Cond.methodLink RJ0 335 yJ0_coder_7d493, Cond.instanceMethod yJ0_coder_7d493, Cond.selects RJ0 yJ0_coder_7d493 yJ0_coder_7d493, Cond.code yJ0_coder_7d493 cJ0_coder_7d493 1 (some .byte), Cond.fieldLink RJ0 38 "java/lang/String" "COMPACT_STRINGS" "Z", Cond.fieldLink RJ0 15 "java/lang/String" "coder" "B", Cond.methodLink RJ5 208 ⟨"java/lang/AbstractStringBuilder", "putStringAt", "(ILjava/lang/String;)V"⟩, Cond.sameMethod "java/lang/AbstractStringBuilder" "java/lang/AbstractStringBuilder" "putStringAt" "(ILjava/lang/String;)V", Cond.selects RJ4 ⟨"java/lang/AbstractStringBuilder", "putStringAt", "(ILjava/lang/String;)V"⟩ yJ5_putStringAt_47b60, Cond.instanceMethod yJ5_putStringAt_47b60, Cond.code yJ5_putStringAt_47b60 cJ5_putStringAt_47b60 3 none, Cond.methodLink RJ5 397 ⟨"java/lang/AbstractStringBuilder", "inflateIfNeededFor", "(Ljava/lang/String;)V"⟩, Cond.sameMethod "java/lang/AbstractStringBuilder" "java/lang/AbstractStringBuilder" "inflateIfNeededFor" "(Ljava/lang/String;)V"]
def wsL_viewRow_r10 : List Cond := [Cond.selects RJ4 ⟨"java/lang/AbstractStringBuilder", "inflateIfNeededFor", "(Ljava/lang/String;)V"⟩ yJ5_inflateIfNeededFor_a7421, Cond.instanceMethod yJ5_inflateIfNeededFor_a7421, Cond.code yJ5_inflateIfNeededFor_a7421 cJ5_inflateIfNeededFor_a7421 2 none, Cond.methodLink RJ5 40 yJ0_coder_7d493, Cond.methodLink RJ5 399 yJ0_getBytes_840e7, Cond.instanceMethod yJ0_getBytes_840e7, Cond.selects RJ0 yJ0_getBytes_840e7 yJ0_getBytes_840e7, Cond.code yJ0_getBytes_840e7 cJ0_getBytes_840e7 4 none, Cond.methodLink RJ0 212 arraycopyName, Cond.methodLink RJ0 106 yJ1_inflate_0e8fd, Cond.methodLink RX0 51 yX0_keyAt, Cond.instanceMethod yX0_keyAt, Cond.selects RX0 yX0_keyAt yX0_keyAt, Cond.code yX0_keyAt cX0_keyAt 2 (some .int), Cond.methodLink RX0 41 yX0_isPlace, Cond.instanceMethod yX0_isPlace, Cond.selects RX0 yX0_isPlace yX0_isPlace, Cond.code yX0_isPlace cX0_isPlace 2 (some .boolean), Cond.methodLink RX0 135 yJ4_append_bf812, Cond.instanceMethod yJ4_append_bf812, Cond.selects RJ4 yJ4_append_bf812 yJ4_append_bf812, Cond.code yJ4_append_bf812 cJ4_append_bf812 2 (some (.object "java/lang/StringBuilder")), Cond.methodLink RJ4 53 yJ5_append_c97b9, Cond.sameMethod "java/lang/AbstractStringBuilder" "java/lang/AbstractStringBuilder" "append" "(I)Ljava/lang/AbstractStringBuilder;"]
def wsL_viewRow_r11 : List Cond := [Cond.instanceMethod yJ5_append_c97b9, Cond.code yJ5_append_c97b9 cJ5_append_c97b9 4 (some (.object "java/lang/AbstractStringBuilder")), Cond.methodLink RJ5 245 yJ6_stringSize_0f7a4, Cond.static yJ6_stringSize_0f7a4, Cond.initialized RJ6, Cond.code yJ6_stringSize_0f7a4 cJ6_stringSize_0f7a4 4 (some .int), Cond.methodLink RJ5 248 yJ6_getChars_ba4f3, Cond.static yJ6_getChars_ba4f3, Cond.code yJ6_getChars_ba4f3 cJ6_getChars_ba4f3 7 (some .int), Cond.fieldLink RJ6 83 "java/lang/Integer" "DigitOnes" "[B", Cond.fieldLink RJ6 87 "java/lang/Integer" "DigitTens" "[B", Cond.methodLink RJ5 251 yJ2_getChars_46870, Cond.static yJ2_getChars_46870, Cond.code yJ2_getChars_46870 cJ2_getChars_46870 5 (some .int), Cond.methodLink RJ2 393 yJ2_getChars_ba4f3, Cond.static yJ2_getChars_ba4f3, Cond.code yJ2_getChars_ba4f3 cJ2_getChars_ba4f3 7 (some .int), Cond.fieldLink RJ2 403 "java/lang/Integer" "DigitOnes" "[B", Cond.fieldLink RJ2 407 "java/lang/Integer" "DigitTens" "[B", Cond.methodLink RX0 54 yX0_valueAt, Cond.instanceMethod yX0_valueAt, Cond.selects RX0 yX0_valueAt yX0_valueAt, Cond.code yX0_valueAt cX0_valueAt 2 (some .int), Cond.fieldLink RX0 19 "Rangeledger$Book" "values" "[I"]
def wsL_viewRow_r12 : List Cond := [Cond.methodLink RX0 138 yJ4_toString_0e30d, Cond.instanceMethod yJ4_toString_0e30d, Cond.selects RJ4 yJ4_toString_0e30d yJ4_toString_0e30d, Cond.code yJ4_toString_0e30d cJ4_toString_0e30d 1 (some (.object "java/lang/String")), Cond.classLink RJ4 18 RJ0, Cond.instantiable RJ0 4, Cond.methodLink RJ4 137 yJ0_init_81219, Cond.instanceMethod yJ0_init_81219, Cond.code yJ0_init_81219 cJ0_init_81219 2 none, Cond.methodLink RJ0 489 yJ0_init_db425, Cond.instanceMethod yJ0_init_db425, Cond.code yJ0_init_db425 cJ0_init_db425 5 none, Cond.methodLink RJ0 1 objectInit, Cond.fieldLink RJ0 1048 "java/lang/AbstractStringBuilder" "maybeLatin1" "Z", Cond.methodLink RJ0 552 ⟨"java/lang/AbstractStringBuilder", "getValue", "()[B"⟩, Cond.sameMethod "java/lang/AbstractStringBuilder" "java/lang/AbstractStringBuilder" "getValue" "()[B", Cond.selects RJ4 ⟨"java/lang/AbstractStringBuilder", "getValue", "()[B"⟩ yJ5_getValue_6d5f1, Cond.instanceMethod yJ5_getValue_6d5f1, Cond.code yJ5_getValue_6d5f1 cJ5_getValue_6d5f1 1 (some (.array .byte)), Cond.methodLink RJ0 549 ⟨"java/lang/AbstractStringBuilder", "length", "()I"⟩, Cond.sameMethod "java/lang/AbstractStringBuilder" "java/lang/AbstractStringBuilder" "length" "()I", Cond.instanceMethod ⟨"java/lang/AbstractStringBuilder", "length", "()I"⟩, Cond.selects RJ4 ⟨"java/lang/AbstractStringBuilder", "length", "()I"⟩ yJ4_length_8abf5, Cond.instanceMethod yJ4_length_8abf5]
def wsL_viewRow_r13 : List Cond := [Cond.code yJ4_length_8abf5 cJ4_length_8abf5 1 (some .int), Cond.methodLink RJ4 343 yJ5_length_8abf5, Cond.instanceMethod yJ5_length_8abf5, Cond.code yJ5_length_8abf5 cJ5_length_8abf5 1 (some .int), Cond.methodLink RJ0 1047 ⟨"java/lang/AbstractStringBuilder", "isLatin1", "()Z"⟩, Cond.methodLink RJ0 54 yJ7_copyOfRange_39247, Cond.static yJ7_copyOfRange_39247, Cond.code yJ7_copyOfRange_39247 cJ7_copyOfRange_39247 3 (some (.array .byte)), Cond.methodLink RJ7 339 yJ7_copyOfRangeByte_39247, Cond.static yJ7_copyOfRangeByte_39247, Cond.code yJ7_copyOfRangeByte_39247 cJ7_copyOfRangeByte_39247 5 (some (.array .byte)), Cond.methodLink RJ7 343 yJ7_checkLength_df160, Cond.static yJ7_checkLength_df160, Cond.code yJ7_checkLength_df160 cJ7_checkLength_df160 2 none, Cond.classLink RJ7 45 RJ4, Cond.methodLink RJ0 1051 yJ2_compress_39247, Cond.static yJ2_compress_39247, Cond.code yJ2_compress_39247 cJ2_compress_39247 6 (some (.array .byte)), Cond.methodLink RJ2 123 yJ2_compress_5af95, Cond.static yJ2_compress_5af95, Cond.code yJ2_compress_5af95 cJ2_compress_5af95 7 (some .int), Cond.methodLink RJ2 71 yJ2_getChar_3b067, Cond.static yJ2_getChar_3b067, Cond.code yJ2_getChar_3b067 cJ2_getChar_3b067 2 (some .char)]
def wsL_viewRow_r14 : List Cond := [Cond.methodLink RJ2 126 yJ7_copyOfRange_39247, Cond.methodLink RJ0 47 yJ2_coderFromArrayLen_85cad, Cond.static yJ2_coderFromArrayLen_85cad, Cond.code yJ2_coderFromArrayLen_85cad cJ2_coderFromArrayLen_85cad 2 (some .byte)]
def wsL_viewRow : List Cond := .codeWith yL_viewRow cL_viewRow 4 (some .int) [(0, 9, 12, 19)] :: ((wsL_viewRow_r1 ++ (wsL_viewRow_r2 ++ (wsL_viewRow_r3 ++ (wsL_viewRow_r4 ++ (wsL_viewRow_r5 ++ (wsL_viewRow_r6 ++ (wsL_viewRow_r7 ++ (wsL_viewRow_r8 ++ (wsL_viewRow_r9 ++ (wsL_viewRow_r10 ++ (wsL_viewRow_r11 ++ (wsL_viewRow_r12 ++ (wsL_viewRow_r13 ++ wsL_viewRow_r14))))))))))))) ++ wsX40 ++ wsX30 ++ wsX10 ++ wsX00 ++ wsJ40 ++ wsJ00 ++ (vx_atS RX3 313 "java/lang/IndexOutOfBoundsException" ["java/lang/RuntimeException", "java/lang/Exception"]).filter goodWord)
def wsL_ledger_r1 : List Cond := [Cond.classLink RL 21 "java/lang/IllegalArgumentException", Cond.methodLink RL 183 yX3_ledger, Cond.instanceMethod yX3_ledger, Cond.selects RX3 yX3_ledger yX3_ledger, Cond.initialized RX3, Cond.code yX3_ledger cX3_ledger 2 (some .int), Cond.fieldLink RX3 126 "Rangeledger" "ongoing" "LRangeledger$Walk;", Cond.fieldLink RX3 24 "Rangeledger" "keptKey" "I", Cond.fieldLink RX3 28 "Rangeledger" "keptValue" "I", Cond.fieldLink RX3 207 "Rangeledger" "refused" "I", Cond.methodLink RX3 210 yX3_checkWhat, Cond.static yX3_checkWhat, Cond.code yX3_checkWhat cX3_checkWhat 2 none, Cond.classLink RX3 86 "java/lang/IllegalArgumentException", Cond.initialized "java/lang/IllegalArgumentException", Cond.methodLink RX3 257 yX3_openViews, Cond.instanceMethod yX3_openViews, Cond.selects RX3 yX3_openViews yX3_openViews, Cond.code yX3_openViews cX3_openViews 3 (some .int), Cond.fieldLink RX3 20 "Rangeledger" "views" "[LRangeledger$View;", Cond.methodLink RX3 130 yX2_book, Cond.instanceMethod yX2_book, Cond.selects RX2 yX2_book yX2_book, Cond.initialized RX2]
def wsL_ledger_r2 : List Cond := [Cond.code yX2_book cX2_book 1 (some (.object "Rangeledger$Book")), Cond.fieldLink RX2 9 "Rangeledger$Walk" "range" "LRangeledger$View;", Cond.methodLink RX2 19 yX1_book, Cond.instanceMethod yX1_book, Cond.selects RX1 yX1_book yX1_book, Cond.initialized RX1, Cond.code yX1_book cX1_book 1 (some (.object "Rangeledger$Book")), Cond.fieldLink RX1 9 "Rangeledger$View" "book" "LRangeledger$Book;", Cond.methodLink RX3 242 yX0_number, Cond.instanceMethod yX0_number, Cond.selects RX0 yX0_number yX0_number, Cond.initialized RX0, Cond.code yX0_number cX0_number 1 (some .int), Cond.fieldLink RX0 9 "Rangeledger$Book" "number" "I", Cond.methodLink RX3 260 yX2_isBroken, Cond.instanceMethod yX2_isBroken, Cond.selects RX2 yX2_isBroken yX2_isBroken, Cond.code yX2_isBroken cX2_isBroken 1 (some .boolean), Cond.fieldLink RX2 31 "Rangeledger$Walk" "keyChanges" "I", Cond.methodLink RX2 33 yX2_book, Cond.methodLink RX2 25 yX0_keyChanges, Cond.instanceMethod yX0_keyChanges, Cond.selects RX0 yX0_keyChanges yX0_keyChanges, Cond.code yX0_keyChanges cX0_keyChanges 1 (some .int)]
def wsL_ledger_r3 : List Cond := [Cond.fieldLink RX0 31 "Rangeledger$Book" "keyChanges" "I", Cond.methodLink RX3 187 yX2_keyAtHand, Cond.instanceMethod yX2_keyAtHand, Cond.selects RX2 yX2_keyAtHand yX2_keyAtHand, Cond.code yX2_keyAtHand cX2_keyAtHand 1 (some .int), Cond.fieldLink RX2 34 "Rangeledger$Walk" "canDrop" "Z", Cond.fieldLink RX2 38 "Rangeledger$Walk" "touches" "I", Cond.fieldLink RX2 15 "Rangeledger$Walk" "position" "I", Cond.methodLink RX2 41 yX0_touches, Cond.instanceMethod yX0_touches, Cond.selects RX0 yX0_touches yX0_touches, Cond.code yX0_touches cX0_touches 1 (some .int), Cond.fieldLink RX0 28 "Rangeledger$Book" "touches" "I"]
def wsL_ledger : List Cond := .codeWith yL_ledger cL_ledger 4 (some .int) [(0, 10, 13, 21)] :: ((wsL_ledger_r1 ++ (wsL_ledger_r2 ++ wsL_ledger_r3)) ++ wsX40 ++ wsX30 ++ wsX20 ++ wsX10 ++ wsX00 ++ (vx_atS RX3 90 "java/lang/IllegalArgumentException" ["java/lang/RuntimeException", "java/lang/Exception"]).filter goodWord)
def wsL_law0_r1 : List Cond := [Cond.classLink RL 8 RX3, Cond.instantiable RX3 6, Cond.initialized RX3, Cond.classLink RL 187 RX5, Cond.instantiable RX5 13, Cond.initialized RX5, Cond.classLink RL 14 RX4, Cond.instantiable RX4 2, Cond.initialized RX4, Cond.methodLink RL 186 yX3_init, Cond.instanceMethod yX3_init, Cond.code yX3_init cX3_init 2 none, Cond.methodLink RX3 1 objectInit, Cond.instanceMethod objectInit, Cond.code objectInit ⟨#[0xb1]⟩ 1 none, Cond.classLink RX3 9 RX0, Cond.fieldLink RX3 11 "Rangeledger" "books" "[LRangeledger$Book;", Cond.instantiable RX0 7, Cond.initialized RX0, Cond.classLink RX3 18 RX1, Cond.fieldLink RX3 20 "Rangeledger" "views" "[LRangeledger$View;", Cond.fieldLink RX3 24 "Rangeledger" "keptKey" "I", Cond.fieldLink RX3 28 "Rangeledger" "keptValue" "I", Cond.methodLink RX3 15 yX0_init]
def wsL_law0_r2 : List Cond := [Cond.instanceMethod yX0_init, Cond.code yX0_init cX0_init 2 none, Cond.methodLink RX0 3 objectInit, Cond.fieldLink RX0 9 "Rangeledger$Book" "number" "I", Cond.arrayClass .int, Cond.fieldLink RX0 15 "Rangeledger$Book" "keys" "[I", Cond.fieldLink RX0 19 "Rangeledger$Book" "values" "[I", Cond.fieldLink RX0 22 "Rangeledger$Book" "order" "I", Cond.methodLink RL 189 yX5_init, Cond.instanceMethod yX5_init, Cond.code yX5_init cX5_init 3 none, Cond.methodLink RX5 1 objectInit, Cond.classLink RX5 9 "[[I", Cond.fieldLink RX5 11 "RangeledgerModel" "values" "[[I", Cond.fieldLink RX5 14 "RangeledgerModel" "orders" "[I", Cond.fieldLink RX5 18 "RangeledgerModel" "weights" "[[I", Cond.classLink RX5 21 "[I", Cond.fieldLink RX5 22 "RangeledgerModel" "views" "[[I", Cond.fieldLink RX5 25 "RangeledgerModel" "last" "I", Cond.fieldLink RX5 29 "RangeledgerModel" "hand" "I", Cond.fieldLink RX5 32 "RangeledgerModel" "kept" "I", Cond.fieldLink RX5 35 "RangeledgerModel" "keptValue" "I", Cond.methodLink RX5 38 yX5_named, Cond.static yX5_named]
def wsL_law0_r3 : List Cond := [Cond.code yX5_named cX5_named 4 (some .int), Cond.instanceMethod yX4_init, Cond.code yX4_init cX4_init 1 none, Cond.methodLink RX4 1 objectInit, Cond.methodLink RL 191 yL_put, Cond.static yL_put, Cond.initialized RL, Cond.codeWith yL_put cL_put 6 (some .int) [(0, 13, 16, 19), (0, 13, 20, 21)], Cond.classLink RL 19 "java/lang/IndexOutOfBoundsException", Cond.classLink RL 21 "java/lang/IllegalArgumentException", Cond.methodLink RL 7 yX3_put, Cond.instanceMethod yX3_put, Cond.selects RX3 yX3_put yX3_put, Cond.code yX3_put cX3_put 4 (some .int), Cond.methodLink RX3 31 yX3_bookToWritePair, Cond.instanceMethod yX3_bookToWritePair, Cond.selects RX3 yX3_bookToWritePair yX3_bookToWritePair, Cond.code yX3_bookToWritePair cX3_bookToWritePair 5 (some (.object "Rangeledger$Book")), Cond.methodLink RX3 47 yX3_bookAt, Cond.instanceMethod yX3_bookAt, Cond.selects RX3 yX3_bookAt yX3_bookAt, Cond.code yX3_bookAt cX3_bookAt 2 (some (.object "Rangeledger$Book")), Cond.classLink RX3 309 "java/lang/IndexOutOfBoundsException", Cond.initialized "java/lang/IndexOutOfBoundsException"]
def wsL_law0_r4 : List Cond := [Cond.methodLink RX3 51 yX3_checkKey, Cond.static yX3_checkKey, Cond.code yX3_checkKey cX3_checkKey 1 none, Cond.classLink RX3 86 "java/lang/IllegalArgumentException", Cond.initialized "java/lang/IllegalArgumentException", Cond.methodLink RX3 54 yX3_checkValue, Cond.static yX3_checkValue, Cond.code yX3_checkValue cX3_checkValue 1 none, Cond.methodLink RX3 57 yX0_touch, Cond.instanceMethod yX0_touch, Cond.selects RX0 yX0_touch yX0_touch, Cond.code yX0_touch cX0_touch 1 none, Cond.fieldLink RX0 28 "Rangeledger$Book" "touches" "I", Cond.methodLink RX3 35 yX0_enter, Cond.instanceMethod yX0_enter, Cond.selects RX0 yX0_enter yX0_enter, Cond.code yX0_enter cX0_enter 5 (some .int), Cond.methodLink RX0 48 yX0_placeOf, Cond.instanceMethod yX0_placeOf, Cond.selects RX0 yX0_placeOf yX0_placeOf, Cond.code yX0_placeOf cX0_placeOf 2 (some .int), Cond.methodLink RX0 34 yX0_weight, Cond.instanceMethod yX0_weight, Cond.selects RX0 yX0_weight yX0_weight]
def wsL_law0_r5 : List Cond := [Cond.code yX0_weight cX0_weight 4 (some .int), Cond.methodLink RX0 38 yX0_placeOfWeight, Cond.instanceMethod yX0_placeOfWeight, Cond.selects RX0 yX0_placeOfWeight yX0_placeOfWeight, Cond.code yX0_placeOfWeight cX0_placeOfWeight 6 (some .int), Cond.fieldLink RX0 25 "Rangeledger$Book" "size" "I", Cond.methodLink RX0 41 yX0_isPlace, Cond.instanceMethod yX0_isPlace, Cond.selects RX0 yX0_isPlace yX0_isPlace, Cond.code yX0_isPlace cX0_isPlace 2 (some .boolean), Cond.methodLink RX0 72 yX0_insert, Cond.instanceMethod yX0_insert, Cond.selects RX0 yX0_insert yX0_insert, Cond.code yX0_insert cX0_insert 4 none, Cond.methodLink RX0 76 arraycopyName, Cond.native arraycopyName, Cond.static arraycopyName, Cond.initialized "java/lang/System", Cond.fieldLink RX0 31 "Rangeledger$Book" "keyChanges" "I", Cond.methodLink RL 196 yX5_put, Cond.instanceMethod yX5_put, Cond.selects RX5 yX5_put yX5_put, Cond.code yX5_put cX5_put 4 (some .int), Cond.methodLink RX5 139 yX5_isBad_]
def wsL_law0_r6 : List Cond := [Cond.instanceMethod yX5_isBad_, Cond.selects RX5 yX5_isBad_ yX5_isBad_, Cond.code yX5_isBad_ cX5_isBad_ 4 (some .boolean), Cond.methodLink RX5 53 yX5_isNoBook, Cond.static yX5_isNoBook, Cond.code yX5_isNoBook cX5_isNoBook 1 (some .boolean), Cond.methodLink RX5 49 yX5_isIn, Cond.static yX5_isIn, Cond.code yX5_isIn cX5_isIn 3 (some .boolean), Cond.methodLink RX5 57 yX5_start, Cond.instanceMethod yX5_start, Cond.selects RX5 yX5_start yX5_start, Cond.code yX5_start cX5_start 3 (some .boolean), Cond.fieldLink RX5 42 "RangeledgerModel" "thrown" "I", Cond.methodLink RX5 45 yX5_refuse, Cond.instanceMethod yX5_refuse, Cond.selects RX5 yX5_refuse yX5_refuse, Cond.code yX5_refuse cX5_refuse 3 (some .boolean), Cond.methodLink RX5 60 yX5_isNoKey, Cond.static yX5_isNoKey, Cond.code yX5_isNoKey cX5_isNoKey 1 (some .boolean), Cond.methodLink RX5 63 yX5_isNoValue, Cond.static yX5_isNoValue, Cond.code yX5_isNoValue cX5_isNoValue 1 (some .boolean)]
def wsL_law0_r7 : List Cond := [Cond.methodLink RX5 142 yX5_touch, Cond.instanceMethod yX5_touch, Cond.selects RX5 yX5_touch yX5_touch, Cond.code yX5_touch cX5_touch 2 none, Cond.fieldLink RX5 125 "RangeledgerModel" "walk" "[I", Cond.methodLink RX5 132 yX5_set, Cond.instanceMethod yX5_set, Cond.selects RX5 yX5_set yX5_set, Cond.code yX5_set cX5_set 5 (some .int), Cond.fieldLink RX5 128 "RangeledgerModel" "isBroken" "Z", Cond.methodLink RL 197 yL_putAbsent, Cond.static yL_putAbsent, Cond.codeWith yL_putAbsent cL_putAbsent 6 (some .int) [(0, 13, 16, 19), (0, 13, 20, 21)], Cond.methodLink RL 23 yX3_putAbsent, Cond.instanceMethod yX3_putAbsent, Cond.selects RX3 yX3_putAbsent yX3_putAbsent, Cond.code yX3_putAbsent cX3_putAbsent 5 (some .int), Cond.methodLink RX3 39 yX0_holds, Cond.instanceMethod yX0_holds, Cond.selects RX0 yX0_holds yX0_holds, Cond.code yX0_holds cX0_holds 2 (some .boolean), Cond.methodLink RX0 45 yX0_valueOf, Cond.instanceMethod yX0_valueOf, Cond.selects RX0 yX0_valueOf yX0_valueOf]
def wsL_law0_r8 : List Cond := [Cond.code yX0_valueOf cX0_valueOf 3 (some .int), Cond.methodLink RX0 51 yX0_keyAt, Cond.instanceMethod yX0_keyAt, Cond.selects RX0 yX0_keyAt yX0_keyAt, Cond.code yX0_keyAt cX0_keyAt 2 (some .int), Cond.methodLink RX0 54 yX0_valueAt, Cond.instanceMethod yX0_valueAt, Cond.selects RX0 yX0_valueAt yX0_valueAt, Cond.code yX0_valueAt cX0_valueAt 2 (some .int), Cond.methodLink RX3 43 yX0_valueOf, Cond.methodLink RL 199 yX5_putAbsent, Cond.instanceMethod yX5_putAbsent, Cond.selects RX5 yX5_putAbsent yX5_putAbsent, Cond.code yX5_putAbsent cX5_putAbsent 5 (some .int), Cond.methodLink RL 200 yL_replace, Cond.static yL_replace, Cond.codeWith yL_replace cL_replace 6 (some .int) [(0, 13, 16, 19), (0, 13, 20, 21)], Cond.methodLink RL 26 yX3_replace, Cond.instanceMethod yX3_replace, Cond.selects RX3 yX3_replace yX3_replace, Cond.code yX3_replace cX3_replace 5 (some .int), Cond.methodLink RL 202 yX5_replace, Cond.instanceMethod yX5_replace, Cond.selects RX5 yX5_replace yX5_replace]
def wsL_law0_r9 : List Cond := [Cond.code yX5_replace cX5_replace 5 (some .int), Cond.methodLink RL 203 yL_swap, Cond.static yL_swap, Cond.codeWith yL_swap cL_swap 7 (some .int) [(0, 22, 25, 19), (0, 22, 29, 21)], Cond.methodLink RL 29 yX3_swap, Cond.instanceMethod yX3_swap, Cond.selects RX3 yX3_swap yX3_swap, Cond.code yX3_swap cX3_swap 6 (some .boolean), Cond.methodLink RL 206 yX5_swap, Cond.instanceMethod yX5_swap, Cond.selects RX5 yX5_swap yX5_swap, Cond.code yX5_swap cX5_swap 5 (some .boolean), Cond.methodLink RL 207 yL_strike, Cond.static yL_strike, Cond.codeWith yL_strike cL_strike 5 (some .int) [(0, 11, 14, 19), (0, 11, 18, 21)], Cond.methodLink RL 33 yX3_strike, Cond.instanceMethod yX3_strike, Cond.selects RX3 yX3_strike yX3_strike, Cond.code yX3_strike cX3_strike 3 (some .int), Cond.methodLink RX3 60 yX3_bookToWriteKey, Cond.instanceMethod yX3_bookToWriteKey, Cond.selects RX3 yX3_bookToWriteKey yX3_bookToWriteKey, Cond.code yX3_bookToWriteKey cX3_bookToWriteKey 4 (some (.object "Rangeledger$Book")), Cond.methodLink RX3 64 yX0_removeKey]
def wsL_law0_r10 : List Cond := [Cond.instanceMethod yX0_removeKey, Cond.selects RX0 yX0_removeKey yX0_removeKey, Cond.code yX0_removeKey cX0_removeKey 4 (some .int), Cond.methodLink RX0 82 yX0_removeRange, Cond.instanceMethod yX0_removeRange, Cond.selects RX0 yX0_removeRange yX0_removeRange, Cond.code yX0_removeRange cX0_removeRange 3 (some .int), Cond.methodLink RL 210 yX5_strike, Cond.instanceMethod yX5_strike, Cond.selects RX5 yX5_strike yX5_strike, Cond.code yX5_strike cX5_strike 3 (some .int), Cond.methodLink RX5 146 yX5_isBad, Cond.instanceMethod yX5_isBad, Cond.selects RX5 yX5_isBad yX5_isBad, Cond.code yX5_isBad cX5_isBad 3 (some .boolean), Cond.methodLink RL 211 yL_strikePair, Cond.static yL_strikePair, Cond.codeWith yL_strikePair cL_strikePair 6 (some .int) [(0, 20, 23, 19), (0, 20, 27, 21)], Cond.methodLink RL 37 yX3_strikePair, Cond.instanceMethod yX3_strikePair, Cond.selects RX3 yX3_strikePair yX3_strikePair, Cond.code yX3_strikePair cX3_strikePair 5 (some .boolean), Cond.methodLink RL 213 yX5_strikePair, Cond.instanceMethod yX5_strikePair]
def wsL_law0_r11 : List Cond := [Cond.selects RX5 yX5_strikePair yX5_strikePair, Cond.code yX5_strikePair cX5_strikePair 4 (some .boolean), Cond.methodLink RL 214 yL_merge, Cond.static yL_merge, Cond.codeWith yL_merge cL_merge 6 (some .int) [(0, 13, 16, 19), (0, 13, 20, 21)], Cond.methodLink RL 41 yX3_merge, Cond.instanceMethod yX3_merge, Cond.selects RX3 yX3_merge yX3_merge, Cond.code yX3_merge cX3_merge 4 (some .int), Cond.methodLink RX3 67 yX0_putTogether, Cond.instanceMethod yX0_putTogether, Cond.selects RX0 yX0_putTogether yX0_putTogether, Cond.code yX0_putTogether cX0_putTogether 4 (some .int), Cond.methodLink RX0 85 yX0_holds, Cond.methodLink RX0 88 yX0_enter, Cond.methodLink RX0 91 yX0_bounded, Cond.static yX0_bounded, Cond.code yX0_bounded cX0_bounded 1 (some .int), Cond.methodLink RX0 60 Lib.Math.min.name, Cond.static Lib.Math.min.name, Cond.initialized "java/lang/Math", Cond.code Lib.Math.min.name Lib.Math.min.code 2 (some .int), Cond.methodLink RX0 69 Lib.Math.max.name, Cond.static Lib.Math.max.name]
def wsL_law0_r12 : List Cond := [Cond.code Lib.Math.max.name Lib.Math.max.code 2 (some .int), Cond.methodLink RX0 94 yX0_enterUnlessZero, Cond.instanceMethod yX0_enterUnlessZero, Cond.selects RX0 yX0_enterUnlessZero yX0_enterUnlessZero, Cond.code yX0_enterUnlessZero cX0_enterUnlessZero 3 (some .int), Cond.methodLink RX0 97 yX0_removeKey, Cond.methodLink RL 216 yX5_merge, Cond.instanceMethod yX5_merge, Cond.selects RX5 yX5_merge yX5_merge, Cond.code yX5_merge cX5_merge 4 (some .int), Cond.methodLink RX5 149 yX5_mergeOf, Cond.instanceMethod yX5_mergeOf, Cond.selects RX5 yX5_mergeOf yX5_mergeOf, Cond.code yX5_mergeOf cX5_mergeOf 6 (some .int), Cond.methodLink RX5 136 yX5_held, Cond.static yX5_held, Cond.code yX5_held cX5_held 1 (some .int), Cond.methodLink RL 217 yL_grow, Cond.static yL_grow, Cond.codeWith yL_grow cL_grow 5 (some .int) [(0, 11, 14, 19), (0, 11, 18, 21)], Cond.methodLink RL 44 yX3_grow, Cond.instanceMethod yX3_grow, Cond.selects RX3 yX3_grow yX3_grow, Cond.code yX3_grow cX3_grow 3 (some .int)]
def wsL_law0_r13 : List Cond := [Cond.methodLink RX3 70 yX0_growKey, Cond.instanceMethod yX0_growKey, Cond.selects RX0 yX0_growKey yX0_growKey, Cond.code yX0_growKey cX0_growKey 2 (some .int), Cond.methodLink RL 219 yX5_grow, Cond.instanceMethod yX5_grow, Cond.selects RX5 yX5_grow yX5_grow, Cond.code yX5_grow cX5_grow 3 (some .int), Cond.methodLink RL 220 yL_halve, Cond.static yL_halve, Cond.codeWith yL_halve cL_halve 5 (some .int) [(0, 11, 14, 19), (0, 11, 18, 21)], Cond.methodLink RL 47 yX3_halve, Cond.instanceMethod yX3_halve, Cond.selects RX3 yX3_halve yX3_halve, Cond.code yX3_halve cX3_halve 3 (some .int), Cond.methodLink RX3 73 yX0_halveKey, Cond.instanceMethod yX0_halveKey, Cond.selects RX0 yX0_halveKey yX0_halveKey, Cond.code yX0_halveKey cX0_halveKey 2 (some .int), Cond.methodLink RL 222 yX5_halve, Cond.instanceMethod yX5_halve, Cond.selects RX5 yX5_halve yX5_halve, Cond.code yX5_halve cX5_halve 4 (some .int), Cond.methodLink RL 223 yL_twice]
def wsL_law0_r14 : List Cond := [Cond.static yL_twice, Cond.codeWith yL_twice cL_twice 5 (some .int) [(0, 11, 14, 19), (0, 11, 18, 21)], Cond.methodLink RL 50 yX3_twice, Cond.instanceMethod yX3_twice, Cond.selects RX3 yX3_twice yX3_twice, Cond.code yX3_twice cX3_twice 3 (some .int), Cond.methodLink RX3 76 yX0_doubleKey, Cond.instanceMethod yX0_doubleKey, Cond.selects RX0 yX0_doubleKey yX0_doubleKey, Cond.code yX0_doubleKey cX0_doubleKey 3 (some .int), Cond.methodLink RL 225 yX5_twice, Cond.instanceMethod yX5_twice, Cond.selects RX5 yX5_twice yX5_twice, Cond.code yX5_twice cX5_twice 4 (some .int), Cond.methodLink RL 226 yL_poll, Cond.static yL_poll, Cond.codeWith yL_poll cL_poll 5 (some .int) [(0, 11, 14, 19)], Cond.methodLink RL 53 yX3_poll, Cond.instanceMethod yX3_poll, Cond.selects RX3 yX3_poll yX3_poll, Cond.code yX3_poll cX3_poll 4 (some .int), Cond.methodLink RX3 79 yX0_size, Cond.instanceMethod yX0_size, Cond.selects RX0 yX0_size yX0_size]
def wsL_law0_r15 : List Cond := [Cond.code yX0_size cX0_size 1 (some .int), Cond.methodLink RX3 83 yX0_removeAt, Cond.instanceMethod yX0_removeAt, Cond.selects RX0 yX0_removeAt yX0_removeAt, Cond.code yX0_removeAt cX0_removeAt 3 (some .int), Cond.methodLink RL 229 yX5_poll, Cond.instanceMethod yX5_poll, Cond.selects RX5 yX5_poll yX5_poll, Cond.code yX5_poll cX5_poll 4 (some .int), Cond.methodLink RX5 85 yX5_whole, Cond.static yX5_whole, Cond.code yX5_whole cX5_whole 1 (some (.array .int)), Cond.methodLink RX5 96 yX5_end, Cond.instanceMethod yX5_end, Cond.selects RX5 yX5_end yX5_end, Cond.code yX5_end cX5_end 3 (some .int), Cond.methodLink RX5 77 yX5_closest, Cond.instanceMethod yX5_closest, Cond.selects RX5 yX5_closest yX5_closest, Cond.code yX5_closest cX5_closest 7 (some .int), Cond.methodLink RX5 74 yX5_shows, Cond.instanceMethod yX5_shows, Cond.selects RX5 yX5_shows yX5_shows, Cond.code yX5_shows cX5_shows 3 (some .boolean)]
def wsL_law0_r16 : List Cond := [Cond.methodLink RX5 70 yX5_isWithin, Cond.instanceMethod yX5_isWithin, Cond.selects RX5 yX5_isWithin yX5_isWithin, Cond.code yX5_isWithin cX5_isWithin 4 (some .boolean), Cond.methodLink RX5 66 yX5_weight, Cond.instanceMethod yX5_weight, Cond.selects RX5 yX5_weight yX5_weight, Cond.code yX5_weight cX5_weight 3 (some .int), Cond.methodLink RL 230 yL_raise, Cond.static yL_raise, Cond.codeWith yL_raise cL_raise 5 (some .int) [(0, 11, 14, 19), (0, 11, 18, 21)], Cond.methodLink RL 57 yX3_raise, Cond.instanceMethod yX3_raise, Cond.selects RX3 yX3_raise yX3_raise, Cond.code yX3_raise cX3_raise 4 (some .int), Cond.methodLink RX3 93 yX0_raiseAll, Cond.instanceMethod yX0_raiseAll, Cond.selects RX0 yX0_raiseAll yX0_raiseAll, Cond.code yX0_raiseAll cX0_raiseAll 5 (some .int), Cond.methodLink RL 232 yX5_raise, Cond.instanceMethod yX5_raise, Cond.selects RX5 yX5_raise yX5_raise, Cond.code yX5_raise cX5_raise 6 (some .int), Cond.methodLink RX5 81 yX5_one]
def wsL_law0_r17 : List Cond := [Cond.static yX5_one, Cond.code yX5_one cX5_one 1 (some .int), Cond.methodLink RL 233 yL_sift, Cond.static yL_sift, Cond.codeWith yL_sift cL_sift 5 (some .int) [(0, 11, 14, 19), (0, 11, 18, 21)], Cond.methodLink RL 60 yX3_sift, Cond.instanceMethod yX3_sift, Cond.selects RX3 yX3_sift yX3_sift, Cond.code yX3_sift cX3_sift 4 (some .int), Cond.methodLink RX3 98 yX0_removeMultiples, Cond.instanceMethod yX0_removeMultiples, Cond.selects RX0 yX0_removeMultiples yX0_removeMultiples, Cond.code yX0_removeMultiples cX0_removeMultiples 4 (some .int), Cond.methodLink RX0 100 yX0_removeAt, Cond.methodLink RL 235 yX5_sift, Cond.instanceMethod yX5_sift, Cond.selects RX5 yX5_sift yX5_sift, Cond.code yX5_sift cX5_sift 5 (some .int), Cond.methodLink RL 236 yL_strikeValue, Cond.static yL_strikeValue, Cond.codeWith yL_strikeValue cL_strikeValue 5 (some .int) [(0, 18, 21, 19), (0, 18, 25, 21), (0, 18, 29, 67)], Cond.classLink RL 67 "java/lang/IllegalStateException", Cond.methodLink RL 63 yX3_strikeValue, Cond.instanceMethod yX3_strikeValue]
def wsL_law0_r18 : List Cond := [Cond.selects RX3 yX3_strikeValue yX3_strikeValue, Cond.code yX3_strikeValue cX3_strikeValue 5 (some .boolean), Cond.classLink RX3 104 "java/lang/IllegalStateException", Cond.initialized "java/lang/IllegalStateException", Cond.methodLink RX3 101 yX0_countOfValue, Cond.instanceMethod yX0_countOfValue, Cond.selects RX0 yX0_countOfValue yX0_countOfValue, Cond.code yX0_countOfValue cX0_countOfValue 4 (some .int), Cond.methodLink RX3 109 yX0_firstPlaceOfValue, Cond.instanceMethod yX0_firstPlaceOfValue, Cond.selects RX0 yX0_firstPlaceOfValue yX0_firstPlaceOfValue, Cond.code yX0_firstPlaceOfValue cX0_firstPlaceOfValue 3 (some .int), Cond.methodLink RL 238 yX5_strikeValue, Cond.instanceMethod yX5_strikeValue, Cond.selects RX5 yX5_strikeValue yX5_strikeValue, Cond.code yX5_strikeValue cX5_strikeValue 4 (some .boolean), Cond.methodLink RX5 152 yX5_having, Cond.instanceMethod yX5_having, Cond.selects RX5 yX5_having yX5_having, Cond.code yX5_having cX5_having 8 (some .int), Cond.methodLink RL 239 yL_clear, Cond.static yL_clear, Cond.codeWith yL_clear cL_clear 4 (some .int) [(0, 10, 13, 19)], Cond.methodLink RL 69 yX3_clear]
def wsL_law0_r19 : List Cond := [Cond.instanceMethod yX3_clear, Cond.selects RX3 yX3_clear yX3_clear, Cond.code yX3_clear cX3_clear 3 (some .int), Cond.methodLink RX3 112 yX0_removeRange, Cond.methodLink RL 242 yX5_clear, Cond.instanceMethod yX5_clear, Cond.selects RX5 yX5_clear yX5_clear, Cond.code yX5_clear cX5_clear 2 (some .int), Cond.methodLink RX5 156 yX5_strikeAll, Cond.instanceMethod yX5_strikeAll, Cond.selects RX5 yX5_strikeAll yX5_strikeAll, Cond.code yX5_strikeAll cX5_strikeAll 4 (some .int), Cond.methodLink RL 243 yL_pour, Cond.static yL_pour, Cond.codeWith yL_pour cL_pour 5 (some .int) [(0, 11, 14, 19), (0, 11, 18, 21)], Cond.methodLink RL 73 yX3_pour, Cond.instanceMethod yX3_pour, Cond.selects RX3 yX3_pour yX3_pour, Cond.code yX3_pour cX3_pour 5 (some .int), Cond.methodLink RX3 115 yX3_checkUnlike, Cond.static yX3_checkUnlike, Cond.code yX3_checkUnlike cX3_checkUnlike 2 none, Cond.methodLink RX3 119 yX0_enterAll, Cond.instanceMethod yX0_enterAll]
def wsL_law0_r20 : List Cond := [Cond.selects RX0 yX0_enterAll yX0_enterAll, Cond.code yX0_enterAll cX0_enterAll 3 none, Cond.methodLink RX0 103 yX0_size, Cond.methodLink RL 245 yX5_pour, Cond.instanceMethod yX5_pour, Cond.selects RX5 yX5_pour yX5_pour, Cond.code yX5_pour cX5_pour 4 (some .int), Cond.methodLink RX5 160 yX5_areBad, Cond.instanceMethod yX5_areBad, Cond.selects RX5 yX5_areBad yX5_areBad, Cond.code yX5_areBad cX5_areBad 3 (some .boolean), Cond.methodLink RX5 163 yX5_many, Cond.instanceMethod yX5_many, Cond.selects RX5 yX5_many yX5_many, Cond.code yX5_many cX5_many 4 (some .int), Cond.methodLink RL 246 yL_copy, Cond.static yL_copy, Cond.codeWith yL_copy cL_copy 5 (some .int) [(0, 11, 14, 19), (0, 11, 18, 21)], Cond.methodLink RL 76 yX3_copy, Cond.instanceMethod yX3_copy, Cond.selects RX3 yX3_copy yX3_copy, Cond.code yX3_copy cX3_copy 5 (some .int), Cond.fieldLink RX3 126 "Rangeledger" "ongoing" "LRangeledger$Walk;", Cond.methodLink RX3 123 yX0_becomeLike]
def wsL_law0_r21 : List Cond := [Cond.instanceMethod yX0_becomeLike, Cond.selects RX0 yX0_becomeLike yX0_becomeLike, Cond.code yX0_becomeLike cX0_becomeLike 2 none, Cond.methodLink RX0 106 yX0_order, Cond.instanceMethod yX0_order, Cond.selects RX0 yX0_order yX0_order, Cond.code yX0_order cX0_order 1 (some .int), Cond.methodLink RX0 108 yX0_enterAll, Cond.methodLink RX3 130 yX2_book, Cond.instanceMethod yX2_book, Cond.selects RX2 yX2_book yX2_book, Cond.initialized RX2, Cond.code yX2_book cX2_book 1 (some (.object "Rangeledger$Book")), Cond.fieldLink RX2 9 "Rangeledger$Walk" "range" "LRangeledger$View;", Cond.methodLink RX2 19 yX1_book, Cond.instanceMethod yX1_book, Cond.selects RX1 yX1_book yX1_book, Cond.initialized RX1, Cond.code yX1_book cX1_book 1 (some (.object "Rangeledger$Book")), Cond.fieldLink RX1 9 "Rangeledger$View" "book" "LRangeledger$Book;", Cond.methodLink RX3 136 yX3_shutViewsOnto, Cond.instanceMethod yX3_shutViewsOnto, Cond.selects RX3 yX3_shutViewsOnto yX3_shutViewsOnto, Cond.code yX3_shutViewsOnto cX3_shutViewsOnto 4 (some .int)]
def wsL_law0_r22 : List Cond := [Cond.methodLink RX3 222 yX3_viewsOnto, Cond.instanceMethod yX3_viewsOnto, Cond.selects RX3 yX3_viewsOnto yX3_viewsOnto, Cond.code yX3_viewsOnto cX3_viewsOnto 4 (some .int), Cond.methodLink RX3 165 yX1_book, Cond.methodLink RL 248 yX5_copy, Cond.instanceMethod yX5_copy, Cond.selects RX5 yX5_copy yX5_copy, Cond.code yX5_copy cX5_copy 5 (some .int), Cond.methodLink RX5 166 yX5_begin, Cond.instanceMethod yX5_begin, Cond.selects RX5 yX5_begin yX5_begin, Cond.code yX5_begin cX5_begin 2 none, Cond.fieldLink RX5 179 "RangeledgerModel" "reached" "I", Cond.methodLink RL 249 yL_thin, Cond.static yL_thin, Cond.codeWith yL_thin cL_thin 6 (some .int) [(0, 13, 16, 19), (0, 13, 20, 21)], Cond.methodLink RL 79 yX3_thin, Cond.instanceMethod yX3_thin, Cond.selects RX3 yX3_thin yX3_thin, Cond.code yX3_thin cX3_thin 6 (some .int), Cond.methodLink RX3 140 yX0_removeByOther, Cond.instanceMethod yX0_removeByOther, Cond.selects RX0 yX0_removeByOther yX0_removeByOther]
def wsL_law0_r23 : List Cond := [Cond.code yX0_removeByOther cX0_removeByOther 5 (some .int), Cond.methodLink RL 252 yX5_thin, Cond.instanceMethod yX5_thin, Cond.selects RX5 yX5_thin yX5_thin, Cond.code yX5_thin cX5_thin 6 (some .int), Cond.methodLink RL 253 yL_head, Cond.static yL_head, Cond.codeWith yL_head cL_head 6 (some .int) [(0, 13, 16, 19), (0, 13, 20, 21), (0, 13, 24, 67)], Cond.methodLink RL 83 yX3_head, Cond.instanceMethod yX3_head, Cond.selects RX3 yX3_head yX3_head, Cond.code yX3_head cX3_head 5 (some .int), Cond.instantiable RX1 7, Cond.methodLink RX3 144 yX1_init, Cond.instanceMethod yX1_init, Cond.code yX1_init cX1_init 8 none, Cond.methodLink RX1 3 objectInit, Cond.fieldLink RX1 15 "Rangeledger$View" "lower" "I", Cond.fieldLink RX1 19 "Rangeledger$View" "isLowerIn" "Z", Cond.fieldLink RX1 23 "Rangeledger$View" "upper" "I", Cond.fieldLink RX1 26 "Rangeledger$View" "isUpperIn" "Z", Cond.fieldLink RX1 35 "Rangeledger$View" "startWeight" "I", Cond.methodLink RX1 38 Lib.Math.max.name, Cond.fieldLink RX1 44 "Rangeledger$View" "endWeight" "I"]
def wsL_law0_r24 : List Cond := [Cond.methodLink RX1 29 yX0_weight, Cond.methodLink RX3 147 yX3_openView, Cond.instanceMethod yX3_openView, Cond.selects RX3 yX3_openView yX3_openView, Cond.code yX3_openView cX3_openView 3 (some .int), Cond.methodLink RL 255 yX5_head, Cond.instanceMethod yX5_head, Cond.selects RX5 yX5_head yX5_head, Cond.code yX5_head cX5_head 4 (some .int), Cond.methodLink RX5 170 yX5_free, Cond.instanceMethod yX5_free, Cond.selects RX5 yX5_free yX5_free, Cond.code yX5_free cX5_free 2 (some .int), Cond.methodLink RX5 173 yX5_open, Cond.instanceMethod yX5_open, Cond.selects RX5 yX5_open yX5_open, Cond.code yX5_open cX5_open 3 (some .int), Cond.methodLink RL 256 yL_tail, Cond.static yL_tail, Cond.codeWith yL_tail cL_tail 6 (some .int) [(0, 13, 16, 19), (0, 13, 20, 21), (0, 13, 24, 67)], Cond.methodLink RL 86 yX3_tail, Cond.instanceMethod yX3_tail, Cond.selects RX3 yX3_tail yX3_tail, Cond.code yX3_tail cX3_tail 5 (some .int)]
def wsL_law0_r25 : List Cond := [Cond.methodLink RL 258 yX5_tail, Cond.instanceMethod yX5_tail, Cond.selects RX5 yX5_tail yX5_tail, Cond.code yX5_tail cX5_tail 4 (some .int), Cond.methodLink RL 259 yL_sub, Cond.static yL_sub, Cond.codeWith yL_sub cL_sub 8 (some .int) [(0, 17, 20, 19), (0, 17, 24, 21), (0, 17, 28, 67)], Cond.methodLink RL 89 yX3_sub, Cond.instanceMethod yX3_sub, Cond.selects RX3 yX3_sub yX3_sub, Cond.code yX3_sub cX3_sub 7 (some .int), Cond.methodLink RX3 151 yX3_checkViewIsFree, Cond.instanceMethod yX3_checkViewIsFree, Cond.selects RX3 yX3_checkViewIsFree yX3_checkViewIsFree, Cond.code yX3_checkViewIsFree cX3_checkViewIsFree 1 none, Cond.methodLink RX3 257 yX3_openViews, Cond.instanceMethod yX3_openViews, Cond.selects RX3 yX3_openViews yX3_openViews, Cond.code yX3_openViews cX3_openViews 3 (some .int), Cond.methodLink RX3 154 yX0_isAhead, Cond.instanceMethod yX0_isAhead, Cond.selects RX0 yX0_isAhead yX0_isAhead, Cond.code yX0_isAhead cX0_isAhead 3 (some .boolean), Cond.methodLink RL 262 yX5_sub]
def wsL_law0_r26 : List Cond := [Cond.instanceMethod yX5_sub, Cond.selects RX5 yX5_sub yX5_sub, Cond.code yX5_sub cX5_sub 7 (some .int), Cond.methodLink RL 263 yL_part, Cond.static yL_part, Cond.codeWith yL_part cL_part 8 (some .int) [(0, 17, 20, 19), (0, 17, 24, 21), (0, 17, 28, 67)], Cond.methodLink RL 93 yX3_part, Cond.instanceMethod yX3_part, Cond.selects RX3 yX3_part yX3_part, Cond.code yX3_part cX3_part 7 (some .int), Cond.methodLink RX3 158 yX3_viewAt, Cond.instanceMethod yX3_viewAt, Cond.selects RX3 yX3_viewAt yX3_viewAt, Cond.code yX3_viewAt cX3_viewAt 2 (some (.object "Rangeledger$View")), Cond.methodLink RX3 162 yX1_isWithin, Cond.instanceMethod yX1_isWithin, Cond.selects RX1 yX1_isWithin yX1_isWithin, Cond.code yX1_isWithin cX1_isWithin 3 (some .boolean), Cond.methodLink RL 265 yX5_part, Cond.instanceMethod yX5_part, Cond.selects RX5 yX5_part yX5_part, Cond.code yX5_part cX5_part 7 (some .int), Cond.methodLink RX5 176 yX5_isNoView, Cond.instanceMethod yX5_isNoView]
def wsL_law0_r27 : List Cond := [Cond.selects RX5 yX5_isNoView yX5_isNoView, Cond.code yX5_isNoView cX5_isNoView 2 (some .boolean), Cond.methodLink RL 266 yL_shut, Cond.static yL_shut, Cond.codeWith yL_shut cL_shut 4 (some .int) [(0, 10, 13, 19)], Cond.methodLink RL 96 yX3_shut, Cond.instanceMethod yX3_shut, Cond.selects RX3 yX3_shut yX3_shut, Cond.code yX3_shut cX3_shut 3 (some .int), Cond.methodLink RX3 166 yX1_size, Cond.instanceMethod yX1_size, Cond.selects RX1 yX1_size yX1_size, Cond.code yX1_size cX1_size 1 (some .int), Cond.methodLink RX1 50 yX1_end, Cond.instanceMethod yX1_end, Cond.selects RX1 yX1_end yX1_end, Cond.code yX1_end cX1_end 1 (some .int), Cond.methodLink RX1 47 yX0_placeOfWeight, Cond.methodLink RX1 54 yX1_start, Cond.instanceMethod yX1_start, Cond.selects RX1 yX1_start yX1_start, Cond.code yX1_start cX1_start 1 (some .int), Cond.methodLink RL 268 yX5_shut, Cond.instanceMethod yX5_shut]
def wsL_law0_r28 : List Cond := [Cond.selects RX5 yX5_shut yX5_shut, Cond.code yX5_shut cX5_shut 3 (some .int), Cond.methodLink RL 269 yL_viewPut, Cond.static yL_viewPut, Cond.codeWith yL_viewPut cL_viewPut 6 (some .int) [(0, 13, 16, 19), (0, 13, 20, 21)], Cond.methodLink RL 99 yX3_viewPut, Cond.instanceMethod yX3_viewPut, Cond.selects RX3 yX3_viewPut yX3_viewPut, Cond.code yX3_viewPut cX3_viewPut 5 (some .int), Cond.methodLink RX3 167 yX3_viewToWritePair, Cond.instanceMethod yX3_viewToWritePair, Cond.selects RX3 yX3_viewToWritePair yX3_viewToWritePair, Cond.code yX3_viewToWritePair cX3_viewToWritePair 5 (some (.object "Rangeledger$View")), Cond.methodLink RL 271 yX5_viewPut, Cond.instanceMethod yX5_viewPut, Cond.selects RX5 yX5_viewPut yX5_viewPut, Cond.code yX5_viewPut cX5_viewPut 4 (some .int), Cond.methodLink RL 272 yL_viewStrike, Cond.static yL_viewStrike, Cond.codeWith yL_viewStrike cL_viewStrike 5 (some .int) [(0, 11, 14, 19), (0, 11, 18, 21)], Cond.methodLink RL 102 yX3_viewStrike, Cond.instanceMethod yX3_viewStrike, Cond.selects RX3 yX3_viewStrike yX3_viewStrike, Cond.code yX3_viewStrike cX3_viewStrike 4 (some .int)]
def wsL_law0_r29 : List Cond := [Cond.methodLink RL 274 yX5_viewStrike, Cond.instanceMethod yX5_viewStrike, Cond.selects RX5 yX5_viewStrike yX5_viewStrike, Cond.code yX5_viewStrike cX5_viewStrike 3 (some .int), Cond.methodLink RL 275 yL_viewMerge, Cond.static yL_viewMerge, Cond.codeWith yL_viewMerge cL_viewMerge 6 (some .int) [(0, 13, 16, 19), (0, 13, 20, 21)], Cond.methodLink RL 105 yX3_viewMerge, Cond.instanceMethod yX3_viewMerge, Cond.selects RX3 yX3_viewMerge yX3_viewMerge, Cond.code yX3_viewMerge cX3_viewMerge 5 (some .int), Cond.methodLink RL 277 yX5_viewMerge, Cond.instanceMethod yX5_viewMerge, Cond.selects RX5 yX5_viewMerge yX5_viewMerge, Cond.code yX5_viewMerge cX5_viewMerge 4 (some .int), Cond.methodLink RL 278 yL_viewPoll, Cond.static yL_viewPoll, Cond.codeWith yL_viewPoll cL_viewPoll 5 (some .int) [(0, 11, 14, 19)], Cond.methodLink RL 108 yX3_viewPoll, Cond.instanceMethod yX3_viewPoll, Cond.selects RX3 yX3_viewPoll yX3_viewPoll, Cond.code yX3_viewPoll cX3_viewPoll 4 (some .int), Cond.methodLink RX3 171 yX1_end, Cond.methodLink RX3 174 yX1_start]
def wsL_law0_r30 : List Cond := [Cond.methodLink RL 280 yX5_viewPoll, Cond.instanceMethod yX5_viewPoll, Cond.selects RX5 yX5_viewPoll yX5_viewPoll, Cond.code yX5_viewPoll cX5_viewPoll 4 (some .int), Cond.methodLink RL 281 yL_viewClear, Cond.static yL_viewClear, Cond.codeWith yL_viewClear cL_viewClear 4 (some .int) [(0, 10, 13, 19)], Cond.methodLink RL 111 yX3_viewClear, Cond.instanceMethod yX3_viewClear, Cond.selects RX3 yX3_viewClear yX3_viewClear, Cond.code yX3_viewClear cX3_viewClear 3 (some .int), Cond.methodLink RL 283 yX5_viewClear, Cond.instanceMethod yX5_viewClear, Cond.selects RX5 yX5_viewClear yX5_viewClear, Cond.code yX5_viewClear cX5_viewClear 2 (some .int), Cond.methodLink RL 284 yL_walk, Cond.static yL_walk, Cond.codeWith yL_walk cL_walk 4 (some .int) [(0, 10, 13, 19)], Cond.methodLink RL 114 yX3_walk, Cond.instanceMethod yX3_walk, Cond.selects RX3 yX3_walk yX3_walk, Cond.code yX3_walk cX3_walk 2 (some .int), Cond.methodLink RX3 177 yX3_beginWalk, Cond.instanceMethod yX3_beginWalk]
def wsL_law0_r31 : List Cond := [Cond.selects RX3 yX3_beginWalk yX3_beginWalk, Cond.code yX3_beginWalk cX3_beginWalk 2 (some .int), Cond.classLink RX3 131 RX2, Cond.instantiable RX2 5, Cond.methodLink RX3 318 yX2_init, Cond.instanceMethod yX2_init, Cond.code yX2_init cX2_init 2 none, Cond.methodLink RX2 3 objectInit, Cond.fieldLink RX2 15 "Rangeledger$Walk" "position" "I", Cond.fieldLink RX2 31 "Rangeledger$Walk" "keyChanges" "I", Cond.methodLink RX2 25 yX0_keyChanges, Cond.instanceMethod yX0_keyChanges, Cond.selects RX0 yX0_keyChanges yX0_keyChanges, Cond.code yX0_keyChanges cX0_keyChanges 1 (some .int), Cond.methodLink RL 286 yX5_walk, Cond.instanceMethod yX5_walk, Cond.selects RX5 yX5_walk yX5_walk, Cond.code yX5_walk cX5_walk 2 (some .int), Cond.methodLink RL 287 yL_viewWalk, Cond.static yL_viewWalk, Cond.codeWith yL_viewWalk cL_viewWalk 4 (some .int) [(0, 10, 13, 19)], Cond.methodLink RL 117 yX3_viewWalk, Cond.instanceMethod yX3_viewWalk, Cond.selects RX3 yX3_viewWalk yX3_viewWalk]
def wsL_law0_r32 : List Cond := [Cond.code yX3_viewWalk cX3_viewWalk 2 (some .int), Cond.methodLink RL 289 yX5_viewWalk, Cond.instanceMethod yX5_viewWalk, Cond.selects RX5 yX5_viewWalk yX5_viewWalk, Cond.code yX5_viewWalk cX5_viewWalk 2 (some .int), Cond.methodLink RX5 182 ⟨"[I", "clone", "()Ljava/lang/Object;"⟩, Cond.sameMethod "[I" "java/lang/Object" "clone" "()Ljava/lang/Object;", Cond.native ⟨"java/lang/Object", "clone", "()Ljava/lang/Object;"⟩, Cond.instanceMethod ⟨"java/lang/Object", "clone", "()Ljava/lang/Object;"⟩, Cond.selects "[I" ⟨"[I", "clone", "()Ljava/lang/Object;"⟩ ⟨"java/lang/Object", "clone", "()Ljava/lang/Object;"⟩, Cond.methodLink RL 290 yL_step, Cond.static yL_step, Cond.codeWith yL_step cL_step 3 (some .int) [(0, 9, 12, 67)], Cond.methodLink RL 120 yX3_step, Cond.instanceMethod yX3_step, Cond.selects RX3 yX3_step yX3_step, Cond.code yX3_step cX3_step 1 (some .int), Cond.methodLink RX3 180 yX3_soundWalk, Cond.instanceMethod yX3_soundWalk, Cond.selects RX3 yX3_soundWalk yX3_soundWalk, Cond.code yX3_soundWalk cX3_soundWalk 1 (some (.object "Rangeledger$Walk")), Cond.methodLink RX3 260 yX2_isBroken, Cond.instanceMethod yX2_isBroken, Cond.selects RX2 yX2_isBroken yX2_isBroken]
def wsL_law0_r33 : List Cond := [Cond.code yX2_isBroken cX2_isBroken 1 (some .boolean), Cond.methodLink RX2 33 yX2_book, Cond.methodLink RX3 184 yX2_advance, Cond.instanceMethod yX2_advance, Cond.selects RX2 yX2_advance yX2_advance, Cond.code yX2_advance cX2_advance 2 (some .int), Cond.fieldLink RX2 34 "Rangeledger$Walk" "canDrop" "Z", Cond.fieldLink RX2 38 "Rangeledger$Walk" "touches" "I", Cond.methodLink RX2 43 yX1_start, Cond.methodLink RX2 46 yX0_placeBehind, Cond.instanceMethod yX0_placeBehind, Cond.selects RX0 yX0_placeBehind yX0_placeBehind, Cond.code yX0_placeBehind cX0_placeBehind 2 (some .int), Cond.methodLink RX2 50 yX1_end, Cond.methodLink RX2 53 yX0_keyAt, Cond.methodLink RX2 41 yX0_touches, Cond.instanceMethod yX0_touches, Cond.selects RX0 yX0_touches yX0_touches, Cond.code yX0_touches cX0_touches 1 (some .int), Cond.methodLink RL 293 yX5_step, Cond.instanceMethod yX5_step, Cond.selects RX5 yX5_step yX5_step, Cond.code yX5_step cX5_step 2 (some .int), Cond.methodLink RL 294 yL_write]
def wsL_law0_r34 : List Cond := [Cond.static yL_write, Cond.codeWith yL_write cL_write 4 (some .int) [(0, 10, 13, 21), (0, 10, 16, 67)], Cond.methodLink RL 124 yX3_write, Cond.instanceMethod yX3_write, Cond.selects RX3 yX3_write yX3_write, Cond.code yX3_write cX3_write 4 (some .int), Cond.methodLink RX3 187 yX2_keyAtHand, Cond.instanceMethod yX2_keyAtHand, Cond.selects RX2 yX2_keyAtHand yX2_keyAtHand, Cond.code yX2_keyAtHand cX2_keyAtHand 1 (some .int), Cond.methodLink RL 296 yX5_write, Cond.instanceMethod yX5_write, Cond.selects RX5 yX5_write yX5_write, Cond.code yX5_write cX5_write 2 (some .int), Cond.methodLink RL 297 yL_drop, Cond.static yL_drop, Cond.codeWith yL_drop cL_drop 3 (some .int) [(0, 9, 12, 67)], Cond.methodLink RL 127 yX3_drop, Cond.instanceMethod yX3_drop, Cond.selects RX3 yX3_drop yX3_drop, Cond.code yX3_drop cX3_drop 2 (some .int), Cond.methodLink RX3 192 yX2_canDrop, Cond.instanceMethod yX2_canDrop, Cond.selects RX2 yX2_canDrop yX2_canDrop]
def wsL_law0_r35 : List Cond := [Cond.code yX2_canDrop cX2_canDrop 1 (some .boolean), Cond.methodLink RX3 198 yX2_dropLastStep, Cond.instanceMethod yX2_dropLastStep, Cond.selects RX2 yX2_dropLastStep yX2_dropLastStep, Cond.code yX2_dropLastStep cX2_dropLastStep 1 none, Cond.methodLink RX2 56 yX0_removeKey, Cond.methodLink RL 299 yX5_drop, Cond.instanceMethod yX5_drop, Cond.selects RX5 yX5_drop yX5_drop, Cond.code yX5_drop cX5_drop 1 (some .int), Cond.methodLink RL 300 yL_keep, Cond.static yL_keep, Cond.codeWith yL_keep cL_keep 5 (some .int) [(0, 11, 14, 19)], Cond.methodLink RL 130 yX3_keep, Cond.instanceMethod yX3_keep, Cond.selects RX3 yX3_keep yX3_keep, Cond.code yX3_keep cX3_keep 5 (some .int), Cond.methodLink RX3 201 yX0_keyAt, Cond.methodLink RX3 204 yX0_valueAt, Cond.methodLink RL 302 yX5_keep, Cond.instanceMethod yX5_keep, Cond.selects RX5 yX5_keep yX5_keep, Cond.code yX5_keep cX5_keep 4 (some .int), Cond.methodLink RL 303 yL_brand]
def wsL_law0_r36 : List Cond := [Cond.static yL_brand, Cond.codeWith yL_brand cL_brand 4 (some .int) [(0, 10, 13, 21)], Cond.methodLink RL 133 yX3_brand, Cond.instanceMethod yX3_brand, Cond.selects RX3 yX3_brand yX3_brand, Cond.code yX3_brand cX3_brand 2 (some .int), Cond.methodLink RL 305 yX5_brand, Cond.instanceMethod yX5_brand, Cond.selects RX5 yX5_brand yX5_brand, Cond.code yX5_brand cX5_brand 2 (some .int), Cond.methodLink RL 306 yX3_knock, Cond.instanceMethod yX3_knock, Cond.selects RX3 yX3_knock yX3_knock, Cond.code yX3_knock cX3_knock 1 (some .int), Cond.fieldLink RX3 207 "Rangeledger" "refused" "I", Cond.methodLink RL 309 yX5_knock, Cond.instanceMethod yX5_knock, Cond.selects RX5 yX5_knock yX5_knock, Cond.code yX5_knock cX5_knock 1 (some .int), Cond.fieldLink RX5 186 "RangeledgerModel" "refused" "I", Cond.methodLink RL 310 yL_get, Cond.static yL_get, Cond.codeWith yL_get cL_get 5 (some .int) [(0, 11, 14, 19), (0, 11, 18, 21)], Cond.methodLink RL 136 yX3_get]
def wsL_law0_r37 : List Cond := [Cond.instanceMethod yX3_get, Cond.selects RX3 yX3_get yX3_get, Cond.code yX3_get cX3_get 4 (some .int), Cond.methodLink RL 312 yX5_get, Cond.instanceMethod yX5_get, Cond.selects RX5 yX5_get yX5_get, Cond.code yX5_get cX5_get 3 (some .int), Cond.methodLink RL 313 yL_getOr, Cond.static yL_getOr, Cond.codeWith yL_getOr cL_getOr 6 (some .int) [(0, 13, 16, 19), (0, 13, 20, 21)], Cond.methodLink RL 139 yX3_getOr, Cond.instanceMethod yX3_getOr, Cond.selects RX3 yX3_getOr yX3_getOr, Cond.code yX3_getOr cX3_getOr 5 (some .int), Cond.methodLink RL 315 yX5_getOr, Cond.instanceMethod yX5_getOr, Cond.selects RX5 yX5_getOr yX5_getOr, Cond.code yX5_getOr cX5_getOr 4 (some .int), Cond.methodLink RL 316 yL_has, Cond.static yL_has, Cond.codeWith yL_has cL_has 5 (some .int) [(0, 18, 21, 19), (0, 18, 25, 21)], Cond.methodLink RL 142 yX3_has, Cond.instanceMethod yX3_has, Cond.selects RX3 yX3_has yX3_has]
def wsL_law0_r38 : List Cond := [Cond.code yX3_has cX3_has 4 (some .boolean), Cond.methodLink RL 318 yX5_has, Cond.instanceMethod yX5_has, Cond.selects RX5 yX5_has yX5_has, Cond.code yX5_has cX5_has 3 (some .boolean), Cond.methodLink RL 319 yL_hasValue, Cond.static yL_hasValue, Cond.codeWith yL_hasValue cL_hasValue 5 (some .int) [(0, 18, 21, 19), (0, 18, 25, 21)], Cond.methodLink RL 145 yX3_hasValue, Cond.instanceMethod yX3_hasValue, Cond.selects RX3 yX3_hasValue yX3_hasValue, Cond.code yX3_hasValue cX3_hasValue 4 (some .boolean), Cond.methodLink RL 321 yX5_hasValue, Cond.instanceMethod yX5_hasValue, Cond.selects RX5 yX5_hasValue yX5_hasValue, Cond.code yX5_hasValue cX5_hasValue 3 (some .boolean), Cond.methodLink RL 322 yL_ofBook, Cond.static yL_ofBook, Cond.codeWith yL_ofBook cL_ofBook 5 (some .int) [(0, 11, 14, 19), (0, 11, 18, 21)], Cond.methodLink RL 148 yX3_ofBook, Cond.instanceMethod yX3_ofBook, Cond.selects RX3 yX3_ofBook yX3_ofBook, Cond.code yX3_ofBook cX3_ofBook 4 (some .int), Cond.methodLink RX3 210 yX3_checkWhat]
def wsL_law0_r39 : List Cond := [Cond.static yX3_checkWhat, Cond.code yX3_checkWhat cX3_checkWhat 2 none, Cond.methodLink RX3 213 yX0_order, Cond.methodLink RX3 216 yX0_sum, Cond.instanceMethod yX0_sum, Cond.selects RX0 yX0_sum yX0_sum, Cond.code yX0_sum cX0_sum 5 (some .int), Cond.methodLink RX3 219 yX0_unlikeValues, Cond.instanceMethod yX0_unlikeValues, Cond.selects RX0 yX0_unlikeValues yX0_unlikeValues, Cond.code yX0_unlikeValues cX0_unlikeValues 3 (some .int), Cond.methodLink RX0 57 yX0_firstPlaceOfValue, Cond.methodLink RL 324 yX5_ofBook, Cond.instanceMethod yX5_ofBook, Cond.selects RX5 yX5_ofBook yX5_ofBook, Cond.code yX5_ofBook cX5_ofBook 3 (some .int), Cond.methodLink RX5 201 yX5_bookTold, Cond.instanceMethod yX5_bookTold, Cond.selects RX5 yX5_bookTold yX5_bookTold, Cond.code yX5_bookTold cX5_bookTold 4 (some .int), Cond.methodLink RX5 189 yX5_valueOf, Cond.instanceMethod yX5_valueOf, Cond.selects RX5 yX5_valueOf yX5_valueOf, Cond.code yX5_valueOf cX5_valueOf 3 (some .int)]
def wsL_law0_r40 : List Cond := [Cond.methodLink RX5 192 yX5_sum, Cond.instanceMethod yX5_sum, Cond.selects RX5 yX5_sum yX5_sum, Cond.code yX5_sum cX5_sum 4 (some .int), Cond.methodLink RX5 195 yX5_unlike, Cond.instanceMethod yX5_unlike, Cond.selects RX5 yX5_unlike yX5_unlike, Cond.code yX5_unlike cX5_unlike 6 (some .int), Cond.methodLink RX5 198 yX5_viewsOf, Cond.instanceMethod yX5_viewsOf, Cond.selects RX5 yX5_viewsOf yX5_viewsOf, Cond.code yX5_viewsOf cX5_viewsOf 7 (some .int), Cond.methodLink RL 325 yL_near, Cond.static yL_near, Cond.codeWith yL_near cL_near 6 (some .int) [(0, 13, 16, 19), (0, 13, 20, 21)], Cond.methodLink RL 151 yX3_near, Cond.instanceMethod yX3_near, Cond.selects RX3 yX3_near yX3_near, Cond.code yX3_near cX3_near 6 (some .int), Cond.methodLink RX3 225 yX0_closest, Cond.instanceMethod yX0_closest, Cond.selects RX0 yX0_closest yX0_closest, Cond.code yX0_closest cX0_closest 8 (some .int), Cond.methodLink RX0 66 yX0_placeBehind]
def wsL_law0_r41 : List Cond := [Cond.methodLink RL 327 yX5_near, Cond.instanceMethod yX5_near, Cond.selects RX5 yX5_near yX5_near, Cond.code yX5_near cX5_near 4 (some .int), Cond.methodLink RX5 204 yX5_nearTold, Cond.instanceMethod yX5_nearTold, Cond.selects RX5 yX5_nearTold yX5_nearTold, Cond.code yX5_nearTold cX5_nearTold 5 (some .int), Cond.methodLink RX5 115 yX5_nearOf, Cond.instanceMethod yX5_nearOf, Cond.selects RX5 yX5_nearOf yX5_nearOf, Cond.code yX5_nearOf cX5_nearOf 5 (some .int), Cond.methodLink RL 328 yL_place, Cond.static yL_place, Cond.codeWith yL_place cL_place 5 (some .int) [(0, 11, 14, 19), (0, 11, 18, 21)], Cond.methodLink RL 154 yX3_place, Cond.instanceMethod yX3_place, Cond.selects RX3 yX3_place yX3_place, Cond.code yX3_place cX3_place 4 (some .int), Cond.methodLink RX3 229 yX0_placeOf, Cond.methodLink RL 330 yX5_place, Cond.instanceMethod yX5_place, Cond.selects RX5 yX5_place yX5_place, Cond.code yX5_place cX5_place 3 (some .int)]
def wsL_law0_r42 : List Cond := [Cond.methodLink RX5 207 yX5_ahead, Cond.instanceMethod yX5_ahead, Cond.selects RX5 yX5_ahead yX5_ahead, Cond.code yX5_ahead cX5_ahead 6 (some .int), Cond.methodLink RL 331 yL_at, Cond.static yL_at, Cond.codeWith yL_at cL_at 5 (some .int) [(0, 11, 14, 19), (0, 11, 18, 21)], Cond.methodLink RL 157 yX3_at, Cond.instanceMethod yX3_at, Cond.selects RX3 yX3_at yX3_at, Cond.code yX3_at cX3_at 4 (some .int), Cond.methodLink RL 333 yX5_at, Cond.instanceMethod yX5_at, Cond.selects RX5 yX5_at yX5_at, Cond.code yX5_at cX5_at 4 (some .int), Cond.methodLink RL 334 yL_row, Cond.static yL_row, Cond.codeWith yL_row cL_row 4 (some .int) [(0, 9, 12, 19)], Cond.methodLink RL 160 yX3_row, Cond.instanceMethod yX3_row, Cond.selects RX3 yX3_row yX3_row, Cond.code yX3_row cX3_row 3 (some (.object "java/lang/String")), Cond.methodLink RX3 234 yX0_text, Cond.instanceMethod yX0_text]
def wsL_law0_r43 : List Cond := [Cond.selects RX0 yX0_text yX0_text, Cond.code yX0_text cX0_text 5 (some (.object "java/lang/String")), Cond.classLink RX0 123 RJ4, Cond.instantiable RJ4 4, Cond.initialized RJ4, Cond.methodLink RX0 125 yJ4_init_da8c8, Cond.instanceMethod yJ4_init_da8c8, Cond.code yJ4_init_da8c8 cJ4_init_da8c8 1 none, Cond.methodLink RJ4 1 yJ5_init_d00df, Cond.instanceMethod yJ5_init_d00df, Cond.initialized RJ5, Cond.code yJ5_init_d00df cJ5_init_d00df 2 none, Cond.methodLink RJ5 3 objectInit, Cond.fieldLink RJ5 18 "java/lang/String" "COMPACT_STRINGS" "Z", Cond.arrayClass .byte, Cond.fieldLink RJ5 15 "java/lang/AbstractStringBuilder" "value" "[B", Cond.fieldLink RJ5 22 "java/lang/AbstractStringBuilder" "coder" "B", Cond.methodLink RJ5 26 yJ2_newBytesFor_77867, Cond.static yJ2_newBytesFor_77867, Cond.initialized RJ2, Cond.code yJ2_newBytesFor_77867 cJ2_newBytesFor_77867 1 (some (.array .byte)), Cond.methodLink RJ2 11 yJ2_newBytesLength_0f7a4, Cond.static yJ2_newBytesLength_0f7a4, Cond.code yJ2_newBytesLength_0f7a4 cJ2_newBytesLength_0f7a4 1 (some .int)]
def wsL_law0_r44 : List Cond := [Cond.constant RJ2 20 (1073741823), Cond.methodLink RX0 126 yJ4_append_cf468, Cond.instanceMethod yJ4_append_cf468, Cond.selects RJ4 yJ4_append_cf468 yJ4_append_cf468, Cond.code yJ4_append_cf468 cJ4_append_cf468 2 (some (.object "java/lang/StringBuilder")), Cond.methodLink RJ4 50 yJ5_append_3fe6f, Cond.sameMethod "java/lang/AbstractStringBuilder" "java/lang/AbstractStringBuilder" "append" "(C)Ljava/lang/AbstractStringBuilder;", Cond.superclass RJ4 RJ5, Cond.instanceMethod yJ5_append_3fe6f, Cond.code yJ5_append_3fe6f cJ5_append_3fe6f 2 (some (.object "java/lang/AbstractStringBuilder")), Cond.fieldLink RJ5 79 "java/lang/AbstractStringBuilder" "count" "I", Cond.methodLink RJ5 100 ⟨"java/lang/AbstractStringBuilder", "ensureCapacityInternal", "(I)V"⟩, Cond.sameMethod "java/lang/AbstractStringBuilder" "java/lang/AbstractStringBuilder" "ensureCapacityInternal" "(I)V", Cond.selects RJ4 ⟨"java/lang/AbstractStringBuilder", "ensureCapacityInternal", "(I)V"⟩ yJ5_ensureCapacityInternal_d00df, Cond.instanceMethod yJ5_ensureCapacityInternal_d00df, Cond.code yJ5_ensureCapacityInternal_d00df cJ5_ensureCapacityInternal_d00df 3 none, Cond.methodLink RJ5 104 ⟨"java/lang/AbstractStringBuilder", "newCapacity", "(I)I"⟩, Cond.sameMethod "java/lang/AbstractStringBuilder" "java/lang/AbstractStringBuilder" "newCapacity" "(I)I", Cond.selects RJ4 ⟨"java/lang/AbstractStringBuilder", "newCapacity", "(I)I"⟩ yJ5_newCapacity_0f7a4, Cond.instanceMethod yJ5_newCapacity_0f7a4, Cond.code yJ5_newCapacity_0f7a4 cJ5_newCapacity_0f7a4 6 (some .int), Cond.constant RJ5 39 (2147483647), Cond.methodLink RJ5 114 yJ8_newLength_cabcc, Cond.static yJ8_newLength_cabcc]
def wsL_law0_r45 : List Cond := [Cond.initialized RJ8, Cond.code yJ8_newLength_cabcc cJ8_newLength_cabcc 4 (some .int), Cond.methodLink RJ8 194 Lib.Math.max.name, Cond.constant RJ8 200 (2147483639), Cond.methodLink RJ8 201 yJ8_hugeLength_7cf53, Cond.static yJ8_hugeLength_7cf53, Cond.code yJ8_hugeLength_7cf53 cJ8_hugeLength_7cf53 3 (some .int), Cond.methodLink RJ5 108 yJ7_copyOf_9075b, Cond.static yJ7_copyOf_9075b, Cond.initialized RJ7, Cond.code yJ7_copyOf_9075b cJ7_copyOf_9075b 3 (some (.array .byte)), Cond.methodLink RJ7 310 ⟨"[B", "clone", "()Ljava/lang/Object;"⟩, Cond.sameMethod "[B" "java/lang/Object" "clone" "()Ljava/lang/Object;", Cond.selects "[B" ⟨"[B", "clone", "()Ljava/lang/Object;"⟩ ⟨"java/lang/Object", "clone", "()Ljava/lang/Object;"⟩, Cond.classLink RJ7 311 "[B", Cond.methodLink RJ7 304 Lib.Math.min.name, Cond.methodLink RJ7 150 arraycopyName, Cond.methodLink RJ5 83 ⟨"java/lang/AbstractStringBuilder", "isLatin1", "()Z"⟩, Cond.sameMethod "java/lang/AbstractStringBuilder" "java/lang/AbstractStringBuilder" "isLatin1" "()Z", Cond.selects RJ4 ⟨"java/lang/AbstractStringBuilder", "isLatin1", "()Z"⟩ yJ5_isLatin1_aae02, Cond.instanceMethod yJ5_isLatin1_aae02, Cond.code yJ5_isLatin1_aae02 cJ5_isLatin1_aae02 1 (some .boolean), Cond.methodLink RJ5 191 yJ1_canEncode_fc78d, Cond.static yJ1_canEncode_fc78d]
def wsL_law0_r46 : List Cond := [Cond.initialized RJ1, Cond.code yJ1_canEncode_fc78d cJ1_canEncode_fc78d 1 (some .boolean), Cond.methodLink RJ5 195 ⟨"java/lang/AbstractStringBuilder", "inflate", "()V"⟩, Cond.sameMethod "java/lang/AbstractStringBuilder" "java/lang/AbstractStringBuilder" "inflate" "()V", Cond.selects RJ4 ⟨"java/lang/AbstractStringBuilder", "inflate", "()V"⟩ yJ5_inflate_da8c8, Cond.instanceMethod yJ5_inflate_da8c8, Cond.code yJ5_inflate_da8c8 cJ5_inflate_da8c8 2 none, Cond.methodLink RJ5 125 yJ1_inflate_0e8fd, Cond.static yJ1_inflate_0e8fd, Cond.code yJ1_inflate_0e8fd cJ1_inflate_0e8fd 5 none, Cond.methodLink RJ1 240 yJ2_inflate_0e8fd, Cond.static yJ2_inflate_0e8fd, Cond.code yJ2_inflate_0e8fd cJ2_inflate_0e8fd 6 none, Cond.methodLink RJ2 173 yJ2_checkBoundsOffCount_d044e, Cond.static yJ2_checkBoundsOffCount_d044e, Cond.code yJ2_checkBoundsOffCount_d044e cJ2_checkBoundsOffCount_d044e 3 none, Cond.methodLink RJ2 48 yJ2_length_9d52b, Cond.static yJ2_length_9d52b, Cond.code yJ2_length_9d52b cJ2_length_9d52b 1 (some .int), Cond.methodLink RJ2 419 yJ0_checkBoundsOffCount_cabcc, Cond.static yJ0_checkBoundsOffCount_cabcc, Cond.initialized RJ0, Cond.code yJ0_checkBoundsOffCount_cabcc cJ0_checkBoundsOffCount_cabcc 3 (some .int), Cond.fieldLink RJ0 1053 "jdk/internal/util/Preconditions" "SIOOBE_FORMATTER" "Ljava/util/function/BiFunction;"]
def wsL_law0_r47 : List Cond := [Cond.methodLink RJ0 1065 yJ3_checkFromIndexSize_8c36e, Cond.static yJ3_checkFromIndexSize_8c36e, Cond.initialized RJ3, Cond.code yJ3_checkFromIndexSize_8c36e cJ3_checkFromIndexSize_8c36e 4 (some .int), Cond.methodLink RJ2 111 yJ2_putChar_b72d1, Cond.static yJ2_putChar_b72d1, Cond.code yJ2_putChar_b72d1 cJ2_putChar_b72d1 3 none, Cond.fieldLink RJ2 44 "java/lang/StringUTF16" "$assertionsDisabled" "Z", Cond.fieldLink RJ2 59 "java/lang/StringUTF16" "HI_BYTE_SHIFT" "I", Cond.fieldLink RJ2 63 "java/lang/StringUTF16" "LO_BYTE_SHIFT" "I", Cond.methodLink RJ5 197 yJ2_putCharSB_b72d1, Cond.static yJ2_putCharSB_b72d1, Cond.code yJ2_putCharSB_b72d1 cJ2_putCharSB_b72d1 3 none, Cond.methodLink RJ2 67 yJ2_checkIndex_2214a, Cond.static yJ2_checkIndex_2214a, Cond.code yJ2_checkIndex_2214a cJ2_checkIndex_2214a 2 none, Cond.methodLink RJ2 414 yJ0_checkIndex_df160, Cond.static yJ0_checkIndex_df160, Cond.code yJ0_checkIndex_df160 cJ0_checkIndex_df160 2 none, Cond.methodLink RJ0 1059 yJ3_checkIndex_8e157, Cond.static yJ3_checkIndex_8e157, Cond.code yJ3_checkIndex_8e157 cJ3_checkIndex_8e157 3 (some .int), Cond.methodLink RX0 132 yJ4_append_15ec4, Cond.instanceMethod yJ4_append_15ec4]
def wsL_law0_r48 : List Cond := [Cond.selects RJ4 yJ4_append_15ec4 yJ4_append_15ec4, Cond.code yJ4_append_15ec4 cJ4_append_15ec4 2 (some (.object "java/lang/StringBuilder")), Cond.methodLink RJ4 29 yJ5_append_cf1ce, Cond.sameMethod "java/lang/AbstractStringBuilder" "java/lang/AbstractStringBuilder" "append" "(Ljava/lang/String;)Ljava/lang/AbstractStringBuilder;", Cond.instanceMethod yJ5_append_cf1ce, Cond.code yJ5_append_cf1ce cJ5_append_cf1ce 3 (some (.object "java/lang/AbstractStringBuilder")), Cond.methodLink RJ5 204 ⟨"java/lang/AbstractStringBuilder", "appendNull", "()Ljava/lang/AbstractStringBuilder;"⟩, Cond.sameMethod "java/lang/AbstractStringBuilder" "java/lang/AbstractStringBuilder" "appendNull" "()Ljava/lang/AbstractStringBuilder;", Cond.selects RJ4 ⟨"java/lang/AbstractStringBuilder", "appendNull", "()Ljava/lang/AbstractStringBuilder;"⟩ yJ5_appendNull_278bc, Cond.instanceMethod yJ5_appendNull_278bc, Cond.code yJ5_appendNull_278bc cJ5_appendNull_278bc 3 (some (.object "java/lang/AbstractStringBuilder")), Cond.methodLink RJ5 226 yJ2_putCharsAt_cd4e5, Cond.static yJ2_putCharsAt_cd4e5, Cond.code yJ2_putCharsAt_cd4e5 cJ2_putCharsAt_cd4e5 7 (some .int), Cond.methodLink RJ2 96 yJ2_checkBoundsBeginEnd_d044e, Cond.static yJ2_checkBoundsBeginEnd_d044e, Cond.code yJ2_checkBoundsBeginEnd_d044e cJ2_checkBoundsBeginEnd_d044e 3 none, Cond.methodLink RJ2 241 yJ0_checkBoundsBeginEnd_23922, Cond.static yJ0_checkBoundsBeginEnd_23922, Cond.code yJ0_checkBoundsBeginEnd_23922 cJ0_checkBoundsBeginEnd_23922 3 none, Cond.methodLink RJ0 1062 yJ3_checkFromToIndex_8c36e, Cond.static yJ3_checkFromToIndex_8c36e, Cond.code yJ3_checkFromToIndex_8c36e cJ3_checkFromToIndex_8c36e 4 (some .int), Cond.methodLink RJ5 32 yJ0_length_8abf5]
def wsL_law0_r49 : List Cond := [Cond.instanceMethod yJ0_length_8abf5, Cond.selects RJ0 yJ0_length_8abf5 yJ0_length_8abf5, Cond.code yJ0_length_8abf5 cJ0_length_8abf5 1 (some .int), Cond.fieldLink RJ0 9 "java/lang/String" "value" "[B", Cond.methodLink RJ0 335 yJ0_coder_7d493, Cond.instanceMethod yJ0_coder_7d493, Cond.selects RJ0 yJ0_coder_7d493 yJ0_coder_7d493, Cond.code yJ0_coder_7d493 cJ0_coder_7d493 1 (some .byte), Cond.fieldLink RJ0 38 "java/lang/String" "COMPACT_STRINGS" "Z", Cond.fieldLink RJ0 15 "java/lang/String" "coder" "B", Cond.methodLink RJ5 208 ⟨"java/lang/AbstractStringBuilder", "putStringAt", "(ILjava/lang/String;)V"⟩, Cond.sameMethod "java/lang/AbstractStringBuilder" "java/lang/AbstractStringBuilder" "putStringAt" "(ILjava/lang/String;)V", Cond.selects RJ4 ⟨"java/lang/AbstractStringBuilder", "putStringAt", "(ILjava/lang/String;)V"⟩ yJ5_putStringAt_47b60, Cond.instanceMethod yJ5_putStringAt_47b60, Cond.code yJ5_putStringAt_47b60 cJ5_putStringAt_47b60 3 none, Cond.methodLink RJ5 397 ⟨"java/lang/AbstractStringBuilder", "inflateIfNeededFor", "(Ljava/lang/String;)V"⟩, Cond.sameMethod "java/lang/AbstractStringBuilder" "java/lang/AbstractStringBuilder" "inflateIfNeededFor" "(Ljava/lang/String;)V", Cond.selects RJ4 ⟨"java/lang/AbstractStringBuilder", "inflateIfNeededFor", "(Ljava/lang/String;)V"⟩ yJ5_inflateIfNeededFor_a7421, Cond.instanceMethod yJ5_inflateIfNeededFor_a7421, Cond.code yJ5_inflateIfNeededFor_a7421 cJ5_inflateIfNeededFor_a7421 2 none, Cond.methodLink RJ5 40 yJ0_coder_7d493, Cond.methodLink RJ5 399 yJ0_getBytes_840e7, Cond.instanceMethod yJ0_getBytes_840e7, Cond.selects RJ0 yJ0_getBytes_840e7 yJ0_getBytes_840e7]
def wsL_law0_r50 : List Cond := [Cond.code yJ0_getBytes_840e7 cJ0_getBytes_840e7 4 none, Cond.methodLink RJ0 212 arraycopyName, Cond.methodLink RJ0 106 yJ1_inflate_0e8fd, Cond.methodLink RX0 135 yJ4_append_bf812, Cond.instanceMethod yJ4_append_bf812, Cond.selects RJ4 yJ4_append_bf812 yJ4_append_bf812, Cond.code yJ4_append_bf812 cJ4_append_bf812 2 (some (.object "java/lang/StringBuilder")), Cond.methodLink RJ4 53 yJ5_append_c97b9, Cond.sameMethod "java/lang/AbstractStringBuilder" "java/lang/AbstractStringBuilder" "append" "(I)Ljava/lang/AbstractStringBuilder;", Cond.instanceMethod yJ5_append_c97b9, Cond.code yJ5_append_c97b9 cJ5_append_c97b9 4 (some (.object "java/lang/AbstractStringBuilder")), Cond.methodLink RJ5 245 yJ6_stringSize_0f7a4, Cond.static yJ6_stringSize_0f7a4, Cond.initialized RJ6, Cond.code yJ6_stringSize_0f7a4 cJ6_stringSize_0f7a4 4 (some .int), Cond.methodLink RJ5 248 yJ6_getChars_ba4f3, Cond.static yJ6_getChars_ba4f3, Cond.code yJ6_getChars_ba4f3 cJ6_getChars_ba4f3 7 (some .int), Cond.fieldLink RJ6 83 "java/lang/Integer" "DigitOnes" "[B", Cond.fieldLink RJ6 87 "java/lang/Integer" "DigitTens" "[B", Cond.methodLink RJ5 251 yJ2_getChars_46870, Cond.static yJ2_getChars_46870, Cond.code yJ2_getChars_46870 cJ2_getChars_46870 5 (some .int), Cond.methodLink RJ2 393 yJ2_getChars_ba4f3]
def wsL_law0_r51 : List Cond := [Cond.static yJ2_getChars_ba4f3, Cond.code yJ2_getChars_ba4f3 cJ2_getChars_ba4f3 7 (some .int), Cond.fieldLink RJ2 403 "java/lang/Integer" "DigitOnes" "[B", Cond.fieldLink RJ2 407 "java/lang/Integer" "DigitTens" "[B", Cond.methodLink RX0 138 yJ4_toString_0e30d, Cond.instanceMethod yJ4_toString_0e30d, Cond.selects RJ4 yJ4_toString_0e30d yJ4_toString_0e30d, Cond.code yJ4_toString_0e30d cJ4_toString_0e30d 1 (some (.object "java/lang/String")), Cond.classLink RJ4 18 RJ0, Cond.instantiable RJ0 4, Cond.methodLink RJ4 137 yJ0_init_81219, Cond.instanceMethod yJ0_init_81219, Cond.code yJ0_init_81219 cJ0_init_81219 2 none, Cond.methodLink RJ0 489 yJ0_init_db425, Cond.instanceMethod yJ0_init_db425, Cond.code yJ0_init_db425 cJ0_init_db425 5 none, Cond.methodLink RJ0 1 objectInit, Cond.fieldLink RJ0 1048 "java/lang/AbstractStringBuilder" "maybeLatin1" "Z", Cond.methodLink RJ0 552 ⟨"java/lang/AbstractStringBuilder", "getValue", "()[B"⟩, Cond.sameMethod "java/lang/AbstractStringBuilder" "java/lang/AbstractStringBuilder" "getValue" "()[B", Cond.selects RJ4 ⟨"java/lang/AbstractStringBuilder", "getValue", "()[B"⟩ yJ5_getValue_6d5f1, Cond.instanceMethod yJ5_getValue_6d5f1, Cond.code yJ5_getValue_6d5f1 cJ5_getValue_6d5f1 1 (some (.array .byte)), Cond.methodLink RJ0 549 ⟨"java/lang/AbstractStringBuilder", "length", "()I"⟩]
def wsL_law0_r52 : List Cond := [Cond.sameMethod "java/lang/AbstractStringBuilder" "java/lang/AbstractStringBuilder" "length" "()I", Cond.instanceMethod ⟨"java/lang/AbstractStringBuilder", "length", "()I"⟩, Cond.selects RJ4 ⟨"java/lang/AbstractStringBuilder", "length", "()I"⟩ yJ4_length_8abf5, Cond.instanceMethod yJ4_length_8abf5, Cond.code yJ4_length_8abf5 cJ4_length_8abf5 1 (some .int), Cond.methodLink RJ4 343 yJ5_length_8abf5, Cond.instanceMethod yJ5_length_8abf5, Cond.code yJ5_length_8abf5 cJ5_length_8abf5 1 (some .int), Cond.methodLink RJ0 1047 ⟨"java/lang/AbstractStringBuilder", "isLatin1", "()Z"⟩, Cond.methodLink RJ0 54 yJ7_copyOfRange_39247, Cond.static yJ7_copyOfRange_39247, Cond.code yJ7_copyOfRange_39247 cJ7_copyOfRange_39247 3 (some (.array .byte)), Cond.methodLink RJ7 339 yJ7_copyOfRangeByte_39247, Cond.static yJ7_copyOfRangeByte_39247, Cond.code yJ7_copyOfRangeByte_39247 cJ7_copyOfRangeByte_39247 5 (some (.array .byte)), Cond.methodLink RJ7 343 yJ7_checkLength_df160, Cond.static yJ7_checkLength_df160, Cond.code yJ7_checkLength_df160 cJ7_checkLength_df160 2 none, Cond.classLink RJ7 45 RJ4, Cond.methodLink RJ0 1051 yJ2_compress_39247, Cond.static yJ2_compress_39247, Cond.code yJ2_compress_39247 cJ2_compress_39247 6 (some (.array .byte)), Cond.methodLink RJ2 123 yJ2_compress_5af95, Cond.static yJ2_compress_5af95]
def wsL_law0_r53 : List Cond := [Cond.code yJ2_compress_5af95 cJ2_compress_5af95 7 (some .int), Cond.methodLink RJ2 71 yJ2_getChar_3b067, Cond.static yJ2_getChar_3b067, Cond.code yJ2_getChar_3b067 cJ2_getChar_3b067 2 (some .char), Cond.methodLink RJ2 126 yJ7_copyOfRange_39247, Cond.methodLink RJ0 47 yJ2_coderFromArrayLen_85cad, Cond.static yJ2_coderFromArrayLen_85cad, Cond.code yJ2_coderFromArrayLen_85cad cJ2_coderFromArrayLen_85cad 2 (some .byte), Cond.methodLink RL 336 yX5_row, Cond.instanceMethod yX5_row, Cond.selects RX5 yX5_row yX5_row, Cond.code yX5_row cX5_row 2 (some (.object "java/lang/String")), Cond.methodLink RX5 212 yX5_told, Cond.instanceMethod yX5_told, Cond.selects RX5 yX5_told yX5_told, Cond.code yX5_told cX5_told 4 (some (.object "java/lang/String")), Cond.classLink RX5 89 RJ4, Cond.methodLink RX5 93 yJ4_init_a7421, Cond.instanceMethod yJ4_init_a7421, Cond.code yJ4_init_a7421 cJ4_init_a7421 2 none, Cond.methodLink RJ4 7 yJ5_init_a7421, Cond.instanceMethod yJ5_init_a7421, Cond.code yJ5_init_a7421 cJ5_init_a7421 5 none, Cond.constant RJ5 38 (2147483631)]
def wsL_law0_r54 : List Cond := [Cond.methodLink RJ5 43 ⟨"java/lang/AbstractStringBuilder", "append", "(Ljava/lang/String;)Ljava/lang/AbstractStringBuilder;"⟩, Cond.instanceMethod ⟨"java/lang/AbstractStringBuilder", "append", "(Ljava/lang/String;)Ljava/lang/AbstractStringBuilder;"⟩, Cond.selects RJ4 ⟨"java/lang/AbstractStringBuilder", "append", "(Ljava/lang/String;)Ljava/lang/AbstractStringBuilder;"⟩ yJ4_append_cf1ce, Cond.instanceMethod yJ4_append_cf1ce, Cond.code yJ4_append_cf1ce cJ4_append_cf1ce 2 (some (.object "java/lang/AbstractStringBuilder")), Cond.methodLink RJ4 23 yJ4_append_15ec4, Cond.methodLink RX5 100 yJ4_length_8abf5, Cond.selects RJ4 yJ4_length_8abf5 yJ4_length_8abf5, Cond.methodLink RX5 106 yJ4_append_15ec4, Cond.methodLink RX5 110 yJ4_append_bf812, Cond.methodLink RX5 121 yJ4_toString_0e30d, Cond.methodLink RL 337 yL_same, Cond.static yL_same, Cond.codeWith yL_same cL_same 5 (some .int) [(0, 18, 21, 19)], Cond.methodLink RL 168 yX3_same, Cond.instanceMethod yX3_same, Cond.selects RX3 yX3_same yX3_same, Cond.code yX3_same cX3_same 4 (some .boolean), Cond.methodLink RX3 238 yX0_isLike, Cond.instanceMethod yX0_isLike, Cond.selects RX0 yX0_isLike yX0_isLike, Cond.code yX0_isLike cX0_isLike 3 (some .boolean), Cond.methodLink RL 339 yX5_same, Cond.instanceMethod yX5_same]
def wsL_law0_r55 : List Cond := [Cond.selects RX5 yX5_same yX5_same, Cond.code yX5_same cX5_same 3 (some .boolean), Cond.methodLink RX5 216 yX5_areSame, Cond.instanceMethod yX5_areSame, Cond.selects RX5 yX5_areSame yX5_areSame, Cond.code yX5_areSame cX5_areSame 4 (some .boolean), Cond.methodLink RL 340 yL_viewGet, Cond.static yL_viewGet, Cond.codeWith yL_viewGet cL_viewGet 5 (some .int) [(0, 11, 14, 19), (0, 11, 18, 21)], Cond.methodLink RL 171 yX3_viewGet, Cond.instanceMethod yX3_viewGet, Cond.selects RX3 yX3_viewGet yX3_viewGet, Cond.code yX3_viewGet cX3_viewGet 4 (some .int), Cond.methodLink RL 342 yX5_viewGet, Cond.instanceMethod yX5_viewGet, Cond.selects RX5 yX5_viewGet yX5_viewGet, Cond.code yX5_viewGet cX5_viewGet 3 (some .int), Cond.methodLink RL 343 yL_ofView, Cond.static yL_ofView, Cond.codeWith yL_ofView cL_ofView 5 (some .int) [(0, 11, 14, 19), (0, 11, 18, 21)], Cond.methodLink RL 174 yX3_ofView, Cond.instanceMethod yX3_ofView, Cond.selects RX3 yX3_ofView yX3_ofView, Cond.code yX3_ofView cX3_ofView 4 (some .int)]
def wsL_law0_r56 : List Cond := [Cond.methodLink RX3 242 yX0_number, Cond.instanceMethod yX0_number, Cond.selects RX0 yX0_number yX0_number, Cond.code yX0_number cX0_number 1 (some .int), Cond.methodLink RX3 245 yX1_lowerBound, Cond.instanceMethod yX1_lowerBound, Cond.selects RX1 yX1_lowerBound yX1_lowerBound, Cond.code yX1_lowerBound cX1_lowerBound 1 (some .int), Cond.methodLink RX3 248 yX1_upperBound, Cond.instanceMethod yX1_upperBound, Cond.selects RX1 yX1_upperBound yX1_upperBound, Cond.code yX1_upperBound cX1_upperBound 1 (some .int), Cond.methodLink RX3 251 yX1_isLowerIn, Cond.instanceMethod yX1_isLowerIn, Cond.selects RX1 yX1_isLowerIn yX1_isLowerIn, Cond.code yX1_isLowerIn cX1_isLowerIn 1 (some .boolean), Cond.methodLink RX3 254 yX1_isUpperIn, Cond.instanceMethod yX1_isUpperIn, Cond.selects RX1 yX1_isUpperIn yX1_isUpperIn, Cond.code yX1_isUpperIn cX1_isUpperIn 1 (some .boolean), Cond.methodLink RL 345 yX5_ofView, Cond.instanceMethod yX5_ofView, Cond.selects RX5 yX5_ofView yX5_ofView, Cond.code yX5_ofView cX5_ofView 3 (some .int)]
def wsL_law0_r57 : List Cond := [Cond.methodLink RX5 219 yX5_viewTold, Cond.instanceMethod yX5_viewTold, Cond.selects RX5 yX5_viewTold yX5_viewTold, Cond.code yX5_viewTold cX5_viewTold 4 (some .int), Cond.methodLink RL 346 yL_viewNear, Cond.static yL_viewNear, Cond.codeWith yL_viewNear cL_viewNear 6 (some .int) [(0, 13, 16, 19), (0, 13, 20, 21)], Cond.methodLink RL 177 yX3_viewNear, Cond.instanceMethod yX3_viewNear, Cond.selects RX3 yX3_viewNear yX3_viewNear, Cond.code yX3_viewNear cX3_viewNear 5 (some .int), Cond.methodLink RL 348 yX5_viewNear, Cond.instanceMethod yX5_viewNear, Cond.selects RX5 yX5_viewNear yX5_viewNear, Cond.code yX5_viewNear cX5_viewNear 4 (some .int), Cond.methodLink RL 349 yL_viewRow, Cond.static yL_viewRow, Cond.codeWith yL_viewRow cL_viewRow 4 (some .int) [(0, 9, 12, 19)], Cond.methodLink RL 180 yX3_viewRow, Cond.instanceMethod yX3_viewRow, Cond.selects RX3 yX3_viewRow yX3_viewRow, Cond.code yX3_viewRow cX3_viewRow 3 (some (.object "java/lang/String")), Cond.methodLink RL 351 yX5_viewRow, Cond.instanceMethod yX5_viewRow]
def wsL_law0_r58 : List Cond := [Cond.selects RX5 yX5_viewRow yX5_viewRow, Cond.code yX5_viewRow cX5_viewRow 2 (some (.object "java/lang/String")), Cond.methodLink RL 352 yL_ledger, Cond.static yL_ledger, Cond.codeWith yL_ledger cL_ledger 4 (some .int) [(0, 10, 13, 21)], Cond.methodLink RL 183 yX3_ledger, Cond.instanceMethod yX3_ledger, Cond.selects RX3 yX3_ledger yX3_ledger, Cond.code yX3_ledger cX3_ledger 2 (some .int), Cond.methodLink RL 354 yX5_ledger, Cond.instanceMethod yX5_ledger, Cond.selects RX5 yX5_ledger yX5_ledger, Cond.code yX5_ledger cX5_ledger 2 (some .int), Cond.methodLink RX5 222 yX5_ledgerTold, Cond.instanceMethod yX5_ledgerTold, Cond.selects RX5 yX5_ledgerTold yX5_ledgerTold, Cond.code yX5_ledgerTold cX5_ledgerTold 7 (some .int), Cond.methodLink RL 355 yX3_isSound, Cond.instanceMethod yX3_isSound, Cond.selects RX3 yX3_isSound yX3_isSound, Cond.code yX3_isSound cX3_isSound 3 (some .boolean), Cond.methodLink RX3 263 yX1_isSoundView, Cond.instanceMethod yX1_isSoundView, Cond.selects RX1 yX1_isSoundView yX1_isSoundView]
def wsL_law0_r59 : List Cond := [Cond.code yX1_isSoundView cX1_isSoundView 5 (some .boolean), Cond.methodLink RX1 57 yX0_size, Cond.methodLink RX1 60 yX0_keyAt, Cond.methodLink RX1 63 yX1_isWithin, Cond.methodLink RX3 266 yX0_isInOrder, Cond.instanceMethod yX0_isInOrder, Cond.selects RX0 yX0_isInOrder yX0_isInOrder, Cond.code yX0_isInOrder cX0_isInOrder 4 (some .boolean), Cond.methodLink RX0 115 yX0_isAhead, Cond.methodLink RX0 119 yX0_closest, Cond.methodLink RX3 269 yX0_hasSameTotals, Cond.instanceMethod yX0_hasSameTotals, Cond.selects RX0 yX0_hasSameTotals yX0_hasSameTotals, Cond.code yX0_hasSameTotals cX0_hasSameTotals 2 (some .boolean), Cond.methodLink RX0 112 yX0_sum, Cond.methodLink RL 359 yX5_isSound, Cond.instanceMethod yX5_isSound, Cond.selects RX5 yX5_isSound yX5_isSound, Cond.code yX5_isSound cX5_isSound 1 (some .boolean), Cond.methodLink RX5 229 yX5_isWhole, Cond.instanceMethod yX5_isWhole, Cond.selects RX5 yX5_isWhole yX5_isWhole, Cond.code yX5_isWhole cX5_isWhole 6 (some .boolean), Cond.methodLink RX5 225 yX5_isTrue]
def wsL_law0_r60 : List Cond := [Cond.instanceMethod yX5_isTrue, Cond.selects RX5 yX5_isTrue yX5_isTrue, Cond.code yX5_isTrue cX5_isTrue 5 (some .boolean), Cond.methodLink RL 360 yX3_digest, Cond.instanceMethod yX3_digest, Cond.selects RX3 yX3_digest yX3_digest, Cond.code yX3_digest cX3_digest 4 (some .long), Cond.constantLong RX3 272 (6007), Cond.methodLink RX3 274 yX3_ledger, Cond.methodLink RX3 277 yX3_mixed, Cond.static yX3_mixed, Cond.code yX3_mixed cX3_mixed 4 (some .long), Cond.constantLong RX3 307 (31), Cond.methodLink RX3 281 yX3_mixedWithBook, Cond.instanceMethod yX3_mixedWithBook, Cond.selects RX3 yX3_mixedWithBook yX3_mixedWithBook, Cond.code yX3_mixedWithBook cX3_mixedWithBook 8 (some .long), Cond.methodLink RX3 291 yX3_ofBook, Cond.methodLink RX3 294 yX3_near, Cond.methodLink RX3 285 yX3_mixedWithView, Cond.instanceMethod yX3_mixedWithView, Cond.selects RX3 yX3_mixedWithView yX3_mixedWithView, Cond.code yX3_mixedWithView cX3_mixedWithView 8 (some .long), Cond.methodLink RX3 298 yX3_ofView]
def wsL_law0_r61 : List Cond := [Cond.methodLink RX3 301 yX3_viewNear, Cond.methodLink RX3 304 yX0_textLength, Cond.instanceMethod yX0_textLength, Cond.selects RX0 yX0_textLength yX0_textLength, Cond.code yX0_textLength cX0_textLength 5 (some .int), Cond.methodLink RX0 142 yX0_signs, Cond.static yX0_signs, Cond.code yX0_signs cX0_signs 3 (some .int), Cond.methodLink RX0 145 Lib.Math.abs.name, Cond.static Lib.Math.abs.name, Cond.code Lib.Math.abs.name Lib.Math.abs.code 1 (some .int), Cond.methodLink RX3 288 yX3_isSound, Cond.methodLink RL 364 yX5_digest, Cond.instanceMethod yX5_digest, Cond.selects RX5 yX5_digest yX5_digest, Cond.code yX5_digest cX5_digest 6 (some .long), Cond.constantLong RX5 235 (6007), Cond.methodLink RX5 237 yX5_add, Cond.static yX5_add, Cond.code yX5_add cX5_add 4 (some .long), Cond.constantLong RX5 233 (31), Cond.methodLink RX5 241 yJ0_length_8abf5]
def wsL_law0 : List Cond := (wsL_law0_r1 ++ (wsL_law0_r2 ++ (wsL_law0_r3 ++ (wsL_law0_r4 ++ (wsL_law0_r5 ++ (wsL_law0_r6 ++ (wsL_law0_r7 ++ (wsL_law0_r8 ++ (wsL_law0_r9 ++ (wsL_law0_r10 ++ (wsL_law0_r11 ++ (wsL_law0_r12 ++ (wsL_law0_r13 ++ (wsL_law0_r14 ++ (wsL_law0_r15 ++ (wsL_law0_r16 ++ (wsL_law0_r17 ++ (wsL_law0_r18 ++ (wsL_law0_r19 ++ (wsL_law0_r20 ++ (wsL_law0_r21 ++ (wsL_law0_r22 ++ (wsL_law0_r23 ++ (wsL_law0_r24 ++ (wsL_law0_r25 ++ (wsL_law0_r26 ++ (wsL_law0_r27 ++ (wsL_law0_r28 ++ (wsL_law0_r29 ++ (wsL_law0_r30 ++ (wsL_law0_r31 ++ (wsL_law0_r32 ++ (wsL_law0_r33 ++ (wsL_law0_r34 ++ (wsL_law0_r35 ++ (wsL_law0_r36 ++ (wsL_law0_r37 ++ (wsL_law0_r38 ++ (wsL_law0_r39 ++ (wsL_law0_r40 ++ (wsL_law0_r41 ++ (wsL_law0_r42 ++ (wsL_law0_r43 ++ (wsL_law0_r44 ++ (wsL_law0_r45 ++ (wsL_law0_r46 ++ (wsL_law0_r47 ++ (wsL_law0_r48 ++ (wsL_law0_r49 ++ (wsL_law0_r50 ++ (wsL_law0_r51 ++ (wsL_law0_r52 ++ (wsL_law0_r53 ++ (wsL_law0_r54 ++ (wsL_law0_r55 ++ (wsL_law0_r56 ++ (wsL_law0_r57 ++ (wsL_law0_r58 ++ (wsL_law0_r59 ++ (wsL_law0_r60 ++ wsL_law0_r61)))))))))))))))))))))))))))))))))))))))))))))))))))))))))))) ++ wsX30 ++ wsX50 ++ wsX40 ++ wsX00 ++ wsX20 ++ wsX10 ++ wsJ40 ++ wsJ00 ++ ([] : List Cond)
def wsL_law : List Cond := wsL_law0 ++ (vx_atS RX3 313 "java/lang/IndexOutOfBoundsException" ["java/lang/RuntimeException", "java/lang/Exception"]).filter goodWord ++ (vx_atS RX3 90 "java/lang/IllegalArgumentException" ["java/lang/RuntimeException", "java/lang/Exception"]).filter goodWord ++ (vx_atS RX3 108 "java/lang/IllegalStateException" ["java/lang/RuntimeException", "java/lang/Exception"]).filter goodWord
set_option maxRecDepth 20000 in
theorem wsL_law_in0 : ∀ w ∈ wsL_law0, w ∈ lw_tbl := fun w h => (goodIn_p wsL_law0 [86, 89, 95, 1300, 1307, 465, 482, 486, 359, 407, 489, 494, 498, 202, 164, 160, 180, 502, 1351, 1355, 1358, 1361, 1365, 1369, 1372, 1375, 1379, 1383, 512, 516, 222, 176, 226, 1387, 523, 1391, 530, 1395, 537, 541, 545, 549, 1399, 1403, 556, 1407, 563, 567, 572, 206, 213, 576, 1411, 1415, 1418, 584, 588, 1422, 595, 599, 1426, 606, 610, 1430, 617, 172, 621, 1434, 1437, 1441, 1445, 1449, 1453, 1457, 628, 633, 1461, 1464, 640, 645, 1468, 654, 658, 395, 1472, 1476, 682, 1480, 1484, 690, 693, 698, 1488, 1492, 1496, 705, 709, 384, 322, 326, 715, 399, 1500, 1504, 722, 726, 1508, 733, 737, 765, 1512, 1516, 1520, 773, 1524, 780, 784, 318, 194, 1528, 792, 418, 184, 1532, 1536, 800, 427, 168, 156, 1540, 807, 811, 1544, 818, 1548, 825, 1552, 832, 1556, 839, 1560, 846, 850, 855, 339, 1564, 879, 1568, 886, 890, 334, 895, 210, 347, 1576, 906, 343, 1580, 914, 918, 923, 1584, 931, 1588, 938, 1592, 144, 1596, 945, 1600, 952, 1604, 959, 1608, 966, 1612, 379, 246, 234, 391, 1616, 1620, 1624, 1628, 1632, 1636, 404, 198, 1640, 1644, 1648, 981, 1652, 1656, 989, 1660, 997, 1001, 1006, 1009, 1015, 1018, 1036, 1039, 1043, 1047, 1050, 1055, 1059, 1073, 1076, 1080, 1083, 1086, 1089, 1092, 1095, 1100, 1103, 1112, 1115, 1118, 1121, 1126, 1129, 1133, 1136, 1139, 1142, 1145, 1149, 1153, 1158, 1162, 1167, 1173, 1176, 1179, 1182, 1189, 1192, 1198, 1203, 1206, 1212, 1218, 1220, 1224, 1227, 1230, 1241, 1244, 1247, 1251, 1664, 1669, 1674, 1677, 1681, 1269, 217, 1693, 1697, 1276, 1701, 423, 330, 431, 435, 439, 443, 1705, 1709, 449, 1713, 1291, 1717, 243, 1721, 1725, 148, 152, 189, 230, 1729, 1733, 1737, 238, 350, 355, 414, 453, 456, 459, 1741, 1745] (by decide +kernel) (by decide +kernel) w h).1
theorem wsL_law_x0 : ∀ w ∈ (vx_atS RX3 313 "java/lang/IndexOutOfBoundsException" ["java/lang/RuntimeException", "java/lang/Exception"]).filter goodWord, w ∈ lw_tbl := by decide +kernel
theorem wsL_law_x1 : ∀ w ∈ (vx_atS RX3 90 "java/lang/IllegalArgumentException" ["java/lang/RuntimeException", "java/lang/Exception"]).filter goodWord, w ∈ lw_tbl := by decide +kernel
theorem wsL_law_x2 : ∀ w ∈ (vx_atS RX3 108 "java/lang/IllegalStateException" ["java/lang/RuntimeException", "java/lang/Exception"]).filter goodWord, w ∈ lw_tbl := by decide +kernel
theorem wsL_law_in : ∀ w ∈ wsL_law, w ∈ lw_tbl := fun w h => (List.mem_append.mp h).elim (fun h => (List.mem_append.mp h).elim (fun h => (List.mem_append.mp h).elim (fun h => wsL_law_in0 w h) (fun h => wsL_law_x0 w h)) (fun h => wsL_law_x1 w h)) (fun h => wsL_law_x2 w h)
theorem inlX0 : ∀ w ∈ wsX00, w ∈ wsL_law := fun _ h => List.mem_append_left _ (List.mem_append_left _ (List.mem_append_left _ (List.mem_append_left _ (List.mem_append_left _ (List.mem_append_left _ (List.mem_append_left _ (List.mem_append_left _ (List.mem_append_right _ h))))))))
theorem inX0 : ∀ w ∈ wsX00, w ∈ lw_tbl := fun w h => wsL_law_in w (inlX0 w h)
theorem inlX1 : ∀ w ∈ wsX10, w ∈ wsL_law := fun _ h => List.mem_append_left _ (List.mem_append_left _ (List.mem_append_left _ (List.mem_append_left _ (List.mem_append_left _ (List.mem_append_left _ (List.mem_append_right _ h))))))
theorem inX1 : ∀ w ∈ wsX10, w ∈ lw_tbl := fun w h => wsL_law_in w (inlX1 w h)
theorem inlX2 : ∀ w ∈ wsX20, w ∈ wsL_law := fun _ h => List.mem_append_left _ (List.mem_append_left _ (List.mem_append_left _ (List.mem_append_left _ (List.mem_append_left _ (List.mem_append_left _ (List.mem_append_left _ (List.mem_append_right _ h)))))))
theorem inX2 : ∀ w ∈ wsX20, w ∈ lw_tbl := fun w h => wsL_law_in w (inlX2 w h)
theorem inlX3 : ∀ w ∈ wsX30, w ∈ wsL_law := fun _ h => List.mem_append_left _ (List.mem_append_left _ (List.mem_append_left _ (List.mem_append_left _ (List.mem_append_left _ (List.mem_append_left _ (List.mem_append_left _ (List.mem_append_left _ (List.mem_append_left _ (List.mem_append_left _ (List.mem_append_left _ (List.mem_append_right _ h)))))))))))
theorem inX3 : ∀ w ∈ wsX30, w ∈ lw_tbl := fun w h => wsL_law_in w (inlX3 w h)
theorem inlX4 : ∀ w ∈ wsX40, w ∈ wsL_law := fun _ h => List.mem_append_left _ (List.mem_append_left _ (List.mem_append_left _ (List.mem_append_left _ (List.mem_append_left _ (List.mem_append_left _ (List.mem_append_left _ (List.mem_append_left _ (List.mem_append_left _ (List.mem_append_right _ h)))))))))
theorem inX4 : ∀ w ∈ wsX40, w ∈ lw_tbl := fun w h => wsL_law_in w (inlX4 w h)
theorem inlX5 : ∀ w ∈ wsX50, w ∈ wsL_law := fun _ h => List.mem_append_left _ (List.mem_append_left _ (List.mem_append_left _ (List.mem_append_left _ (List.mem_append_left _ (List.mem_append_left _ (List.mem_append_left _ (List.mem_append_left _ (List.mem_append_left _ (List.mem_append_left _ (List.mem_append_right _ h))))))))))
theorem inX5 : ∀ w ∈ wsX50, w ∈ lw_tbl := fun w h => wsL_law_in w (inlX5 w h)
theorem inJ5 : ∀ w ∈ wsJ50, w ∈ lw_tbl := by decide +kernel
theorem inJx8e188 : ∀ w ∈ wsJx8e1880, w ∈ lw_tbl := by decide +kernel
theorem inJ6 : ∀ w ∈ wsJ60, w ∈ lw_tbl := by decide +kernel
theorem inJ9 : ∀ w ∈ wsJ90, w ∈ lw_tbl := by decide +kernel
theorem inlJ0 : ∀ w ∈ wsJ00, w ∈ wsL_law := fun _ h => List.mem_append_left _ (List.mem_append_left _ (List.mem_append_left _ (List.mem_append_left _ (List.mem_append_right _ h))))
theorem inJ0 : ∀ w ∈ wsJ00, w ∈ lw_tbl := fun w h => wsL_law_in w (inlJ0 w h)
theorem inlJ4 : ∀ w ∈ wsJ40, w ∈ wsL_law := fun _ h => List.mem_append_left _ (List.mem_append_left _ (List.mem_append_left _ (List.mem_append_left _ (List.mem_append_left _ (List.mem_append_right _ h)))))
theorem inJ4 : ∀ w ∈ wsJ40, w ∈ lw_tbl := fun w h => wsL_law_in w (inlJ4 w h)
theorem inJ1 : ∀ w ∈ wsJ10, w ∈ lw_tbl := by decide +kernel
theorem inJ2 : ∀ w ∈ wsJ20, w ∈ lw_tbl := by decide +kernel
theorem inJ10 : ∀ w ∈ wsJ100, w ∈ lw_tbl := by decide +kernel
theorem inJ7 : ∀ w ∈ wsJ70, w ∈ lw_tbl := by decide +kernel
theorem inJ8 : ∀ w ∈ wsJ80, w ∈ lw_tbl := by decide +kernel
theorem inJ3 : ∀ w ∈ wsJ30, w ∈ lw_tbl := by decide +kernel
set_option maxRecDepth 20000 in
theorem ggL_put_X3_put : GoodIn wsL_put wsX3_put := goodIn_ca (goodIn_ca (goodIn_r _ [7, 8, 9, 10, 6, 11, 12, 13, 14, 15, 16, 17, 18, 19, 20, 21, 22, 23, 24, 25, 26, 27, 28, 29, 30, 31, 32, 33, 34, 35, 36, 37, 38, 39, 40, 41, 42, 43, 44, 45, 46, 47, 48, 49, 50, 51, 52, 53, 54, 55, 56, 57, 58, 59, 60, 61, 62, 63, 64, 65, 68, 69, 70, 71, 72, 73, 74, 75, 76, 77, 78, 79, 80] (by decide +kernel) (by decide +kernel)) (goodIn_sub (fun _ h => List.mem_cons_of_mem _ (List.mem_append_left _ (List.mem_append_right _ h))) (by decide +kernel))) (goodIn_sub (fun _ h => List.mem_cons_of_mem _ (List.mem_append_right _ h)) (by decide +kernel))
set_option maxRecDepth 20000 in
theorem gL_put_X3_put : GoodIn wsL_put (wsV RL 7 RX3 yX3_put wsX3_put) := goodIn_app (goodIn_of _ (by decide +kernel)) ggL_put_X3_put
theorem dL_put_0 : decode cL_put 0 = .ok (.aload 4, 2) := by decide +kernel
theorem dL_put_2 : decode cL_put 2 = .ok (.aload_n 0, 1) := by decide +kernel
theorem dL_put_3 : decode cL_put 3 = .ok (.iload_n 1, 1) := by decide +kernel
theorem dL_put_4 : decode cL_put 4 = .ok (.iload_n 2, 1) := by decide +kernel
theorem dL_put_5 : decode cL_put 5 = .ok (.iload_n 3, 1) := by decide +kernel
theorem dL_put_6 : decode cL_put 6 = .ok (.invokevirtual 7, 3) := by decide +kernel
theorem dL_put_9 : decode cL_put 9 = .ok (.i2l, 1) := by decide +kernel
theorem dL_put_10 : decode cL_put 10 = .ok (.putfield 13, 3) := by decide +kernel
theorem dL_put_13 : decode cL_put 13 = .ok (.goto 11, 3) := by decide +kernel
theorem dL_put_16 : decode cL_put 16 = .ok (.astore 5, 2) := by decide +kernel
theorem dL_put_18 : decode cL_put 18 = .ok (.iconst 1, 1) := by decide +kernel
theorem dL_put_19 : decode cL_put 19 = .ok (.ireturn, 1) := by decide +kernel
theorem dL_put_20 : decode cL_put 20 = .ok (.astore 5, 2) := by decide +kernel
theorem dL_put_22 : decode cL_put 22 = .ok (.iconst 2, 1) := by decide +kernel
theorem dL_put_23 : decode cL_put 23 = .ok (.ireturn, 1) := by decide +kernel
theorem dL_put_24 : decode cL_put 24 = .ok (.iconst 0, 1) := by decide +kernel
theorem dL_put_25 : decode cL_put 25 = .ok (.ireturn, 1) := by decide +kernel
set_option maxRecDepth 20000 in
theorem ggL_putAbsent_X3_putAbsent : GoodIn wsL_putAbsent wsX3_putAbsent := goodIn_ca (goodIn_ca (goodIn_r _ [7, 8, 9, 10, 6, 11, 12, 13, 14, 15, 16, 17, 18, 19, 20, 21, 22, 23, 24, 25, 26, 27, 28, 29, 30, 31, 32, 33, 34, 35, 36, 37, 38, 39, 40, 41, 42, 43, 44, 45, 46, 47, 48, 49, 50, 51, 52, 53, 54, 55, 56, 57, 58, 59, 60, 61, 62, 63, 64, 65, 66, 67, 68, 69, 70, 71, 72, 73, 74, 75, 76, 77, 78, 79, 80, 81, 82, 85, 86, 87, 88, 89, 90, 91, 92, 93, 94, 95, 96, 97] (by decide +kernel) (by decide +kernel)) (goodIn_sub (fun _ h => List.mem_cons_of_mem _ (List.mem_append_left _ (List.mem_append_right _ h))) (by decide +kernel))) (goodIn_sub (fun _ h => List.mem_cons_of_mem _ (List.mem_append_right _ h)) (by decide +kernel))
set_option maxRecDepth 20000 in
theorem gL_putAbsent_X3_putAbsent : GoodIn wsL_putAbsent (wsV RL 23 RX3 yX3_putAbsent wsX3_putAbsent) := goodIn_app (goodIn_of _ (by decide +kernel)) ggL_putAbsent_X3_putAbsent
theorem dL_putAbsent_0 : decode cL_putAbsent 0 = .ok (.aload 4, 2) := by decide +kernel
theorem dL_putAbsent_2 : decode cL_putAbsent 2 = .ok (.aload_n 0, 1) := by decide +kernel
theorem dL_putAbsent_3 : decode cL_putAbsent 3 = .ok (.iload_n 1, 1) := by decide +kernel
theorem dL_putAbsent_4 : decode cL_putAbsent 4 = .ok (.iload_n 2, 1) := by decide +kernel
theorem dL_putAbsent_5 : decode cL_putAbsent 5 = .ok (.iload_n 3, 1) := by decide +kernel
theorem dL_putAbsent_6 : decode cL_putAbsent 6 = .ok (.invokevirtual 23, 3) := by decide +kernel
theorem dL_putAbsent_9 : decode cL_putAbsent 9 = .ok (.i2l, 1) := by decide +kernel
theorem dL_putAbsent_10 : decode cL_putAbsent 10 = .ok (.putfield 13, 3) := by decide +kernel
theorem dL_putAbsent_13 : decode cL_putAbsent 13 = .ok (.goto 11, 3) := by decide +kernel
theorem dL_putAbsent_16 : decode cL_putAbsent 16 = .ok (.astore 5, 2) := by decide +kernel
theorem dL_putAbsent_18 : decode cL_putAbsent 18 = .ok (.iconst 1, 1) := by decide +kernel
theorem dL_putAbsent_19 : decode cL_putAbsent 19 = .ok (.ireturn, 1) := by decide +kernel
theorem dL_putAbsent_20 : decode cL_putAbsent 20 = .ok (.astore 5, 2) := by decide +kernel
theorem dL_putAbsent_22 : decode cL_putAbsent 22 = .ok (.iconst 2, 1) := by decide +kernel
theorem dL_putAbsent_23 : decode cL_putAbsent 23 = .ok (.ireturn, 1) := by decide +kernel
theorem dL_putAbsent_24 : decode cL_putAbsent 24 = .ok (.iconst 0, 1) := by decide +kernel
theorem dL_putAbsent_25 : decode cL_putAbsent 25 = .ok (.ireturn, 1) := by decide +kernel
set_option maxRecDepth 20000 in
theorem ggL_replace_X3_replace : GoodIn wsL_replace wsX3_replace := goodIn_ca (goodIn_ca (goodIn_r _ [7, 8, 9, 10, 6, 11, 12, 13, 14, 15, 16, 17, 18, 19, 20, 21, 22, 23, 24, 25, 26, 27, 28, 29, 30, 31, 32, 33, 34, 35, 36, 37, 38, 39, 40, 41, 42, 43, 44, 45, 46, 47, 48, 49, 50, 51, 52, 53, 54, 55, 56, 57, 58, 59, 60, 61, 62, 63, 64, 65, 66, 67, 68, 69, 70, 71, 72, 73, 74, 75, 76, 77, 78, 79, 80, 81, 84, 85, 86, 87, 88, 89, 90, 91, 92, 93, 94, 95, 96] (by decide +kernel) (by decide +kernel)) (goodIn_sub (fun _ h => List.mem_cons_of_mem _ (List.mem_append_left _ (List.mem_append_right _ h))) (by decide +kernel))) (goodIn_sub (fun _ h => List.mem_cons_of_mem _ (List.mem_append_right _ h)) (by decide +kernel))
set_option maxRecDepth 20000 in
theorem gL_replace_X3_replace : GoodIn wsL_replace (wsV RL 26 RX3 yX3_replace wsX3_replace) := goodIn_app (goodIn_of _ (by decide +kernel)) ggL_replace_X3_replace
theorem dL_replace_0 : decode cL_replace 0 = .ok (.aload 4, 2) := by decide +kernel
theorem dL_replace_2 : decode cL_replace 2 = .ok (.aload_n 0, 1) := by decide +kernel
theorem dL_replace_3 : decode cL_replace 3 = .ok (.iload_n 1, 1) := by decide +kernel
theorem dL_replace_4 : decode cL_replace 4 = .ok (.iload_n 2, 1) := by decide +kernel
theorem dL_replace_5 : decode cL_replace 5 = .ok (.iload_n 3, 1) := by decide +kernel
theorem dL_replace_6 : decode cL_replace 6 = .ok (.invokevirtual 26, 3) := by decide +kernel
theorem dL_replace_9 : decode cL_replace 9 = .ok (.i2l, 1) := by decide +kernel
theorem dL_replace_10 : decode cL_replace 10 = .ok (.putfield 13, 3) := by decide +kernel
theorem dL_replace_13 : decode cL_replace 13 = .ok (.goto 11, 3) := by decide +kernel
theorem dL_replace_16 : decode cL_replace 16 = .ok (.astore 5, 2) := by decide +kernel
theorem dL_replace_18 : decode cL_replace 18 = .ok (.iconst 1, 1) := by decide +kernel
theorem dL_replace_19 : decode cL_replace 19 = .ok (.ireturn, 1) := by decide +kernel
theorem dL_replace_20 : decode cL_replace 20 = .ok (.astore 5, 2) := by decide +kernel
theorem dL_replace_22 : decode cL_replace 22 = .ok (.iconst 2, 1) := by decide +kernel
theorem dL_replace_23 : decode cL_replace 23 = .ok (.ireturn, 1) := by decide +kernel
theorem dL_replace_24 : decode cL_replace 24 = .ok (.iconst 0, 1) := by decide +kernel
theorem dL_replace_25 : decode cL_replace 25 = .ok (.ireturn, 1) := by decide +kernel
set_option maxRecDepth 20000 in
theorem ggL_swap_X3_swap : GoodIn wsL_swap wsX3_swap := goodIn_ca (goodIn_ca (goodIn_r _ [7, 8, 9, 10, 6, 11, 12, 13, 14, 15, 16, 17, 18, 19, 20, 21, 22, 23, 24, 25, 26, 27, 28, 29, 30, 31, 32, 33, 34, 35, 36, 37, 38, 39, 40, 41, 42, 43, 44, 45, 46, 47, 48, 49, 50, 51, 52, 53, 54, 55, 56, 57, 58, 59, 60, 61, 62, 63, 64, 65, 66, 67, 68, 69, 70, 71, 72, 73, 76, 77, 78, 79, 80, 81, 82, 83, 84, 85, 86, 87, 88] (by decide +kernel) (by decide +kernel)) (goodIn_sub (fun _ h => List.mem_cons_of_mem _ (List.mem_append_left _ (List.mem_append_right _ h))) (by decide +kernel))) (goodIn_sub (fun _ h => List.mem_cons_of_mem _ (List.mem_append_right _ h)) (by decide +kernel))
set_option maxRecDepth 20000 in
theorem gL_swap_X3_swap : GoodIn wsL_swap (wsV RL 29 RX3 yX3_swap wsX3_swap) := goodIn_app (goodIn_of _ (by decide +kernel)) ggL_swap_X3_swap
theorem dL_swap_0 : decode cL_swap 0 = .ok (.aload 5, 2) := by decide +kernel
theorem dL_swap_2 : decode cL_swap 2 = .ok (.aload_n 0, 1) := by decide +kernel
theorem dL_swap_3 : decode cL_swap 3 = .ok (.iload_n 1, 1) := by decide +kernel
theorem dL_swap_4 : decode cL_swap 4 = .ok (.iload_n 2, 1) := by decide +kernel
theorem dL_swap_5 : decode cL_swap 5 = .ok (.iload_n 3, 1) := by decide +kernel
theorem dL_swap_6 : decode cL_swap 6 = .ok (.iload 4, 2) := by decide +kernel
theorem dL_swap_8 : decode cL_swap 8 = .ok (.invokevirtual 29, 3) := by decide +kernel
theorem dL_swap_11 : decode cL_swap 11 = .ok (.ifCond .eq 7, 3) := by decide +kernel
theorem dL_swap_14 : decode cL_swap 14 = .ok (.lconst 1, 1) := by decide +kernel
theorem dL_swap_15 : decode cL_swap 15 = .ok (.goto 4, 3) := by decide +kernel
theorem dL_swap_18 : decode cL_swap 18 = .ok (.lconst 0, 1) := by decide +kernel
theorem dL_swap_19 : decode cL_swap 19 = .ok (.putfield 13, 3) := by decide +kernel
theorem dL_swap_22 : decode cL_swap 22 = .ok (.goto 11, 3) := by decide +kernel
theorem dL_swap_25 : decode cL_swap 25 = .ok (.astore 6, 2) := by decide +kernel
theorem dL_swap_27 : decode cL_swap 27 = .ok (.iconst 1, 1) := by decide +kernel
theorem dL_swap_28 : decode cL_swap 28 = .ok (.ireturn, 1) := by decide +kernel
theorem dL_swap_29 : decode cL_swap 29 = .ok (.astore 6, 2) := by decide +kernel
theorem dL_swap_31 : decode cL_swap 31 = .ok (.iconst 2, 1) := by decide +kernel
theorem dL_swap_32 : decode cL_swap 32 = .ok (.ireturn, 1) := by decide +kernel
theorem dL_swap_33 : decode cL_swap 33 = .ok (.iconst 0, 1) := by decide +kernel
theorem dL_swap_34 : decode cL_swap 34 = .ok (.ireturn, 1) := by decide +kernel
set_option maxRecDepth 20000 in
theorem ggL_strike_X3_strike : GoodIn wsL_strike wsX3_strike := goodIn_ca (goodIn_ca (goodIn_r _ [7, 8, 9, 10, 6, 11, 12, 13, 14, 15, 16, 17, 18, 19, 20, 21, 22, 23, 24, 25, 26, 27, 28, 29, 30, 31, 32, 33, 34, 35, 36, 37, 38, 39, 40, 41, 42, 43, 44, 45, 46, 47, 48, 49, 50, 51, 52, 53, 54, 55, 56, 57, 58, 59, 60, 61, 62, 63, 64, 65, 66, 67, 68, 69, 70, 73, 74, 75, 76, 77, 78, 79, 80, 81, 82, 83, 84, 85] (by decide +kernel) (by decide +kernel)) (goodIn_sub (fun _ h => List.mem_cons_of_mem _ (List.mem_append_left _ (List.mem_append_right _ h))) (by decide +kernel))) (goodIn_sub (fun _ h => List.mem_cons_of_mem _ (List.mem_append_right _ h)) (by decide +kernel))
set_option maxRecDepth 20000 in
theorem gL_strike_X3_strike : GoodIn wsL_strike (wsV RL 33 RX3 yX3_strike wsX3_strike) := goodIn_app (goodIn_of _ (by decide +kernel)) ggL_strike_X3_strike
theorem dL_strike_0 : decode cL_strike 0 = .ok (.aload_n 3, 1) := by decide +kernel
theorem dL_strike_1 : decode cL_strike 1 = .ok (.aload_n 0, 1) := by decide +kernel
theorem dL_strike_2 : decode cL_strike 2 = .ok (.iload_n 1, 1) := by decide +kernel
theorem dL_strike_3 : decode cL_strike 3 = .ok (.iload_n 2, 1) := by decide +kernel
theorem dL_strike_4 : decode cL_strike 4 = .ok (.invokevirtual 33, 3) := by decide +kernel
theorem dL_strike_7 : decode cL_strike 7 = .ok (.i2l, 1) := by decide +kernel
theorem dL_strike_8 : decode cL_strike 8 = .ok (.putfield 13, 3) := by decide +kernel
theorem dL_strike_11 : decode cL_strike 11 = .ok (.goto 11, 3) := by decide +kernel
theorem dL_strike_14 : decode cL_strike 14 = .ok (.astore 4, 2) := by decide +kernel
theorem dL_strike_16 : decode cL_strike 16 = .ok (.iconst 1, 1) := by decide +kernel
theorem dL_strike_17 : decode cL_strike 17 = .ok (.ireturn, 1) := by decide +kernel
theorem dL_strike_18 : decode cL_strike 18 = .ok (.astore 4, 2) := by decide +kernel
theorem dL_strike_20 : decode cL_strike 20 = .ok (.iconst 2, 1) := by decide +kernel
theorem dL_strike_21 : decode cL_strike 21 = .ok (.ireturn, 1) := by decide +kernel
theorem dL_strike_22 : decode cL_strike 22 = .ok (.iconst 0, 1) := by decide +kernel
theorem dL_strike_23 : decode cL_strike 23 = .ok (.ireturn, 1) := by decide +kernel
set_option maxRecDepth 20000 in
theorem ggL_strikePair_X3_strikePair : GoodIn wsL_strikePair wsX3_strikePair := goodIn_ca (goodIn_ca (goodIn_r _ [7, 8, 9, 10, 6, 11, 12, 13, 14, 15, 16, 17, 18, 19, 20, 21, 22, 23, 24, 25, 26, 27, 28, 29, 30, 31, 32, 33, 34, 35, 36, 37, 38, 39, 40, 41, 42, 43, 44, 45, 46, 47, 48, 49, 50, 51, 52, 53, 54, 55, 56, 57, 58, 59, 60, 61, 62, 63, 64, 65, 66, 67, 68, 69, 70, 71, 72, 73, 74, 75, 76, 77, 80, 81, 82, 83, 84, 85, 86, 87, 88, 89, 90, 91, 92] (by decide +kernel) (by decide +kernel)) (goodIn_sub (fun _ h => List.mem_cons_of_mem _ (List.mem_append_left _ (List.mem_append_right _ h))) (by decide +kernel))) (goodIn_sub (fun _ h => List.mem_cons_of_mem _ (List.mem_append_right _ h)) (by decide +kernel))
set_option maxRecDepth 20000 in
theorem gL_strikePair_X3_strikePair : GoodIn wsL_strikePair (wsV RL 37 RX3 yX3_strikePair wsX3_strikePair) := goodIn_app (goodIn_of _ (by decide +kernel)) ggL_strikePair_X3_strikePair
theorem dL_strikePair_0 : decode cL_strikePair 0 = .ok (.aload 4, 2) := by decide +kernel
theorem dL_strikePair_2 : decode cL_strikePair 2 = .ok (.aload_n 0, 1) := by decide +kernel
theorem dL_strikePair_3 : decode cL_strikePair 3 = .ok (.iload_n 1, 1) := by decide +kernel
theorem dL_strikePair_4 : decode cL_strikePair 4 = .ok (.iload_n 2, 1) := by decide +kernel
theorem dL_strikePair_5 : decode cL_strikePair 5 = .ok (.iload_n 3, 1) := by decide +kernel
theorem dL_strikePair_6 : decode cL_strikePair 6 = .ok (.invokevirtual 37, 3) := by decide +kernel
theorem dL_strikePair_9 : decode cL_strikePair 9 = .ok (.ifCond .eq 7, 3) := by decide +kernel
theorem dL_strikePair_12 : decode cL_strikePair 12 = .ok (.lconst 1, 1) := by decide +kernel
theorem dL_strikePair_13 : decode cL_strikePair 13 = .ok (.goto 4, 3) := by decide +kernel
theorem dL_strikePair_16 : decode cL_strikePair 16 = .ok (.lconst 0, 1) := by decide +kernel
theorem dL_strikePair_17 : decode cL_strikePair 17 = .ok (.putfield 13, 3) := by decide +kernel
theorem dL_strikePair_20 : decode cL_strikePair 20 = .ok (.goto 11, 3) := by decide +kernel
theorem dL_strikePair_23 : decode cL_strikePair 23 = .ok (.astore 5, 2) := by decide +kernel
theorem dL_strikePair_25 : decode cL_strikePair 25 = .ok (.iconst 1, 1) := by decide +kernel
theorem dL_strikePair_26 : decode cL_strikePair 26 = .ok (.ireturn, 1) := by decide +kernel
theorem dL_strikePair_27 : decode cL_strikePair 27 = .ok (.astore 5, 2) := by decide +kernel
theorem dL_strikePair_29 : decode cL_strikePair 29 = .ok (.iconst 2, 1) := by decide +kernel
theorem dL_strikePair_30 : decode cL_strikePair 30 = .ok (.ireturn, 1) := by decide +kernel
theorem dL_strikePair_31 : decode cL_strikePair 31 = .ok (.iconst 0, 1) := by decide +kernel
theorem dL_strikePair_32 : decode cL_strikePair 32 = .ok (.ireturn, 1) := by decide +kernel
set_option maxRecDepth 20000 in
theorem ggL_merge_X3_merge : GoodIn wsL_merge wsX3_merge := goodIn_ca (goodIn_ca (goodIn_r _ [7, 8, 9, 10, 6, 11, 12, 13, 14, 15, 16, 17, 18, 19, 20, 21, 22, 23, 24, 25, 26, 27, 28, 29, 30, 31, 32, 33, 34, 35, 36, 37, 38, 39, 40, 41, 42, 43, 44, 45, 46, 47, 48, 49, 50, 51, 52, 53, 54, 55, 56, 57, 58, 59, 60, 61, 62, 63, 64, 65, 66, 67, 68, 69, 70, 71, 72, 73, 74, 75, 76, 77, 78, 79, 80, 81, 82, 83, 84, 85, 86, 87, 88, 89, 90, 91, 92, 93, 94, 95, 96, 97, 98, 99, 100, 101, 102, 103, 104, 105, 106, 107, 110, 111, 112, 113, 114, 115, 116, 117, 118, 119, 120, 121, 122] (by decide +kernel) (by decide +kernel)) (goodIn_sub (fun _ h => List.mem_cons_of_mem _ (List.mem_append_left _ (List.mem_append_right _ h))) (by decide +kernel))) (goodIn_sub (fun _ h => List.mem_cons_of_mem _ (List.mem_append_right _ h)) (by decide +kernel))
set_option maxRecDepth 20000 in
theorem gL_merge_X3_merge : GoodIn wsL_merge (wsV RL 41 RX3 yX3_merge wsX3_merge) := goodIn_app (goodIn_of _ (by decide +kernel)) ggL_merge_X3_merge
theorem dL_merge_0 : decode cL_merge 0 = .ok (.aload 4, 2) := by decide +kernel
theorem dL_merge_2 : decode cL_merge 2 = .ok (.aload_n 0, 1) := by decide +kernel
theorem dL_merge_3 : decode cL_merge 3 = .ok (.iload_n 1, 1) := by decide +kernel
theorem dL_merge_4 : decode cL_merge 4 = .ok (.iload_n 2, 1) := by decide +kernel
theorem dL_merge_5 : decode cL_merge 5 = .ok (.iload_n 3, 1) := by decide +kernel
theorem dL_merge_6 : decode cL_merge 6 = .ok (.invokevirtual 41, 3) := by decide +kernel
theorem dL_merge_9 : decode cL_merge 9 = .ok (.i2l, 1) := by decide +kernel
theorem dL_merge_10 : decode cL_merge 10 = .ok (.putfield 13, 3) := by decide +kernel
theorem dL_merge_13 : decode cL_merge 13 = .ok (.goto 11, 3) := by decide +kernel
theorem dL_merge_16 : decode cL_merge 16 = .ok (.astore 5, 2) := by decide +kernel
theorem dL_merge_18 : decode cL_merge 18 = .ok (.iconst 1, 1) := by decide +kernel
theorem dL_merge_19 : decode cL_merge 19 = .ok (.ireturn, 1) := by decide +kernel
theorem dL_merge_20 : decode cL_merge 20 = .ok (.astore 5, 2) := by decide +kernel
theorem dL_merge_22 : decode cL_merge 22 = .ok (.iconst 2, 1) := by decide +kernel
theorem dL_merge_23 : decode cL_merge 23 = .ok (.ireturn, 1) := by decide +kernel
theorem dL_merge_24 : decode cL_merge 24 = .ok (.iconst 0, 1) := by decide +kernel
theorem dL_merge_25 : decode cL_merge 25 = .ok (.ireturn, 1) := by decide +kernel
set_option maxRecDepth 20000 in
theorem ggL_grow_X3_grow : GoodIn wsL_grow wsX3_grow := goodIn_ca (goodIn_ca (goodIn_r _ [7, 8, 9, 10, 6, 11, 12, 13, 14, 15, 16, 17, 18, 19, 20, 21, 22, 23, 24, 25, 26, 27, 28, 29, 30, 31, 32, 33, 34, 35, 36, 37, 38, 39, 40, 41, 42, 43, 44, 45, 46, 47, 48, 49, 50, 51, 52, 53, 54, 55, 56, 57, 58, 59, 60, 61, 62, 63, 64, 65, 66, 67, 68, 69, 70, 71, 72, 73, 74, 75, 76, 77, 78, 79, 80, 81, 82, 85, 86, 87, 88, 89, 90, 91, 92, 93, 94, 95, 96, 97] (by decide +kernel) (by decide +kernel)) (goodIn_sub (fun _ h => List.mem_cons_of_mem _ (List.mem_append_left _ (List.mem_append_right _ h))) (by decide +kernel))) (goodIn_sub (fun _ h => List.mem_cons_of_mem _ (List.mem_append_right _ h)) (by decide +kernel))
set_option maxRecDepth 20000 in
theorem gL_grow_X3_grow : GoodIn wsL_grow (wsV RL 44 RX3 yX3_grow wsX3_grow) := goodIn_app (goodIn_of _ (by decide +kernel)) ggL_grow_X3_grow
theorem dL_grow_0 : decode cL_grow 0 = .ok (.aload_n 3, 1) := by decide +kernel
theorem dL_grow_1 : decode cL_grow 1 = .ok (.aload_n 0, 1) := by decide +kernel
theorem dL_grow_2 : decode cL_grow 2 = .ok (.iload_n 1, 1) := by decide +kernel
theorem dL_grow_3 : decode cL_grow 3 = .ok (.iload_n 2, 1) := by decide +kernel
theorem dL_grow_4 : decode cL_grow 4 = .ok (.invokevirtual 44, 3) := by decide +kernel
theorem dL_grow_7 : decode cL_grow 7 = .ok (.i2l, 1) := by decide +kernel
theorem dL_grow_8 : decode cL_grow 8 = .ok (.putfield 13, 3) := by decide +kernel
theorem dL_grow_11 : decode cL_grow 11 = .ok (.goto 11, 3) := by decide +kernel
theorem dL_grow_14 : decode cL_grow 14 = .ok (.astore 4, 2) := by decide +kernel
theorem dL_grow_16 : decode cL_grow 16 = .ok (.iconst 1, 1) := by decide +kernel
theorem dL_grow_17 : decode cL_grow 17 = .ok (.ireturn, 1) := by decide +kernel
theorem dL_grow_18 : decode cL_grow 18 = .ok (.astore 4, 2) := by decide +kernel
theorem dL_grow_20 : decode cL_grow 20 = .ok (.iconst 2, 1) := by decide +kernel
theorem dL_grow_21 : decode cL_grow 21 = .ok (.ireturn, 1) := by decide +kernel
theorem dL_grow_22 : decode cL_grow 22 = .ok (.iconst 0, 1) := by decide +kernel
theorem dL_grow_23 : decode cL_grow 23 = .ok (.ireturn, 1) := by decide +kernel
set_option maxRecDepth 20000 in
theorem ggL_halve_X3_halve : GoodIn wsL_halve wsX3_halve := goodIn_ca (goodIn_ca (goodIn_r _ [7, 8, 9, 10, 6, 11, 12, 13, 14, 15, 16, 17, 18, 19, 20, 21, 22, 23, 24, 25, 26, 27, 28, 29, 30, 31, 32, 33, 34, 35, 36, 37, 38, 39, 40, 41, 42, 43, 44, 45, 46, 47, 48, 49, 50, 51, 52, 53, 54, 55, 56, 57, 58, 59, 60, 61, 62, 63, 64, 65, 66, 67, 68, 69, 70, 71, 72, 73, 74, 75, 76, 77, 78, 79, 80, 81, 82, 83, 84, 85, 86, 87, 88, 89, 90, 91, 92, 93, 94, 97, 98, 99, 100, 101, 102, 103, 104, 105, 106, 107, 108, 109] (by decide +kernel) (by decide +kernel)) (goodIn_sub (fun _ h => List.mem_cons_of_mem _ (List.mem_append_left _ (List.mem_append_right _ h))) (by decide +kernel))) (goodIn_sub (fun _ h => List.mem_cons_of_mem _ (List.mem_append_right _ h)) (by decide +kernel))
set_option maxRecDepth 20000 in
theorem gL_halve_X3_halve : GoodIn wsL_halve (wsV RL 47 RX3 yX3_halve wsX3_halve) := goodIn_app (goodIn_of _ (by decide +kernel)) ggL_halve_X3_halve
theorem dL_halve_0 : decode cL_halve 0 = .ok (.aload_n 3, 1) := by decide +kernel
theorem dL_halve_1 : decode cL_halve 1 = .ok (.aload_n 0, 1) := by decide +kernel
theorem dL_halve_2 : decode cL_halve 2 = .ok (.iload_n 1, 1) := by decide +kernel
theorem dL_halve_3 : decode cL_halve 3 = .ok (.iload_n 2, 1) := by decide +kernel
theorem dL_halve_4 : decode cL_halve 4 = .ok (.invokevirtual 47, 3) := by decide +kernel
theorem dL_halve_7 : decode cL_halve 7 = .ok (.i2l, 1) := by decide +kernel
theorem dL_halve_8 : decode cL_halve 8 = .ok (.putfield 13, 3) := by decide +kernel
theorem dL_halve_11 : decode cL_halve 11 = .ok (.goto 11, 3) := by decide +kernel
theorem dL_halve_14 : decode cL_halve 14 = .ok (.astore 4, 2) := by decide +kernel
theorem dL_halve_16 : decode cL_halve 16 = .ok (.iconst 1, 1) := by decide +kernel
theorem dL_halve_17 : decode cL_halve 17 = .ok (.ireturn, 1) := by decide +kernel
theorem dL_halve_18 : decode cL_halve 18 = .ok (.astore 4, 2) := by decide +kernel
theorem dL_halve_20 : decode cL_halve 20 = .ok (.iconst 2, 1) := by decide +kernel
theorem dL_halve_21 : decode cL_halve 21 = .ok (.ireturn, 1) := by decide +kernel
theorem dL_halve_22 : decode cL_halve 22 = .ok (.iconst 0, 1) := by decide +kernel
theorem dL_halve_23 : decode cL_halve 23 = .ok (.ireturn, 1) := by decide +kernel
set_option maxRecDepth 20000 in
theorem ggL_twice_X3_twice : GoodIn wsL_twice wsX3_twice := goodIn_ca (goodIn_ca (goodIn_r _ [7, 8, 9, 10, 6, 11, 12, 13, 14, 15, 16, 17, 18, 19, 20, 21, 22, 23, 24, 25, 26, 27, 28, 29, 30, 31, 32, 33, 34, 35, 36, 37, 38, 39, 40, 41, 42, 43, 44, 45, 46, 47, 48, 49, 50, 51, 52, 53, 54, 55, 56, 57, 58, 59, 60, 61, 62, 63, 64, 65, 66, 67, 68, 69, 70, 71, 72, 73, 74, 75, 76, 77, 78, 79, 80, 81, 82, 83, 84, 85, 86, 89, 90, 91, 92, 93, 94, 95, 96, 97, 98, 99, 100, 101] (by decide +kernel) (by decide +kernel)) (goodIn_sub (fun _ h => List.mem_cons_of_mem _ (List.mem_append_left _ (List.mem_append_right _ h))) (by decide +kernel))) (goodIn_sub (fun _ h => List.mem_cons_of_mem _ (List.mem_append_right _ h)) (by decide +kernel))
set_option maxRecDepth 20000 in
theorem gL_twice_X3_twice : GoodIn wsL_twice (wsV RL 50 RX3 yX3_twice wsX3_twice) := goodIn_app (goodIn_of _ (by decide +kernel)) ggL_twice_X3_twice
theorem dL_twice_0 : decode cL_twice 0 = .ok (.aload_n 3, 1) := by decide +kernel
theorem dL_twice_1 : decode cL_twice 1 = .ok (.aload_n 0, 1) := by decide +kernel
theorem dL_twice_2 : decode cL_twice 2 = .ok (.iload_n 1, 1) := by decide +kernel
theorem dL_twice_3 : decode cL_twice 3 = .ok (.iload_n 2, 1) := by decide +kernel
theorem dL_twice_4 : decode cL_twice 4 = .ok (.invokevirtual 50, 3) := by decide +kernel
theorem dL_twice_7 : decode cL_twice 7 = .ok (.i2l, 1) := by decide +kernel
theorem dL_twice_8 : decode cL_twice 8 = .ok (.putfield 13, 3) := by decide +kernel
theorem dL_twice_11 : decode cL_twice 11 = .ok (.goto 11, 3) := by decide +kernel
theorem dL_twice_14 : decode cL_twice 14 = .ok (.astore 4, 2) := by decide +kernel
theorem dL_twice_16 : decode cL_twice 16 = .ok (.iconst 1, 1) := by decide +kernel
theorem dL_twice_17 : decode cL_twice 17 = .ok (.ireturn, 1) := by decide +kernel
theorem dL_twice_18 : decode cL_twice 18 = .ok (.astore 4, 2) := by decide +kernel
theorem dL_twice_20 : decode cL_twice 20 = .ok (.iconst 2, 1) := by decide +kernel
theorem dL_twice_21 : decode cL_twice 21 = .ok (.ireturn, 1) := by decide +kernel
theorem dL_twice_22 : decode cL_twice 22 = .ok (.iconst 0, 1) := by decide +kernel
theorem dL_twice_23 : decode cL_twice 23 = .ok (.ireturn, 1) := by decide +kernel
set_option maxRecDepth 20000 in
theorem ggL_poll_X3_poll : GoodIn wsL_poll wsX3_poll := goodIn_ca (goodIn_r _ [6, 7, 8, 9, 5, 10, 11, 12, 13, 14, 15, 16, 17, 18, 19, 20, 21, 22, 23, 24, 25, 26, 27, 28, 29, 30, 31, 32, 33, 34, 35, 36, 37, 38, 39, 40, 41, 42, 43, 44, 45, 46, 47, 50, 51, 52, 53, 54, 55, 56, 57, 58, 59, 60, 61, 62] (by decide +kernel) (by decide +kernel)) (goodIn_sub (fun _ h => List.mem_cons_of_mem _ (List.mem_append_right _ h)) (by decide +kernel))
set_option maxRecDepth 20000 in
theorem gL_poll_X3_poll : GoodIn wsL_poll (wsV RL 53 RX3 yX3_poll wsX3_poll) := goodIn_app (goodIn_of _ (by decide +kernel)) ggL_poll_X3_poll
theorem dL_poll_0 : decode cL_poll 0 = .ok (.aload_n 3, 1) := by decide +kernel
theorem dL_poll_1 : decode cL_poll 1 = .ok (.aload_n 0, 1) := by decide +kernel
theorem dL_poll_2 : decode cL_poll 2 = .ok (.iload_n 1, 1) := by decide +kernel
theorem dL_poll_3 : decode cL_poll 3 = .ok (.iload_n 2, 1) := by decide +kernel
theorem dL_poll_4 : decode cL_poll 4 = .ok (.invokevirtual 53, 3) := by decide +kernel
theorem dL_poll_7 : decode cL_poll 7 = .ok (.i2l, 1) := by decide +kernel
theorem dL_poll_8 : decode cL_poll 8 = .ok (.putfield 13, 3) := by decide +kernel
theorem dL_poll_11 : decode cL_poll 11 = .ok (.goto 7, 3) := by decide +kernel
theorem dL_poll_14 : decode cL_poll 14 = .ok (.astore 4, 2) := by decide +kernel
theorem dL_poll_16 : decode cL_poll 16 = .ok (.iconst 1, 1) := by decide +kernel
theorem dL_poll_17 : decode cL_poll 17 = .ok (.ireturn, 1) := by decide +kernel
theorem dL_poll_18 : decode cL_poll 18 = .ok (.iconst 0, 1) := by decide +kernel
theorem dL_poll_19 : decode cL_poll 19 = .ok (.ireturn, 1) := by decide +kernel
set_option maxRecDepth 20000 in
theorem ggL_raise_X3_raise : GoodIn wsL_raise wsX3_raise := goodIn_ca (goodIn_ca (goodIn_r _ [7, 8, 9, 10, 11, 12, 6, 13, 14, 15, 16, 17, 18, 19, 20, 21, 22, 23, 24, 25, 26, 27, 28, 29, 30, 31, 32, 33, 34, 35, 36, 37, 38, 41, 42, 43, 44, 45, 46, 47, 48, 49, 50, 51, 52, 53] (by decide +kernel) (by decide +kernel)) (goodIn_sub (fun _ h => List.mem_cons_of_mem _ (List.mem_append_left _ (List.mem_append_right _ h))) (by decide +kernel))) (goodIn_sub (fun _ h => List.mem_cons_of_mem _ (List.mem_append_right _ h)) (by decide +kernel))
set_option maxRecDepth 20000 in
theorem gL_raise_X3_raise : GoodIn wsL_raise (wsV RL 57 RX3 yX3_raise wsX3_raise) := goodIn_app (goodIn_of _ (by decide +kernel)) ggL_raise_X3_raise
theorem dL_raise_0 : decode cL_raise 0 = .ok (.aload_n 3, 1) := by decide +kernel
theorem dL_raise_1 : decode cL_raise 1 = .ok (.aload_n 0, 1) := by decide +kernel
theorem dL_raise_2 : decode cL_raise 2 = .ok (.iload_n 1, 1) := by decide +kernel
theorem dL_raise_3 : decode cL_raise 3 = .ok (.iload_n 2, 1) := by decide +kernel
theorem dL_raise_4 : decode cL_raise 4 = .ok (.invokevirtual 57, 3) := by decide +kernel
theorem dL_raise_7 : decode cL_raise 7 = .ok (.i2l, 1) := by decide +kernel
theorem dL_raise_8 : decode cL_raise 8 = .ok (.putfield 13, 3) := by decide +kernel
theorem dL_raise_11 : decode cL_raise 11 = .ok (.goto 11, 3) := by decide +kernel
theorem dL_raise_14 : decode cL_raise 14 = .ok (.astore 4, 2) := by decide +kernel
theorem dL_raise_16 : decode cL_raise 16 = .ok (.iconst 1, 1) := by decide +kernel
theorem dL_raise_17 : decode cL_raise 17 = .ok (.ireturn, 1) := by decide +kernel
theorem dL_raise_18 : decode cL_raise 18 = .ok (.astore 4, 2) := by decide +kernel
theorem dL_raise_20 : decode cL_raise 20 = .ok (.iconst 2, 1) := by decide +kernel
theorem dL_raise_21 : decode cL_raise 21 = .ok (.ireturn, 1) := by decide +kernel
theorem dL_raise_22 : decode cL_raise 22 = .ok (.iconst 0, 1) := by decide +kernel
theorem dL_raise_23 : decode cL_raise 23 = .ok (.ireturn, 1) := by decide +kernel
set_option maxRecDepth 20000 in
theorem ggL_sift_X3_sift : GoodIn wsL_sift wsX3_sift := goodIn_ca (goodIn_ca (goodIn_r _ [7, 8, 9, 10, 11, 12, 6, 13, 14, 15, 16, 17, 18, 19, 20, 21, 22, 23, 24, 25, 26, 27, 28, 29, 30, 31, 32, 33, 34, 35, 36, 37, 38, 39, 40, 41, 42, 43, 44, 45, 46, 47, 48, 49, 50, 51, 52, 53, 54, 57, 58, 59, 60, 61, 62, 63, 64, 65, 66, 67, 68, 69] (by decide +kernel) (by decide +kernel)) (goodIn_sub (fun _ h => List.mem_cons_of_mem _ (List.mem_append_left _ (List.mem_append_right _ h))) (by decide +kernel))) (goodIn_sub (fun _ h => List.mem_cons_of_mem _ (List.mem_append_right _ h)) (by decide +kernel))
set_option maxRecDepth 20000 in
theorem gL_sift_X3_sift : GoodIn wsL_sift (wsV RL 60 RX3 yX3_sift wsX3_sift) := goodIn_app (goodIn_of _ (by decide +kernel)) ggL_sift_X3_sift
theorem dL_sift_0 : decode cL_sift 0 = .ok (.aload_n 3, 1) := by decide +kernel
theorem dL_sift_1 : decode cL_sift 1 = .ok (.aload_n 0, 1) := by decide +kernel
theorem dL_sift_2 : decode cL_sift 2 = .ok (.iload_n 1, 1) := by decide +kernel
theorem dL_sift_3 : decode cL_sift 3 = .ok (.iload_n 2, 1) := by decide +kernel
theorem dL_sift_4 : decode cL_sift 4 = .ok (.invokevirtual 60, 3) := by decide +kernel
theorem dL_sift_7 : decode cL_sift 7 = .ok (.i2l, 1) := by decide +kernel
theorem dL_sift_8 : decode cL_sift 8 = .ok (.putfield 13, 3) := by decide +kernel
theorem dL_sift_11 : decode cL_sift 11 = .ok (.goto 11, 3) := by decide +kernel
theorem dL_sift_14 : decode cL_sift 14 = .ok (.astore 4, 2) := by decide +kernel
theorem dL_sift_16 : decode cL_sift 16 = .ok (.iconst 1, 1) := by decide +kernel
theorem dL_sift_17 : decode cL_sift 17 = .ok (.ireturn, 1) := by decide +kernel
theorem dL_sift_18 : decode cL_sift 18 = .ok (.astore 4, 2) := by decide +kernel
theorem dL_sift_20 : decode cL_sift 20 = .ok (.iconst 2, 1) := by decide +kernel
theorem dL_sift_21 : decode cL_sift 21 = .ok (.ireturn, 1) := by decide +kernel
theorem dL_sift_22 : decode cL_sift 22 = .ok (.iconst 0, 1) := by decide +kernel
theorem dL_sift_23 : decode cL_sift 23 = .ok (.ireturn, 1) := by decide +kernel
set_option maxRecDepth 20000 in
theorem ggL_strikeValue_X3_strikeValue : GoodIn wsL_strikeValue wsX3_strikeValue := goodIn_ca (goodIn_ca (goodIn_ca (goodIn_r _ [8, 9, 10, 11, 12, 13, 7, 14, 15, 16, 17, 18, 19, 20, 21, 22, 23, 24, 25, 26, 27, 28, 29, 30, 31, 32, 33, 34, 35, 36, 37, 38, 39, 40, 41, 42, 43, 44, 45, 46, 47, 48, 49, 50, 51, 52, 53, 54, 55, 56, 57, 58, 59, 60, 63, 64, 65, 66, 67, 68, 69, 70, 71, 72, 73, 74, 75] (by decide +kernel) (by decide +kernel)) (goodIn_sub (fun _ h => List.mem_cons_of_mem _ (List.mem_append_left _ (List.mem_append_left _ (List.mem_append_right _ h)))) (by decide +kernel))) (goodIn_sub (fun _ h => List.mem_cons_of_mem _ (List.mem_append_left _ (List.mem_append_right _ h))) (by decide +kernel))) (goodIn_sub (fun _ h => List.mem_cons_of_mem _ (List.mem_append_right _ h)) (by decide +kernel))
set_option maxRecDepth 20000 in
theorem gL_strikeValue_X3_strikeValue : GoodIn wsL_strikeValue (wsV RL 63 RX3 yX3_strikeValue wsX3_strikeValue) := goodIn_app (goodIn_of _ (by decide +kernel)) ggL_strikeValue_X3_strikeValue
theorem dL_strikeValue_0 : decode cL_strikeValue 0 = .ok (.aload_n 3, 1) := by decide +kernel
theorem dL_strikeValue_1 : decode cL_strikeValue 1 = .ok (.aload_n 0, 1) := by decide +kernel
theorem dL_strikeValue_2 : decode cL_strikeValue 2 = .ok (.iload_n 1, 1) := by decide +kernel
theorem dL_strikeValue_3 : decode cL_strikeValue 3 = .ok (.iload_n 2, 1) := by decide +kernel
theorem dL_strikeValue_4 : decode cL_strikeValue 4 = .ok (.invokevirtual 63, 3) := by decide +kernel
theorem dL_strikeValue_7 : decode cL_strikeValue 7 = .ok (.ifCond .eq 7, 3) := by decide +kernel
theorem dL_strikeValue_10 : decode cL_strikeValue 10 = .ok (.lconst 1, 1) := by decide +kernel
theorem dL_strikeValue_11 : decode cL_strikeValue 11 = .ok (.goto 4, 3) := by decide +kernel
theorem dL_strikeValue_14 : decode cL_strikeValue 14 = .ok (.lconst 0, 1) := by decide +kernel
theorem dL_strikeValue_15 : decode cL_strikeValue 15 = .ok (.putfield 13, 3) := by decide +kernel
theorem dL_strikeValue_18 : decode cL_strikeValue 18 = .ok (.goto 15, 3) := by decide +kernel
theorem dL_strikeValue_21 : decode cL_strikeValue 21 = .ok (.astore 4, 2) := by decide +kernel
theorem dL_strikeValue_23 : decode cL_strikeValue 23 = .ok (.iconst 1, 1) := by decide +kernel
theorem dL_strikeValue_24 : decode cL_strikeValue 24 = .ok (.ireturn, 1) := by decide +kernel
theorem dL_strikeValue_25 : decode cL_strikeValue 25 = .ok (.astore 4, 2) := by decide +kernel
theorem dL_strikeValue_27 : decode cL_strikeValue 27 = .ok (.iconst 2, 1) := by decide +kernel
theorem dL_strikeValue_28 : decode cL_strikeValue 28 = .ok (.ireturn, 1) := by decide +kernel
theorem dL_strikeValue_29 : decode cL_strikeValue 29 = .ok (.astore 4, 2) := by decide +kernel
theorem dL_strikeValue_31 : decode cL_strikeValue 31 = .ok (.iconst 3, 1) := by decide +kernel
theorem dL_strikeValue_32 : decode cL_strikeValue 32 = .ok (.ireturn, 1) := by decide +kernel
theorem dL_strikeValue_33 : decode cL_strikeValue 33 = .ok (.iconst 0, 1) := by decide +kernel
theorem dL_strikeValue_34 : decode cL_strikeValue 34 = .ok (.ireturn, 1) := by decide +kernel
set_option maxRecDepth 20000 in
theorem ggL_clear_X3_clear : GoodIn wsL_clear wsX3_clear := goodIn_ca (goodIn_r _ [6, 7, 8, 9, 5, 10, 11, 12, 13, 14, 15, 16, 17, 18, 19, 20, 21, 22, 23, 24, 25, 26, 27, 28, 29, 30, 31, 32, 33, 34, 35, 38, 39, 40, 41, 42, 43, 44, 45, 46, 47, 48, 49, 50] (by decide +kernel) (by decide +kernel)) (goodIn_sub (fun _ h => List.mem_cons_of_mem _ (List.mem_append_right _ h)) (by decide +kernel))
set_option maxRecDepth 20000 in
theorem gL_clear_X3_clear : GoodIn wsL_clear (wsV RL 69 RX3 yX3_clear wsX3_clear) := goodIn_app (goodIn_of _ (by decide +kernel)) ggL_clear_X3_clear
theorem dL_clear_0 : decode cL_clear 0 = .ok (.aload_n 2, 1) := by decide +kernel
theorem dL_clear_1 : decode cL_clear 1 = .ok (.aload_n 0, 1) := by decide +kernel
theorem dL_clear_2 : decode cL_clear 2 = .ok (.iload_n 1, 1) := by decide +kernel
theorem dL_clear_3 : decode cL_clear 3 = .ok (.invokevirtual 69, 3) := by decide +kernel
theorem dL_clear_6 : decode cL_clear 6 = .ok (.i2l, 1) := by decide +kernel
theorem dL_clear_7 : decode cL_clear 7 = .ok (.putfield 13, 3) := by decide +kernel
theorem dL_clear_10 : decode cL_clear 10 = .ok (.goto 6, 3) := by decide +kernel
theorem dL_clear_13 : decode cL_clear 13 = .ok (.astore_n 3, 1) := by decide +kernel
theorem dL_clear_14 : decode cL_clear 14 = .ok (.iconst 1, 1) := by decide +kernel
theorem dL_clear_15 : decode cL_clear 15 = .ok (.ireturn, 1) := by decide +kernel
theorem dL_clear_16 : decode cL_clear 16 = .ok (.iconst 0, 1) := by decide +kernel
theorem dL_clear_17 : decode cL_clear 17 = .ok (.ireturn, 1) := by decide +kernel
set_option maxRecDepth 20000 in
theorem ggL_pour_X3_pour : GoodIn wsL_pour wsX3_pour := goodIn_ca (goodIn_ca (goodIn_r _ [7, 8, 9, 10, 6, 11, 12, 13, 14, 15, 16, 17, 18, 19, 20, 21, 22, 23, 24, 25, 26, 27, 28, 29, 30, 31, 32, 33, 34, 35, 36, 37, 38, 39, 40, 41, 42, 43, 44, 45, 46, 47, 48, 49, 50, 51, 52, 53, 54, 55, 56, 57, 58, 59, 60, 61, 62, 63, 64, 65, 66, 67, 68, 69, 70, 71, 72, 73, 74, 75, 78, 79, 80, 81, 82, 83, 84, 85, 86, 87, 88, 89, 90] (by decide +kernel) (by decide +kernel)) (goodIn_sub (fun _ h => List.mem_cons_of_mem _ (List.mem_append_left _ (List.mem_append_right _ h))) (by decide +kernel))) (goodIn_sub (fun _ h => List.mem_cons_of_mem _ (List.mem_append_right _ h)) (by decide +kernel))
set_option maxRecDepth 20000 in
theorem gL_pour_X3_pour : GoodIn wsL_pour (wsV RL 73 RX3 yX3_pour wsX3_pour) := goodIn_app (goodIn_of _ (by decide +kernel)) ggL_pour_X3_pour
theorem dL_pour_0 : decode cL_pour 0 = .ok (.aload_n 3, 1) := by decide +kernel
theorem dL_pour_1 : decode cL_pour 1 = .ok (.aload_n 0, 1) := by decide +kernel
theorem dL_pour_2 : decode cL_pour 2 = .ok (.iload_n 1, 1) := by decide +kernel
theorem dL_pour_3 : decode cL_pour 3 = .ok (.iload_n 2, 1) := by decide +kernel
theorem dL_pour_4 : decode cL_pour 4 = .ok (.invokevirtual 73, 3) := by decide +kernel
theorem dL_pour_7 : decode cL_pour 7 = .ok (.i2l, 1) := by decide +kernel
theorem dL_pour_8 : decode cL_pour 8 = .ok (.putfield 13, 3) := by decide +kernel
theorem dL_pour_11 : decode cL_pour 11 = .ok (.goto 11, 3) := by decide +kernel
theorem dL_pour_14 : decode cL_pour 14 = .ok (.astore 4, 2) := by decide +kernel
theorem dL_pour_16 : decode cL_pour 16 = .ok (.iconst 1, 1) := by decide +kernel
theorem dL_pour_17 : decode cL_pour 17 = .ok (.ireturn, 1) := by decide +kernel
theorem dL_pour_18 : decode cL_pour 18 = .ok (.astore 4, 2) := by decide +kernel
theorem dL_pour_20 : decode cL_pour 20 = .ok (.iconst 2, 1) := by decide +kernel
theorem dL_pour_21 : decode cL_pour 21 = .ok (.ireturn, 1) := by decide +kernel
theorem dL_pour_22 : decode cL_pour 22 = .ok (.iconst 0, 1) := by decide +kernel
theorem dL_pour_23 : decode cL_pour 23 = .ok (.ireturn, 1) := by decide +kernel
set_option maxRecDepth 20000 in
theorem ggL_copy_X3_copy : GoodIn wsL_copy wsX3_copy := goodIn_ca (goodIn_ca (goodIn_r _ [7, 8, 9, 10, 11, 6, 12, 13, 14, 15, 16, 17, 18, 19, 20, 21, 22, 23, 24, 25, 26, 27, 28, 29, 30, 31, 32, 33, 34, 35, 36, 37, 38, 39, 40, 41, 42, 43, 44, 45, 46, 47, 48, 49, 50, 51, 52, 53, 54, 55, 56, 57, 58, 59, 60, 61, 62, 63, 64, 65, 66, 67, 68, 69, 70, 71, 72, 73, 74, 75, 76, 77, 78, 79, 80, 81, 82, 83, 84, 85, 86, 87, 88, 89, 90, 91, 92, 93, 94, 95, 96, 97, 98, 99, 100, 101, 102, 103, 104, 107, 108, 109, 110, 111, 112, 113, 114, 115, 116, 117, 118, 119, 120, 121, 122, 123, 124, 125, 126, 127, 128, 129, 130, 131] (by decide +kernel) (by decide +kernel)) (goodIn_sub (fun _ h => List.mem_cons_of_mem _ (List.mem_append_left _ (List.mem_append_right _ h))) (by decide +kernel))) (goodIn_sub (fun _ h => List.mem_cons_of_mem _ (List.mem_append_right _ h)) (by decide +kernel))
set_option maxRecDepth 20000 in
theorem gL_copy_X3_copy : GoodIn wsL_copy (wsV RL 76 RX3 yX3_copy wsX3_copy) := goodIn_app (goodIn_of _ (by decide +kernel)) ggL_copy_X3_copy
theorem dL_copy_0 : decode cL_copy 0 = .ok (.aload_n 3, 1) := by decide +kernel
theorem dL_copy_1 : decode cL_copy 1 = .ok (.aload_n 0, 1) := by decide +kernel
theorem dL_copy_2 : decode cL_copy 2 = .ok (.iload_n 1, 1) := by decide +kernel
theorem dL_copy_3 : decode cL_copy 3 = .ok (.iload_n 2, 1) := by decide +kernel
theorem dL_copy_4 : decode cL_copy 4 = .ok (.invokevirtual 76, 3) := by decide +kernel
theorem dL_copy_7 : decode cL_copy 7 = .ok (.i2l, 1) := by decide +kernel
theorem dL_copy_8 : decode cL_copy 8 = .ok (.putfield 13, 3) := by decide +kernel
theorem dL_copy_11 : decode cL_copy 11 = .ok (.goto 11, 3) := by decide +kernel
theorem dL_copy_14 : decode cL_copy 14 = .ok (.astore 4, 2) := by decide +kernel
theorem dL_copy_16 : decode cL_copy 16 = .ok (.iconst 1, 1) := by decide +kernel
theorem dL_copy_17 : decode cL_copy 17 = .ok (.ireturn, 1) := by decide +kernel
theorem dL_copy_18 : decode cL_copy 18 = .ok (.astore 4, 2) := by decide +kernel
theorem dL_copy_20 : decode cL_copy 20 = .ok (.iconst 2, 1) := by decide +kernel
theorem dL_copy_21 : decode cL_copy 21 = .ok (.ireturn, 1) := by decide +kernel
theorem dL_copy_22 : decode cL_copy 22 = .ok (.iconst 0, 1) := by decide +kernel
theorem dL_copy_23 : decode cL_copy 23 = .ok (.ireturn, 1) := by decide +kernel
set_option maxRecDepth 20000 in
theorem ggL_thin_X3_thin : GoodIn wsL_thin wsX3_thin := goodIn_ca (goodIn_ca (goodIn_r _ [7, 8, 9, 10, 6, 11, 12, 13, 14, 15, 16, 17, 18, 19, 20, 21, 22, 23, 24, 25, 26, 27, 28, 29, 30, 31, 32, 33, 34, 35, 36, 37, 38, 39, 40, 41, 42, 43, 44, 45, 46, 47, 48, 49, 50, 51, 52, 53, 54, 55, 56, 57, 58, 59, 60, 61, 62, 63, 64, 65, 66, 67, 68, 69, 70, 71, 72, 73, 74, 75, 76, 77, 78, 81, 82, 83, 84, 85, 86, 87, 88, 89, 90, 91, 92, 93] (by decide +kernel) (by decide +kernel)) (goodIn_sub (fun _ h => List.mem_cons_of_mem _ (List.mem_append_left _ (List.mem_append_right _ h))) (by decide +kernel))) (goodIn_sub (fun _ h => List.mem_cons_of_mem _ (List.mem_append_right _ h)) (by decide +kernel))
set_option maxRecDepth 20000 in
theorem gL_thin_X3_thin : GoodIn wsL_thin (wsV RL 79 RX3 yX3_thin wsX3_thin) := goodIn_app (goodIn_of _ (by decide +kernel)) ggL_thin_X3_thin
theorem dL_thin_0 : decode cL_thin 0 = .ok (.aload 4, 2) := by decide +kernel
theorem dL_thin_2 : decode cL_thin 2 = .ok (.aload_n 0, 1) := by decide +kernel
theorem dL_thin_3 : decode cL_thin 3 = .ok (.iload_n 1, 1) := by decide +kernel
theorem dL_thin_4 : decode cL_thin 4 = .ok (.iload_n 2, 1) := by decide +kernel
theorem dL_thin_5 : decode cL_thin 5 = .ok (.iload_n 3, 1) := by decide +kernel
theorem dL_thin_6 : decode cL_thin 6 = .ok (.invokevirtual 79, 3) := by decide +kernel
theorem dL_thin_9 : decode cL_thin 9 = .ok (.i2l, 1) := by decide +kernel
theorem dL_thin_10 : decode cL_thin 10 = .ok (.putfield 13, 3) := by decide +kernel
theorem dL_thin_13 : decode cL_thin 13 = .ok (.goto 11, 3) := by decide +kernel
theorem dL_thin_16 : decode cL_thin 16 = .ok (.astore 5, 2) := by decide +kernel
theorem dL_thin_18 : decode cL_thin 18 = .ok (.iconst 1, 1) := by decide +kernel
theorem dL_thin_19 : decode cL_thin 19 = .ok (.ireturn, 1) := by decide +kernel
theorem dL_thin_20 : decode cL_thin 20 = .ok (.astore 5, 2) := by decide +kernel
theorem dL_thin_22 : decode cL_thin 22 = .ok (.iconst 2, 1) := by decide +kernel
theorem dL_thin_23 : decode cL_thin 23 = .ok (.ireturn, 1) := by decide +kernel
theorem dL_thin_24 : decode cL_thin 24 = .ok (.iconst 0, 1) := by decide +kernel
theorem dL_thin_25 : decode cL_thin 25 = .ok (.ireturn, 1) := by decide +kernel
set_option maxRecDepth 20000 in
theorem ggL_head_X3_head : GoodIn wsL_head wsX3_head := goodIn_ca (goodIn_ca (goodIn_ca (goodIn_r _ [8, 9, 10, 11, 12, 13, 14, 7, 15, 16, 17, 18, 19, 20, 21, 22, 23, 24, 25, 26, 27, 28, 29, 30, 31, 32, 33, 34, 35, 36, 37, 38, 39, 40, 41, 42, 43, 44, 45, 46, 47, 48, 49, 50, 51, 52, 53, 56, 57, 58, 59, 60, 61, 62, 63, 64, 65, 66, 67, 68, 69, 70, 71, 72, 73, 74, 75] (by decide +kernel) (by decide +kernel)) (goodIn_sub (fun _ h => List.mem_cons_of_mem _ (List.mem_append_left _ (List.mem_append_left _ (List.mem_append_right _ h)))) (by decide +kernel))) (goodIn_sub (fun _ h => List.mem_cons_of_mem _ (List.mem_append_left _ (List.mem_append_right _ h))) (by decide +kernel))) (goodIn_sub (fun _ h => List.mem_cons_of_mem _ (List.mem_append_right _ h)) (by decide +kernel))
set_option maxRecDepth 20000 in
theorem gL_head_X3_head : GoodIn wsL_head (wsV RL 83 RX3 yX3_head wsX3_head) := goodIn_app (goodIn_of _ (by decide +kernel)) ggL_head_X3_head
theorem dL_head_0 : decode cL_head 0 = .ok (.aload 4, 2) := by decide +kernel
theorem dL_head_2 : decode cL_head 2 = .ok (.aload_n 0, 1) := by decide +kernel
theorem dL_head_3 : decode cL_head 3 = .ok (.iload_n 1, 1) := by decide +kernel
theorem dL_head_4 : decode cL_head 4 = .ok (.iload_n 2, 1) := by decide +kernel
theorem dL_head_5 : decode cL_head 5 = .ok (.iload_n 3, 1) := by decide +kernel
theorem dL_head_6 : decode cL_head 6 = .ok (.invokevirtual 83, 3) := by decide +kernel
theorem dL_head_9 : decode cL_head 9 = .ok (.i2l, 1) := by decide +kernel
theorem dL_head_10 : decode cL_head 10 = .ok (.putfield 13, 3) := by decide +kernel
theorem dL_head_13 : decode cL_head 13 = .ok (.goto 15, 3) := by decide +kernel
theorem dL_head_16 : decode cL_head 16 = .ok (.astore 5, 2) := by decide +kernel
theorem dL_head_18 : decode cL_head 18 = .ok (.iconst 1, 1) := by decide +kernel
theorem dL_head_19 : decode cL_head 19 = .ok (.ireturn, 1) := by decide +kernel
theorem dL_head_20 : decode cL_head 20 = .ok (.astore 5, 2) := by decide +kernel
theorem dL_head_22 : decode cL_head 22 = .ok (.iconst 2, 1) := by decide +kernel
theorem dL_head_23 : decode cL_head 23 = .ok (.ireturn, 1) := by decide +kernel
theorem dL_head_24 : decode cL_head 24 = .ok (.astore 5, 2) := by decide +kernel
theorem dL_head_26 : decode cL_head 26 = .ok (.iconst 3, 1) := by decide +kernel
theorem dL_head_27 : decode cL_head 27 = .ok (.ireturn, 1) := by decide +kernel
theorem dL_head_28 : decode cL_head 28 = .ok (.iconst 0, 1) := by decide +kernel
theorem dL_head_29 : decode cL_head 29 = .ok (.ireturn, 1) := by decide +kernel
set_option maxRecDepth 20000 in
theorem ggL_tail_X3_tail : GoodIn wsL_tail wsX3_tail := goodIn_ca (goodIn_ca (goodIn_ca (goodIn_r _ [8, 9, 10, 11, 12, 13, 14, 7, 15, 16, 17, 18, 19, 20, 21, 22, 23, 24, 25, 26, 27, 28, 29, 30, 31, 32, 33, 34, 35, 36, 37, 38, 39, 40, 41, 42, 43, 44, 45, 46, 47, 48, 49, 50, 51, 52, 53, 56, 57, 58, 59, 60, 61, 62, 63, 64, 65, 66, 67, 68, 69, 70, 71, 72, 73, 74, 75] (by decide +kernel) (by decide +kernel)) (goodIn_sub (fun _ h => List.mem_cons_of_mem _ (List.mem_append_left _ (List.mem_append_left _ (List.mem_append_right _ h)))) (by decide +kernel))) (goodIn_sub (fun _ h => List.mem_cons_of_mem _ (List.mem_append_left _ (List.mem_append_right _ h))) (by decide +kernel))) (goodIn_sub (fun _ h => List.mem_cons_of_mem _ (List.mem_append_right _ h)) (by decide +kernel))
set_option maxRecDepth 20000 in
theorem gL_tail_X3_tail : GoodIn wsL_tail (wsV RL 86 RX3 yX3_tail wsX3_tail) := goodIn_app (goodIn_of _ (by decide +kernel)) ggL_tail_X3_tail
theorem dL_tail_0 : decode cL_tail 0 = .ok (.aload 4, 2) := by decide +kernel
theorem dL_tail_2 : decode cL_tail 2 = .ok (.aload_n 0, 1) := by decide +kernel
theorem dL_tail_3 : decode cL_tail 3 = .ok (.iload_n 1, 1) := by decide +kernel
theorem dL_tail_4 : decode cL_tail 4 = .ok (.iload_n 2, 1) := by decide +kernel
theorem dL_tail_5 : decode cL_tail 5 = .ok (.iload_n 3, 1) := by decide +kernel
theorem dL_tail_6 : decode cL_tail 6 = .ok (.invokevirtual 86, 3) := by decide +kernel
theorem dL_tail_9 : decode cL_tail 9 = .ok (.i2l, 1) := by decide +kernel
theorem dL_tail_10 : decode cL_tail 10 = .ok (.putfield 13, 3) := by decide +kernel
theorem dL_tail_13 : decode cL_tail 13 = .ok (.goto 15, 3) := by decide +kernel
theorem dL_tail_16 : decode cL_tail 16 = .ok (.astore 5, 2) := by decide +kernel
theorem dL_tail_18 : decode cL_tail 18 = .ok (.iconst 1, 1) := by decide +kernel
theorem dL_tail_19 : decode cL_tail 19 = .ok (.ireturn, 1) := by decide +kernel
theorem dL_tail_20 : decode cL_tail 20 = .ok (.astore 5, 2) := by decide +kernel
theorem dL_tail_22 : decode cL_tail 22 = .ok (.iconst 2, 1) := by decide +kernel
theorem dL_tail_23 : decode cL_tail 23 = .ok (.ireturn, 1) := by decide +kernel
theorem dL_tail_24 : decode cL_tail 24 = .ok (.astore 5, 2) := by decide +kernel
theorem dL_tail_26 : decode cL_tail 26 = .ok (.iconst 3, 1) := by decide +kernel
theorem dL_tail_27 : decode cL_tail 27 = .ok (.ireturn, 1) := by decide +kernel
theorem dL_tail_28 : decode cL_tail 28 = .ok (.iconst 0, 1) := by decide +kernel
theorem dL_tail_29 : decode cL_tail 29 = .ok (.ireturn, 1) := by decide +kernel
set_option maxRecDepth 20000 in
theorem ggL_sub_X3_sub : GoodIn wsL_sub wsX3_sub := goodIn_ca (goodIn_ca (goodIn_ca (goodIn_r _ [8, 9, 10, 11, 12, 13, 14, 7, 15, 16, 17, 18, 19, 20, 21, 22, 23, 24, 25, 26, 27, 28, 29, 30, 31, 32, 33, 34, 35, 36, 37, 38, 39, 40, 41, 42, 43, 44, 45, 46, 47, 48, 49, 50, 51, 52, 53, 54, 55, 56, 57, 58, 59, 60, 61, 62, 63, 64, 65, 66, 69, 70, 71, 72, 73, 74, 75, 76, 77, 78, 79, 80, 81, 82, 83, 84, 85, 86, 87, 88] (by decide +kernel) (by decide +kernel)) (goodIn_sub (fun _ h => List.mem_cons_of_mem _ (List.mem_append_left _ (List.mem_append_left _ (List.mem_append_right _ h)))) (by decide +kernel))) (goodIn_sub (fun _ h => List.mem_cons_of_mem _ (List.mem_append_left _ (List.mem_append_right _ h))) (by decide +kernel))) (goodIn_sub (fun _ h => List.mem_cons_of_mem _ (List.mem_append_right _ h)) (by decide +kernel))
set_option maxRecDepth 20000 in
theorem gL_sub_X3_sub : GoodIn wsL_sub (wsV RL 89 RX3 yX3_sub wsX3_sub) := goodIn_app (goodIn_of _ (by decide +kernel)) ggL_sub_X3_sub
theorem dL_sub_0 : decode cL_sub 0 = .ok (.aload 6, 2) := by decide +kernel
theorem dL_sub_2 : decode cL_sub 2 = .ok (.aload_n 0, 1) := by decide +kernel
theorem dL_sub_3 : decode cL_sub 3 = .ok (.iload_n 1, 1) := by decide +kernel
theorem dL_sub_4 : decode cL_sub 4 = .ok (.iload_n 2, 1) := by decide +kernel
theorem dL_sub_5 : decode cL_sub 5 = .ok (.iload_n 3, 1) := by decide +kernel
theorem dL_sub_6 : decode cL_sub 6 = .ok (.iload 4, 2) := by decide +kernel
theorem dL_sub_8 : decode cL_sub 8 = .ok (.iload 5, 2) := by decide +kernel
theorem dL_sub_10 : decode cL_sub 10 = .ok (.invokevirtual 89, 3) := by decide +kernel
theorem dL_sub_13 : decode cL_sub 13 = .ok (.i2l, 1) := by decide +kernel
theorem dL_sub_14 : decode cL_sub 14 = .ok (.putfield 13, 3) := by decide +kernel
theorem dL_sub_17 : decode cL_sub 17 = .ok (.goto 15, 3) := by decide +kernel
theorem dL_sub_20 : decode cL_sub 20 = .ok (.astore 7, 2) := by decide +kernel
theorem dL_sub_22 : decode cL_sub 22 = .ok (.iconst 1, 1) := by decide +kernel
theorem dL_sub_23 : decode cL_sub 23 = .ok (.ireturn, 1) := by decide +kernel
theorem dL_sub_24 : decode cL_sub 24 = .ok (.astore 7, 2) := by decide +kernel
theorem dL_sub_26 : decode cL_sub 26 = .ok (.iconst 2, 1) := by decide +kernel
theorem dL_sub_27 : decode cL_sub 27 = .ok (.ireturn, 1) := by decide +kernel
theorem dL_sub_28 : decode cL_sub 28 = .ok (.astore 7, 2) := by decide +kernel
theorem dL_sub_30 : decode cL_sub 30 = .ok (.iconst 3, 1) := by decide +kernel
theorem dL_sub_31 : decode cL_sub 31 = .ok (.ireturn, 1) := by decide +kernel
theorem dL_sub_32 : decode cL_sub 32 = .ok (.iconst 0, 1) := by decide +kernel
theorem dL_sub_33 : decode cL_sub 33 = .ok (.ireturn, 1) := by decide +kernel
set_option maxRecDepth 20000 in
theorem ggL_part_X3_part : GoodIn wsL_part wsX3_part := goodIn_ca (goodIn_ca (goodIn_ca (goodIn_r _ [8, 9, 10, 11, 12, 13, 14, 7, 15, 16, 17, 18, 19, 20, 21, 22, 23, 24, 25, 26, 27, 28, 29, 30, 31, 32, 33, 34, 35, 36, 37, 38, 39, 40, 41, 42, 43, 44, 45, 46, 47, 48, 49, 50, 51, 52, 53, 54, 55, 56, 57, 58, 59, 60, 61, 62, 63, 64, 65, 66, 67, 68, 69, 70, 71, 72, 73, 76, 77, 78, 79, 80, 81, 82, 83, 84, 85, 86, 87, 88, 89, 90, 91, 92, 93, 94, 95] (by decide +kernel) (by decide +kernel)) (goodIn_sub (fun _ h => List.mem_cons_of_mem _ (List.mem_append_left _ (List.mem_append_left _ (List.mem_append_right _ h)))) (by decide +kernel))) (goodIn_sub (fun _ h => List.mem_cons_of_mem _ (List.mem_append_left _ (List.mem_append_right _ h))) (by decide +kernel))) (goodIn_sub (fun _ h => List.mem_cons_of_mem _ (List.mem_append_right _ h)) (by decide +kernel))
set_option maxRecDepth 20000 in
theorem gL_part_X3_part : GoodIn wsL_part (wsV RL 93 RX3 yX3_part wsX3_part) := goodIn_app (goodIn_of _ (by decide +kernel)) ggL_part_X3_part
theorem dL_part_0 : decode cL_part 0 = .ok (.aload 6, 2) := by decide +kernel
theorem dL_part_2 : decode cL_part 2 = .ok (.aload_n 0, 1) := by decide +kernel
theorem dL_part_3 : decode cL_part 3 = .ok (.iload_n 1, 1) := by decide +kernel
theorem dL_part_4 : decode cL_part 4 = .ok (.iload_n 2, 1) := by decide +kernel
theorem dL_part_5 : decode cL_part 5 = .ok (.iload_n 3, 1) := by decide +kernel
theorem dL_part_6 : decode cL_part 6 = .ok (.iload 4, 2) := by decide +kernel
theorem dL_part_8 : decode cL_part 8 = .ok (.iload 5, 2) := by decide +kernel
theorem dL_part_10 : decode cL_part 10 = .ok (.invokevirtual 93, 3) := by decide +kernel
theorem dL_part_13 : decode cL_part 13 = .ok (.i2l, 1) := by decide +kernel
theorem dL_part_14 : decode cL_part 14 = .ok (.putfield 13, 3) := by decide +kernel
theorem dL_part_17 : decode cL_part 17 = .ok (.goto 15, 3) := by decide +kernel
theorem dL_part_20 : decode cL_part 20 = .ok (.astore 7, 2) := by decide +kernel
theorem dL_part_22 : decode cL_part 22 = .ok (.iconst 1, 1) := by decide +kernel
theorem dL_part_23 : decode cL_part 23 = .ok (.ireturn, 1) := by decide +kernel
theorem dL_part_24 : decode cL_part 24 = .ok (.astore 7, 2) := by decide +kernel
theorem dL_part_26 : decode cL_part 26 = .ok (.iconst 2, 1) := by decide +kernel
theorem dL_part_27 : decode cL_part 27 = .ok (.ireturn, 1) := by decide +kernel
theorem dL_part_28 : decode cL_part 28 = .ok (.astore 7, 2) := by decide +kernel
theorem dL_part_30 : decode cL_part 30 = .ok (.iconst 3, 1) := by decide +kernel
theorem dL_part_31 : decode cL_part 31 = .ok (.ireturn, 1) := by decide +kernel
theorem dL_part_32 : decode cL_part 32 = .ok (.iconst 0, 1) := by decide +kernel
theorem dL_part_33 : decode cL_part 33 = .ok (.ireturn, 1) := by decide +kernel
set_option maxRecDepth 20000 in
theorem ggL_shut_X3_shut : GoodIn wsL_shut wsX3_shut := goodIn_ca (goodIn_r _ [6, 7, 8, 9, 10, 5, 11, 12, 13, 14, 15, 16, 17, 18, 19, 20, 21, 22, 23, 24, 25, 26, 27, 28, 29, 30, 31, 32, 33, 34, 35, 36, 37, 38, 39, 40, 41, 44, 45, 46, 47, 48, 49, 50, 51, 52, 53, 54, 55, 56, 57, 58, 59, 60, 61, 62, 63] (by decide +kernel) (by decide +kernel)) (goodIn_sub (fun _ h => List.mem_cons_of_mem _ (List.mem_append_right _ h)) (by decide +kernel))
set_option maxRecDepth 20000 in
theorem gL_shut_X3_shut : GoodIn wsL_shut (wsV RL 96 RX3 yX3_shut wsX3_shut) := goodIn_app (goodIn_of _ (by decide +kernel)) ggL_shut_X3_shut
theorem dL_shut_0 : decode cL_shut 0 = .ok (.aload_n 2, 1) := by decide +kernel
theorem dL_shut_1 : decode cL_shut 1 = .ok (.aload_n 0, 1) := by decide +kernel
theorem dL_shut_2 : decode cL_shut 2 = .ok (.iload_n 1, 1) := by decide +kernel
theorem dL_shut_3 : decode cL_shut 3 = .ok (.invokevirtual 96, 3) := by decide +kernel
theorem dL_shut_6 : decode cL_shut 6 = .ok (.i2l, 1) := by decide +kernel
theorem dL_shut_7 : decode cL_shut 7 = .ok (.putfield 13, 3) := by decide +kernel
theorem dL_shut_10 : decode cL_shut 10 = .ok (.goto 6, 3) := by decide +kernel
theorem dL_shut_13 : decode cL_shut 13 = .ok (.astore_n 3, 1) := by decide +kernel
theorem dL_shut_14 : decode cL_shut 14 = .ok (.iconst 1, 1) := by decide +kernel
theorem dL_shut_15 : decode cL_shut 15 = .ok (.ireturn, 1) := by decide +kernel
theorem dL_shut_16 : decode cL_shut 16 = .ok (.iconst 0, 1) := by decide +kernel
theorem dL_shut_17 : decode cL_shut 17 = .ok (.ireturn, 1) := by decide +kernel
set_option maxRecDepth 20000 in
theorem ggL_viewPut_X3_viewPut : GoodIn wsL_viewPut wsX3_viewPut := goodIn_ca (goodIn_ca (goodIn_r _ [7, 8, 9, 10, 6, 11, 12, 13, 14, 15, 16, 17, 18, 19, 20, 21, 22, 23, 24, 25, 26, 27, 28, 29, 30, 31, 32, 33, 34, 35, 36, 37, 38, 39, 40, 41, 42, 43, 44, 45, 46, 47, 48, 49, 50, 51, 52, 53, 54, 55, 56, 57, 58, 59, 60, 61, 62, 63, 64, 65, 66, 67, 68, 69, 70, 71, 72, 73, 74, 75, 76, 77, 78, 81, 82, 83, 84, 85, 86, 87, 88, 89, 90, 91, 92, 93, 94, 95, 96, 97, 98, 99, 100] (by decide +kernel) (by decide +kernel)) (goodIn_sub (fun _ h => List.mem_cons_of_mem _ (List.mem_append_left _ (List.mem_append_right _ h))) (by decide +kernel))) (goodIn_sub (fun _ h => List.mem_cons_of_mem _ (List.mem_append_right _ h)) (by decide +kernel))
set_option maxRecDepth 20000 in
theorem gL_viewPut_X3_viewPut : GoodIn wsL_viewPut (wsV RL 99 RX3 yX3_viewPut wsX3_viewPut) := goodIn_app (goodIn_of _ (by decide +kernel)) ggL_viewPut_X3_viewPut
theorem dL_viewPut_0 : decode cL_viewPut 0 = .ok (.aload 4, 2) := by decide +kernel
theorem dL_viewPut_2 : decode cL_viewPut 2 = .ok (.aload_n 0, 1) := by decide +kernel
theorem dL_viewPut_3 : decode cL_viewPut 3 = .ok (.iload_n 1, 1) := by decide +kernel
theorem dL_viewPut_4 : decode cL_viewPut 4 = .ok (.iload_n 2, 1) := by decide +kernel
theorem dL_viewPut_5 : decode cL_viewPut 5 = .ok (.iload_n 3, 1) := by decide +kernel
theorem dL_viewPut_6 : decode cL_viewPut 6 = .ok (.invokevirtual 99, 3) := by decide +kernel
theorem dL_viewPut_9 : decode cL_viewPut 9 = .ok (.i2l, 1) := by decide +kernel
theorem dL_viewPut_10 : decode cL_viewPut 10 = .ok (.putfield 13, 3) := by decide +kernel
theorem dL_viewPut_13 : decode cL_viewPut 13 = .ok (.goto 11, 3) := by decide +kernel
theorem dL_viewPut_16 : decode cL_viewPut 16 = .ok (.astore 5, 2) := by decide +kernel
theorem dL_viewPut_18 : decode cL_viewPut 18 = .ok (.iconst 1, 1) := by decide +kernel
theorem dL_viewPut_19 : decode cL_viewPut 19 = .ok (.ireturn, 1) := by decide +kernel
theorem dL_viewPut_20 : decode cL_viewPut 20 = .ok (.astore 5, 2) := by decide +kernel
theorem dL_viewPut_22 : decode cL_viewPut 22 = .ok (.iconst 2, 1) := by decide +kernel
theorem dL_viewPut_23 : decode cL_viewPut 23 = .ok (.ireturn, 1) := by decide +kernel
theorem dL_viewPut_24 : decode cL_viewPut 24 = .ok (.iconst 0, 1) := by decide +kernel
theorem dL_viewPut_25 : decode cL_viewPut 25 = .ok (.ireturn, 1) := by decide +kernel
set_option maxRecDepth 20000 in
theorem ggL_viewStrike_X3_viewStrike : GoodIn wsL_viewStrike wsX3_viewStrike := goodIn_ca (goodIn_ca (goodIn_r _ [7, 8, 9, 10, 6, 11, 12, 13, 14, 15, 16, 17, 18, 19, 20, 21, 22, 23, 24, 25, 26, 27, 28, 29, 30, 31, 32, 33, 34, 35, 36, 37, 38, 39, 40, 41, 42, 43, 44, 45, 46, 47, 48, 49, 50, 51, 52, 53, 54, 55, 56, 57, 58, 59, 60, 61, 62, 63, 64, 65, 66, 67, 68, 69, 70, 71, 72, 73, 74, 75, 76, 77, 78, 79, 82, 83, 84, 85, 86, 87, 88, 89, 90, 91, 92, 93, 94, 95, 96, 97, 98, 99, 100, 101] (by decide +kernel) (by decide +kernel)) (goodIn_sub (fun _ h => List.mem_cons_of_mem _ (List.mem_append_left _ (List.mem_append_right _ h))) (by decide +kernel))) (goodIn_sub (fun _ h => List.mem_cons_of_mem _ (List.mem_append_right _ h)) (by decide +kernel))
set_option maxRecDepth 20000 in
theorem gL_viewStrike_X3_viewStrike : GoodIn wsL_viewStrike (wsV RL 102 RX3 yX3_viewStrike wsX3_viewStrike) := goodIn_app (goodIn_of _ (by decide +kernel)) ggL_viewStrike_X3_viewStrike
theorem dL_viewStrike_0 : decode cL_viewStrike 0 = .ok (.aload_n 3, 1) := by decide +kernel
theorem dL_viewStrike_1 : decode cL_viewStrike 1 = .ok (.aload_n 0, 1) := by decide +kernel
theorem dL_viewStrike_2 : decode cL_viewStrike 2 = .ok (.iload_n 1, 1) := by decide +kernel
theorem dL_viewStrike_3 : decode cL_viewStrike 3 = .ok (.iload_n 2, 1) := by decide +kernel
theorem dL_viewStrike_4 : decode cL_viewStrike 4 = .ok (.invokevirtual 102, 3) := by decide +kernel
theorem dL_viewStrike_7 : decode cL_viewStrike 7 = .ok (.i2l, 1) := by decide +kernel
theorem dL_viewStrike_8 : decode cL_viewStrike 8 = .ok (.putfield 13, 3) := by decide +kernel
theorem dL_viewStrike_11 : decode cL_viewStrike 11 = .ok (.goto 11, 3) := by decide +kernel
theorem dL_viewStrike_14 : decode cL_viewStrike 14 = .ok (.astore 4, 2) := by decide +kernel
theorem dL_viewStrike_16 : decode cL_viewStrike 16 = .ok (.iconst 1, 1) := by decide +kernel
theorem dL_viewStrike_17 : decode cL_viewStrike 17 = .ok (.ireturn, 1) := by decide +kernel
theorem dL_viewStrike_18 : decode cL_viewStrike 18 = .ok (.astore 4, 2) := by decide +kernel
theorem dL_viewStrike_20 : decode cL_viewStrike 20 = .ok (.iconst 2, 1) := by decide +kernel
theorem dL_viewStrike_21 : decode cL_viewStrike 21 = .ok (.ireturn, 1) := by decide +kernel
theorem dL_viewStrike_22 : decode cL_viewStrike 22 = .ok (.iconst 0, 1) := by decide +kernel
theorem dL_viewStrike_23 : decode cL_viewStrike 23 = .ok (.ireturn, 1) := by decide +kernel
set_option maxRecDepth 20000 in
theorem ggL_viewMerge_X3_viewMerge : GoodIn wsL_viewMerge wsX3_viewMerge := goodIn_ca (goodIn_ca (goodIn_r _ [7, 8, 9, 10, 6, 11, 12, 13, 14, 15, 16, 17, 18, 19, 20, 21, 22, 23, 24, 25, 26, 27, 28, 29, 30, 31, 32, 33, 34, 35, 36, 37, 38, 39, 40, 41, 42, 43, 44, 45, 46, 47, 48, 49, 50, 51, 52, 53, 54, 55, 56, 57, 58, 59, 60, 61, 62, 63, 64, 65, 66, 67, 68, 69, 70, 71, 72, 73, 74, 75, 76, 77, 78, 79, 80, 81, 82, 83, 84, 85, 86, 87, 88, 89, 90, 91, 92, 93, 94, 95, 96, 97, 98, 99, 100, 101, 102, 103, 104, 105, 106, 107, 108, 109, 110, 111, 112, 113, 114, 115, 116, 117, 118, 119, 120, 123, 124, 125, 126, 127, 128, 129, 130, 131, 132, 133, 134, 135, 136, 137, 138, 139, 140, 141, 142] (by decide +kernel) (by decide +kernel)) (goodIn_sub (fun _ h => List.mem_cons_of_mem _ (List.mem_append_left _ (List.mem_append_right _ h))) (by decide +kernel))) (goodIn_sub (fun _ h => List.mem_cons_of_mem _ (List.mem_append_right _ h)) (by decide +kernel))
set_option maxRecDepth 20000 in
theorem gL_viewMerge_X3_viewMerge : GoodIn wsL_viewMerge (wsV RL 105 RX3 yX3_viewMerge wsX3_viewMerge) := goodIn_app (goodIn_of _ (by decide +kernel)) ggL_viewMerge_X3_viewMerge
theorem dL_viewMerge_0 : decode cL_viewMerge 0 = .ok (.aload 4, 2) := by decide +kernel
theorem dL_viewMerge_2 : decode cL_viewMerge 2 = .ok (.aload_n 0, 1) := by decide +kernel
theorem dL_viewMerge_3 : decode cL_viewMerge 3 = .ok (.iload_n 1, 1) := by decide +kernel
theorem dL_viewMerge_4 : decode cL_viewMerge 4 = .ok (.iload_n 2, 1) := by decide +kernel
theorem dL_viewMerge_5 : decode cL_viewMerge 5 = .ok (.iload_n 3, 1) := by decide +kernel
theorem dL_viewMerge_6 : decode cL_viewMerge 6 = .ok (.invokevirtual 105, 3) := by decide +kernel
theorem dL_viewMerge_9 : decode cL_viewMerge 9 = .ok (.i2l, 1) := by decide +kernel
theorem dL_viewMerge_10 : decode cL_viewMerge 10 = .ok (.putfield 13, 3) := by decide +kernel
theorem dL_viewMerge_13 : decode cL_viewMerge 13 = .ok (.goto 11, 3) := by decide +kernel
theorem dL_viewMerge_16 : decode cL_viewMerge 16 = .ok (.astore 5, 2) := by decide +kernel
theorem dL_viewMerge_18 : decode cL_viewMerge 18 = .ok (.iconst 1, 1) := by decide +kernel
theorem dL_viewMerge_19 : decode cL_viewMerge 19 = .ok (.ireturn, 1) := by decide +kernel
theorem dL_viewMerge_20 : decode cL_viewMerge 20 = .ok (.astore 5, 2) := by decide +kernel
theorem dL_viewMerge_22 : decode cL_viewMerge 22 = .ok (.iconst 2, 1) := by decide +kernel
theorem dL_viewMerge_23 : decode cL_viewMerge 23 = .ok (.ireturn, 1) := by decide +kernel
theorem dL_viewMerge_24 : decode cL_viewMerge 24 = .ok (.iconst 0, 1) := by decide +kernel
theorem dL_viewMerge_25 : decode cL_viewMerge 25 = .ok (.ireturn, 1) := by decide +kernel
set_option maxRecDepth 20000 in
theorem ggL_viewPoll_X3_viewPoll : GoodIn wsL_viewPoll wsX3_viewPoll := goodIn_ca (goodIn_r _ [6, 7, 8, 9, 5, 10, 11, 12, 13, 14, 15, 16, 17, 18, 19, 20, 21, 22, 23, 24, 25, 26, 27, 28, 29, 30, 31, 32, 33, 34, 35, 36, 37, 38, 39, 40, 41, 42, 43, 44, 45, 46, 47, 48, 49, 50, 51, 52, 53, 54, 55, 56, 57, 58, 59, 60, 61, 62, 63, 64, 65, 66, 67, 68, 69, 70, 71, 72, 73, 74, 77, 78, 79, 80, 81, 82, 83, 84, 85, 86, 87, 88, 89, 90, 91, 92, 93, 94, 95, 96] (by decide +kernel) (by decide +kernel)) (goodIn_sub (fun _ h => List.mem_cons_of_mem _ (List.mem_append_right _ h)) (by decide +kernel))
set_option maxRecDepth 20000 in
theorem gL_viewPoll_X3_viewPoll : GoodIn wsL_viewPoll (wsV RL 108 RX3 yX3_viewPoll wsX3_viewPoll) := goodIn_app (goodIn_of _ (by decide +kernel)) ggL_viewPoll_X3_viewPoll
theorem dL_viewPoll_0 : decode cL_viewPoll 0 = .ok (.aload_n 3, 1) := by decide +kernel
theorem dL_viewPoll_1 : decode cL_viewPoll 1 = .ok (.aload_n 0, 1) := by decide +kernel
theorem dL_viewPoll_2 : decode cL_viewPoll 2 = .ok (.iload_n 1, 1) := by decide +kernel
theorem dL_viewPoll_3 : decode cL_viewPoll 3 = .ok (.iload_n 2, 1) := by decide +kernel
theorem dL_viewPoll_4 : decode cL_viewPoll 4 = .ok (.invokevirtual 108, 3) := by decide +kernel
theorem dL_viewPoll_7 : decode cL_viewPoll 7 = .ok (.i2l, 1) := by decide +kernel
theorem dL_viewPoll_8 : decode cL_viewPoll 8 = .ok (.putfield 13, 3) := by decide +kernel
theorem dL_viewPoll_11 : decode cL_viewPoll 11 = .ok (.goto 7, 3) := by decide +kernel
theorem dL_viewPoll_14 : decode cL_viewPoll 14 = .ok (.astore 4, 2) := by decide +kernel
theorem dL_viewPoll_16 : decode cL_viewPoll 16 = .ok (.iconst 1, 1) := by decide +kernel
theorem dL_viewPoll_17 : decode cL_viewPoll 17 = .ok (.ireturn, 1) := by decide +kernel
theorem dL_viewPoll_18 : decode cL_viewPoll 18 = .ok (.iconst 0, 1) := by decide +kernel
theorem dL_viewPoll_19 : decode cL_viewPoll 19 = .ok (.ireturn, 1) := by decide +kernel
set_option maxRecDepth 20000 in
theorem ggL_viewClear_X3_viewClear : GoodIn wsL_viewClear wsX3_viewClear := goodIn_ca (goodIn_r _ [6, 7, 8, 9, 5, 10, 11, 12, 13, 14, 15, 16, 17, 18, 19, 20, 21, 22, 23, 24, 25, 26, 27, 28, 29, 30, 31, 32, 33, 34, 35, 36, 37, 38, 39, 40, 41, 42, 43, 44, 45, 46, 47, 48, 49, 50, 51, 52, 53, 54, 55, 56, 59, 60, 61, 62, 63, 64, 65, 66, 67, 68, 69, 70, 71, 72, 73, 74, 75, 76, 77, 78] (by decide +kernel) (by decide +kernel)) (goodIn_sub (fun _ h => List.mem_cons_of_mem _ (List.mem_append_right _ h)) (by decide +kernel))
set_option maxRecDepth 20000 in
theorem gL_viewClear_X3_viewClear : GoodIn wsL_viewClear (wsV RL 111 RX3 yX3_viewClear wsX3_viewClear) := goodIn_app (goodIn_of _ (by decide +kernel)) ggL_viewClear_X3_viewClear
theorem dL_viewClear_0 : decode cL_viewClear 0 = .ok (.aload_n 2, 1) := by decide +kernel
theorem dL_viewClear_1 : decode cL_viewClear 1 = .ok (.aload_n 0, 1) := by decide +kernel
theorem dL_viewClear_2 : decode cL_viewClear 2 = .ok (.iload_n 1, 1) := by decide +kernel
theorem dL_viewClear_3 : decode cL_viewClear 3 = .ok (.invokevirtual 111, 3) := by decide +kernel
theorem dL_viewClear_6 : decode cL_viewClear 6 = .ok (.i2l, 1) := by decide +kernel
theorem dL_viewClear_7 : decode cL_viewClear 7 = .ok (.putfield 13, 3) := by decide +kernel
theorem dL_viewClear_10 : decode cL_viewClear 10 = .ok (.goto 6, 3) := by decide +kernel
theorem dL_viewClear_13 : decode cL_viewClear 13 = .ok (.astore_n 3, 1) := by decide +kernel
theorem dL_viewClear_14 : decode cL_viewClear 14 = .ok (.iconst 1, 1) := by decide +kernel
theorem dL_viewClear_15 : decode cL_viewClear 15 = .ok (.ireturn, 1) := by decide +kernel
theorem dL_viewClear_16 : decode cL_viewClear 16 = .ok (.iconst 0, 1) := by decide +kernel
theorem dL_viewClear_17 : decode cL_viewClear 17 = .ok (.ireturn, 1) := by decide +kernel
set_option maxRecDepth 20000 in
theorem ggL_walk_X3_walk : GoodIn wsL_walk wsX3_walk := goodIn_ca (goodIn_r _ [6, 7, 8, 9, 10, 11, 12, 5, 13, 14, 15, 16, 17, 18, 19, 20, 21, 22, 23, 24, 25, 26, 27, 28, 29, 30, 31, 32, 33, 34, 35, 36, 37, 38, 39, 40, 41, 42, 43, 44, 45, 46, 47, 48, 49, 50, 51, 52, 53, 54, 55, 56, 57, 58, 59, 60, 61, 62, 63, 64, 65, 66, 67, 68, 69, 70, 71, 72, 73, 74, 75, 76, 77, 78, 79, 80, 81, 82, 85, 86, 87, 88, 89, 90, 91, 92, 93, 94, 95, 96, 97, 98, 99, 100, 101, 102, 103, 104, 105, 106, 107, 108, 109] (by decide +kernel) (by decide +kernel)) (goodIn_sub (fun _ h => List.mem_cons_of_mem _ (List.mem_append_right _ h)) (by decide +kernel))
set_option maxRecDepth 20000 in
theorem gL_walk_X3_walk : GoodIn wsL_walk (wsV RL 114 RX3 yX3_walk wsX3_walk) := goodIn_app (goodIn_of _ (by decide +kernel)) ggL_walk_X3_walk
theorem dL_walk_0 : decode cL_walk 0 = .ok (.aload_n 2, 1) := by decide +kernel
theorem dL_walk_1 : decode cL_walk 1 = .ok (.aload_n 0, 1) := by decide +kernel
theorem dL_walk_2 : decode cL_walk 2 = .ok (.iload_n 1, 1) := by decide +kernel
theorem dL_walk_3 : decode cL_walk 3 = .ok (.invokevirtual 114, 3) := by decide +kernel
theorem dL_walk_6 : decode cL_walk 6 = .ok (.i2l, 1) := by decide +kernel
theorem dL_walk_7 : decode cL_walk 7 = .ok (.putfield 13, 3) := by decide +kernel
theorem dL_walk_10 : decode cL_walk 10 = .ok (.goto 6, 3) := by decide +kernel
theorem dL_walk_13 : decode cL_walk 13 = .ok (.astore_n 3, 1) := by decide +kernel
theorem dL_walk_14 : decode cL_walk 14 = .ok (.iconst 1, 1) := by decide +kernel
theorem dL_walk_15 : decode cL_walk 15 = .ok (.ireturn, 1) := by decide +kernel
theorem dL_walk_16 : decode cL_walk 16 = .ok (.iconst 0, 1) := by decide +kernel
theorem dL_walk_17 : decode cL_walk 17 = .ok (.ireturn, 1) := by decide +kernel
set_option maxRecDepth 20000 in
theorem ggL_viewWalk_X3_viewWalk : GoodIn wsL_viewWalk wsX3_viewWalk := goodIn_ca (goodIn_r _ [6, 7, 8, 9, 5, 10, 11, 12, 13, 14, 15, 16, 17, 18, 19, 20, 21, 22, 23, 24, 25, 26, 27, 28, 29, 30, 31, 32, 33, 34, 35, 36, 37, 38, 39, 40, 41, 42, 43, 44, 45, 46, 47, 48, 49, 50, 51, 52, 53, 54, 55, 56, 57, 58, 59, 60, 61, 62, 63, 64, 65, 66, 67, 70, 71, 72, 73, 74, 75, 76, 77, 78, 79, 80, 81, 82, 83, 84, 85, 86, 87, 88, 89, 90, 91, 92, 93, 94] (by decide +kernel) (by decide +kernel)) (goodIn_sub (fun _ h => List.mem_cons_of_mem _ (List.mem_append_right _ h)) (by decide +kernel))
set_option maxRecDepth 20000 in
theorem gL_viewWalk_X3_viewWalk : GoodIn wsL_viewWalk (wsV RL 117 RX3 yX3_viewWalk wsX3_viewWalk) := goodIn_app (goodIn_of _ (by decide +kernel)) ggL_viewWalk_X3_viewWalk
theorem dL_viewWalk_0 : decode cL_viewWalk 0 = .ok (.aload_n 2, 1) := by decide +kernel
theorem dL_viewWalk_1 : decode cL_viewWalk 1 = .ok (.aload_n 0, 1) := by decide +kernel
theorem dL_viewWalk_2 : decode cL_viewWalk 2 = .ok (.iload_n 1, 1) := by decide +kernel
theorem dL_viewWalk_3 : decode cL_viewWalk 3 = .ok (.invokevirtual 117, 3) := by decide +kernel
theorem dL_viewWalk_6 : decode cL_viewWalk 6 = .ok (.i2l, 1) := by decide +kernel
theorem dL_viewWalk_7 : decode cL_viewWalk 7 = .ok (.putfield 13, 3) := by decide +kernel
theorem dL_viewWalk_10 : decode cL_viewWalk 10 = .ok (.goto 6, 3) := by decide +kernel
theorem dL_viewWalk_13 : decode cL_viewWalk 13 = .ok (.astore_n 3, 1) := by decide +kernel
theorem dL_viewWalk_14 : decode cL_viewWalk 14 = .ok (.iconst 1, 1) := by decide +kernel
theorem dL_viewWalk_15 : decode cL_viewWalk 15 = .ok (.ireturn, 1) := by decide +kernel
theorem dL_viewWalk_16 : decode cL_viewWalk 16 = .ok (.iconst 0, 1) := by decide +kernel
theorem dL_viewWalk_17 : decode cL_viewWalk 17 = .ok (.ireturn, 1) := by decide +kernel
set_option maxRecDepth 20000 in
theorem ggL_step_X3_step : GoodIn wsL_step wsX3_step := goodIn_ca (goodIn_r _ [6, 7, 8, 9, 5, 10, 11, 12, 13, 14, 15, 16, 17, 18, 19, 20, 21, 22, 23, 24, 25, 26, 27, 28, 29, 30, 31, 32, 33, 34, 35, 36, 37, 38, 39, 40, 41, 42, 43, 44, 45, 46, 47, 48, 49, 50, 51, 52, 53, 54, 55, 56, 57, 58, 59, 60, 61, 62, 63, 64, 65, 66, 67, 68, 69, 70, 71, 72, 73, 74, 75, 76, 77, 78, 79, 80, 81, 82, 85, 86, 87, 88, 89, 90, 91, 92, 93, 94, 95, 96, 97, 98, 99, 100, 101, 102, 103, 104, 105, 106, 107, 108, 109] (by decide +kernel) (by decide +kernel)) (goodIn_sub (fun _ h => List.mem_cons_of_mem _ (List.mem_append_right _ h)) (by decide +kernel))
set_option maxRecDepth 20000 in
theorem gL_step_X3_step : GoodIn wsL_step (wsV RL 120 RX3 yX3_step wsX3_step) := goodIn_app (goodIn_of _ (by decide +kernel)) ggL_step_X3_step
theorem dL_step_0 : decode cL_step 0 = .ok (.aload_n 1, 1) := by decide +kernel
theorem dL_step_1 : decode cL_step 1 = .ok (.aload_n 0, 1) := by decide +kernel
theorem dL_step_2 : decode cL_step 2 = .ok (.invokevirtual 120, 3) := by decide +kernel
theorem dL_step_5 : decode cL_step 5 = .ok (.i2l, 1) := by decide +kernel
theorem dL_step_6 : decode cL_step 6 = .ok (.putfield 13, 3) := by decide +kernel
theorem dL_step_9 : decode cL_step 9 = .ok (.goto 6, 3) := by decide +kernel
theorem dL_step_12 : decode cL_step 12 = .ok (.astore_n 2, 1) := by decide +kernel
theorem dL_step_13 : decode cL_step 13 = .ok (.iconst 1, 1) := by decide +kernel
theorem dL_step_14 : decode cL_step 14 = .ok (.ireturn, 1) := by decide +kernel
theorem dL_step_15 : decode cL_step 15 = .ok (.iconst 0, 1) := by decide +kernel
theorem dL_step_16 : decode cL_step 16 = .ok (.ireturn, 1) := by decide +kernel
set_option maxRecDepth 20000 in
theorem ggL_write_X3_write : GoodIn wsL_write wsX3_write := goodIn_ca (goodIn_ca (goodIn_r _ [7, 8, 9, 10, 11, 6, 12, 13, 14, 15, 16, 17, 18, 19, 20, 21, 22, 23, 24, 25, 26, 27, 28, 29, 30, 31, 32, 33, 34, 35, 36, 37, 38, 39, 40, 41, 42, 43, 44, 45, 46, 47, 48, 49, 50, 51, 52, 53, 54, 55, 56, 57, 58, 59, 60, 61, 62, 63, 64, 65, 66, 67, 68, 69, 70, 71, 72, 73, 74, 75, 76, 77, 78, 79, 80, 81, 82, 83, 84, 85, 86, 87, 90, 91, 92, 93, 94, 95, 96, 97, 98, 99, 100, 101, 102, 103, 104, 105, 106, 107, 108, 109, 110, 111, 112, 113, 114] (by decide +kernel) (by decide +kernel)) (goodIn_sub (fun _ h => List.mem_cons_of_mem _ (List.mem_append_left _ (List.mem_append_right _ h))) (by decide +kernel))) (goodIn_sub (fun _ h => List.mem_cons_of_mem _ (List.mem_append_right _ h)) (by decide +kernel))
set_option maxRecDepth 20000 in
theorem gL_write_X3_write : GoodIn wsL_write (wsV RL 124 RX3 yX3_write wsX3_write) := goodIn_app (goodIn_of _ (by decide +kernel)) ggL_write_X3_write
theorem dL_write_0 : decode cL_write 0 = .ok (.aload_n 2, 1) := by decide +kernel
theorem dL_write_1 : decode cL_write 1 = .ok (.aload_n 0, 1) := by decide +kernel
theorem dL_write_2 : decode cL_write 2 = .ok (.iload_n 1, 1) := by decide +kernel
theorem dL_write_3 : decode cL_write 3 = .ok (.invokevirtual 124, 3) := by decide +kernel
theorem dL_write_6 : decode cL_write 6 = .ok (.i2l, 1) := by decide +kernel
theorem dL_write_7 : decode cL_write 7 = .ok (.putfield 13, 3) := by decide +kernel
theorem dL_write_10 : decode cL_write 10 = .ok (.goto 9, 3) := by decide +kernel
theorem dL_write_13 : decode cL_write 13 = .ok (.astore_n 3, 1) := by decide +kernel
theorem dL_write_14 : decode cL_write 14 = .ok (.iconst 1, 1) := by decide +kernel
theorem dL_write_15 : decode cL_write 15 = .ok (.ireturn, 1) := by decide +kernel
theorem dL_write_16 : decode cL_write 16 = .ok (.astore_n 3, 1) := by decide +kernel
theorem dL_write_17 : decode cL_write 17 = .ok (.iconst 2, 1) := by decide +kernel
theorem dL_write_18 : decode cL_write 18 = .ok (.ireturn, 1) := by decide +kernel
theorem dL_write_19 : decode cL_write 19 = .ok (.iconst 0, 1) := by decide +kernel
theorem dL_write_20 : decode cL_write 20 = .ok (.ireturn, 1) := by decide +kernel
set_option maxRecDepth 20000 in
theorem ggL_drop_X3_drop : GoodIn wsL_drop wsX3_drop := goodIn_ca (goodIn_r _ [6, 7, 8, 9, 10, 11, 5, 12, 13, 14, 15, 16, 17, 18, 19, 20, 21, 22, 23, 24, 25, 26, 27, 28, 29, 30, 31, 32, 33, 34, 35, 36, 37, 38, 39, 40, 41, 42, 43, 44, 45, 46, 47, 48, 49, 50, 51, 52, 53, 54, 55, 56, 57, 58, 59, 60, 61, 62, 63, 64, 65, 66, 67, 68, 69, 70, 71, 72, 73, 74, 75, 76, 77, 78, 79, 80, 81, 82, 83, 84, 85, 86, 87, 88, 89, 90, 91, 94, 95, 96, 97, 98, 99, 100, 101, 102, 103, 104, 105, 106, 107, 108, 109, 110, 111, 112, 113, 114, 115, 116, 117, 118] (by decide +kernel) (by decide +kernel)) (goodIn_sub (fun _ h => List.mem_cons_of_mem _ (List.mem_append_right _ h)) (by decide +kernel))
set_option maxRecDepth 20000 in
theorem gL_drop_X3_drop : GoodIn wsL_drop (wsV RL 127 RX3 yX3_drop wsX3_drop) := goodIn_app (goodIn_of _ (by decide +kernel)) ggL_drop_X3_drop
theorem dL_drop_0 : decode cL_drop 0 = .ok (.aload_n 1, 1) := by decide +kernel
theorem dL_drop_1 : decode cL_drop 1 = .ok (.aload_n 0, 1) := by decide +kernel
theorem dL_drop_2 : decode cL_drop 2 = .ok (.invokevirtual 127, 3) := by decide +kernel
theorem dL_drop_5 : decode cL_drop 5 = .ok (.i2l, 1) := by decide +kernel
theorem dL_drop_6 : decode cL_drop 6 = .ok (.putfield 13, 3) := by decide +kernel
theorem dL_drop_9 : decode cL_drop 9 = .ok (.goto 6, 3) := by decide +kernel
theorem dL_drop_12 : decode cL_drop 12 = .ok (.astore_n 2, 1) := by decide +kernel
theorem dL_drop_13 : decode cL_drop 13 = .ok (.iconst 1, 1) := by decide +kernel
theorem dL_drop_14 : decode cL_drop 14 = .ok (.ireturn, 1) := by decide +kernel
theorem dL_drop_15 : decode cL_drop 15 = .ok (.iconst 0, 1) := by decide +kernel
theorem dL_drop_16 : decode cL_drop 16 = .ok (.ireturn, 1) := by decide +kernel
set_option maxRecDepth 20000 in
theorem ggL_keep_X3_keep : GoodIn wsL_keep wsX3_keep := goodIn_ca (goodIn_r _ [6, 7, 8, 9, 10, 11, 5, 12, 13, 14, 15, 16, 17, 18, 19, 20, 21, 22, 23, 24, 25, 26, 27, 28, 29, 30, 31, 32, 33, 34, 35, 38, 39, 40, 41, 42, 43, 44, 45, 46, 47, 48, 49, 50] (by decide +kernel) (by decide +kernel)) (goodIn_sub (fun _ h => List.mem_cons_of_mem _ (List.mem_append_right _ h)) (by decide +kernel))
set_option maxRecDepth 20000 in
theorem gL_keep_X3_keep : GoodIn wsL_keep (wsV RL 130 RX3 yX3_keep wsX3_keep) := goodIn_app (goodIn_of _ (by decide +kernel)) ggL_keep_X3_keep
theorem dL_keep_0 : decode cL_keep 0 = .ok (.aload_n 3, 1) := by decide +kernel
theorem dL_keep_1 : decode cL_keep 1 = .ok (.aload_n 0, 1) := by decide +kernel
theorem dL_keep_2 : decode cL_keep 2 = .ok (.iload_n 1, 1) := by decide +kernel
theorem dL_keep_3 : decode cL_keep 3 = .ok (.iload_n 2, 1) := by decide +kernel
theorem dL_keep_4 : decode cL_keep 4 = .ok (.invokevirtual 130, 3) := by decide +kernel
theorem dL_keep_7 : decode cL_keep 7 = .ok (.i2l, 1) := by decide +kernel
theorem dL_keep_8 : decode cL_keep 8 = .ok (.putfield 13, 3) := by decide +kernel
theorem dL_keep_11 : decode cL_keep 11 = .ok (.goto 7, 3) := by decide +kernel
theorem dL_keep_14 : decode cL_keep 14 = .ok (.astore 4, 2) := by decide +kernel
theorem dL_keep_16 : decode cL_keep 16 = .ok (.iconst 1, 1) := by decide +kernel
theorem dL_keep_17 : decode cL_keep 17 = .ok (.ireturn, 1) := by decide +kernel
theorem dL_keep_18 : decode cL_keep 18 = .ok (.iconst 0, 1) := by decide +kernel
theorem dL_keep_19 : decode cL_keep 19 = .ok (.ireturn, 1) := by decide +kernel
set_option maxRecDepth 20000 in
theorem ggL_brand_X3_brand : GoodIn wsL_brand wsX3_brand := goodIn_ca (goodIn_r _ [6, 7, 8, 9, 5, 10, 11, 12, 15, 16, 17, 18, 19, 20] (by decide +kernel) (by decide +kernel)) (goodIn_sub (fun _ h => List.mem_cons_of_mem _ (List.mem_append_right _ h)) (by decide +kernel))
set_option maxRecDepth 20000 in
theorem gL_brand_X3_brand : GoodIn wsL_brand (wsV RL 133 RX3 yX3_brand wsX3_brand) := goodIn_app (goodIn_of _ (by decide +kernel)) ggL_brand_X3_brand
theorem dL_brand_0 : decode cL_brand 0 = .ok (.aload_n 2, 1) := by decide +kernel
theorem dL_brand_1 : decode cL_brand 1 = .ok (.aload_n 0, 1) := by decide +kernel
theorem dL_brand_2 : decode cL_brand 2 = .ok (.iload_n 1, 1) := by decide +kernel
theorem dL_brand_3 : decode cL_brand 3 = .ok (.invokevirtual 133, 3) := by decide +kernel
theorem dL_brand_6 : decode cL_brand 6 = .ok (.i2l, 1) := by decide +kernel
theorem dL_brand_7 : decode cL_brand 7 = .ok (.putfield 13, 3) := by decide +kernel
theorem dL_brand_10 : decode cL_brand 10 = .ok (.goto 6, 3) := by decide +kernel
theorem dL_brand_13 : decode cL_brand 13 = .ok (.astore_n 3, 1) := by decide +kernel
theorem dL_brand_14 : decode cL_brand 14 = .ok (.iconst 1, 1) := by decide +kernel
theorem dL_brand_15 : decode cL_brand 15 = .ok (.ireturn, 1) := by decide +kernel
theorem dL_brand_16 : decode cL_brand 16 = .ok (.iconst 0, 1) := by decide +kernel
theorem dL_brand_17 : decode cL_brand 17 = .ok (.ireturn, 1) := by decide +kernel
set_option maxRecDepth 20000 in
theorem ggL_get_X3_get : GoodIn wsL_get wsX3_get := goodIn_ca (goodIn_ca (goodIn_r _ [7, 8, 9, 10, 6, 11, 12, 13, 14, 15, 16, 17, 18, 19, 20, 21, 22, 23, 24, 25, 26, 27, 28, 29, 30, 31, 32, 33, 34, 35, 36, 37, 38, 39, 40, 41, 42, 43, 44, 45, 46, 47, 48, 49, 50, 51, 52, 55, 56, 57, 58, 59, 60, 61, 62, 63, 64, 65, 66, 67] (by decide +kernel) (by decide +kernel)) (goodIn_sub (fun _ h => List.mem_cons_of_mem _ (List.mem_append_left _ (List.mem_append_right _ h))) (by decide +kernel))) (goodIn_sub (fun _ h => List.mem_cons_of_mem _ (List.mem_append_right _ h)) (by decide +kernel))
set_option maxRecDepth 20000 in
theorem gL_get_X3_get : GoodIn wsL_get (wsV RL 136 RX3 yX3_get wsX3_get) := goodIn_app (goodIn_of _ (by decide +kernel)) ggL_get_X3_get
theorem dL_get_0 : decode cL_get 0 = .ok (.aload_n 3, 1) := by decide +kernel
theorem dL_get_1 : decode cL_get 1 = .ok (.aload_n 0, 1) := by decide +kernel
theorem dL_get_2 : decode cL_get 2 = .ok (.iload_n 1, 1) := by decide +kernel
theorem dL_get_3 : decode cL_get 3 = .ok (.iload_n 2, 1) := by decide +kernel
theorem dL_get_4 : decode cL_get 4 = .ok (.invokevirtual 136, 3) := by decide +kernel
theorem dL_get_7 : decode cL_get 7 = .ok (.i2l, 1) := by decide +kernel
theorem dL_get_8 : decode cL_get 8 = .ok (.putfield 13, 3) := by decide +kernel
theorem dL_get_11 : decode cL_get 11 = .ok (.goto 11, 3) := by decide +kernel
theorem dL_get_14 : decode cL_get 14 = .ok (.astore 4, 2) := by decide +kernel
theorem dL_get_16 : decode cL_get 16 = .ok (.iconst 1, 1) := by decide +kernel
theorem dL_get_17 : decode cL_get 17 = .ok (.ireturn, 1) := by decide +kernel
theorem dL_get_18 : decode cL_get 18 = .ok (.astore 4, 2) := by decide +kernel
theorem dL_get_20 : decode cL_get 20 = .ok (.iconst 2, 1) := by decide +kernel
theorem dL_get_21 : decode cL_get 21 = .ok (.ireturn, 1) := by decide +kernel
theorem dL_get_22 : decode cL_get 22 = .ok (.iconst 0, 1) := by decide +kernel
theorem dL_get_23 : decode cL_get 23 = .ok (.ireturn, 1) := by decide +kernel
set_option maxRecDepth 20000 in
theorem ggL_getOr_X3_getOr : GoodIn wsL_getOr wsX3_getOr := goodIn_ca (goodIn_ca (goodIn_r _ [7, 8, 9, 10, 6, 11, 12, 13, 14, 15, 16, 17, 18, 19, 20, 21, 22, 23, 24, 25, 26, 27, 28, 29, 30, 31, 32, 33, 34, 35, 36, 37, 38, 39, 40, 41, 42, 43, 44, 45, 46, 47, 48, 49, 50, 51, 52, 53, 54, 55, 56, 57, 58, 59, 60, 63, 64, 65, 66, 67, 68, 69, 70, 71, 72, 73, 74, 75] (by decide +kernel) (by decide +kernel)) (goodIn_sub (fun _ h => List.mem_cons_of_mem _ (List.mem_append_left _ (List.mem_append_right _ h))) (by decide +kernel))) (goodIn_sub (fun _ h => List.mem_cons_of_mem _ (List.mem_append_right _ h)) (by decide +kernel))
set_option maxRecDepth 20000 in
theorem gL_getOr_X3_getOr : GoodIn wsL_getOr (wsV RL 139 RX3 yX3_getOr wsX3_getOr) := goodIn_app (goodIn_of _ (by decide +kernel)) ggL_getOr_X3_getOr
theorem dL_getOr_0 : decode cL_getOr 0 = .ok (.aload 4, 2) := by decide +kernel
theorem dL_getOr_2 : decode cL_getOr 2 = .ok (.aload_n 0, 1) := by decide +kernel
theorem dL_getOr_3 : decode cL_getOr 3 = .ok (.iload_n 1, 1) := by decide +kernel
theorem dL_getOr_4 : decode cL_getOr 4 = .ok (.iload_n 2, 1) := by decide +kernel
theorem dL_getOr_5 : decode cL_getOr 5 = .ok (.iload_n 3, 1) := by decide +kernel
theorem dL_getOr_6 : decode cL_getOr 6 = .ok (.invokevirtual 139, 3) := by decide +kernel
theorem dL_getOr_9 : decode cL_getOr 9 = .ok (.i2l, 1) := by decide +kernel
theorem dL_getOr_10 : decode cL_getOr 10 = .ok (.putfield 13, 3) := by decide +kernel
theorem dL_getOr_13 : decode cL_getOr 13 = .ok (.goto 11, 3) := by decide +kernel
theorem dL_getOr_16 : decode cL_getOr 16 = .ok (.astore 5, 2) := by decide +kernel
theorem dL_getOr_18 : decode cL_getOr 18 = .ok (.iconst 1, 1) := by decide +kernel
theorem dL_getOr_19 : decode cL_getOr 19 = .ok (.ireturn, 1) := by decide +kernel
theorem dL_getOr_20 : decode cL_getOr 20 = .ok (.astore 5, 2) := by decide +kernel
theorem dL_getOr_22 : decode cL_getOr 22 = .ok (.iconst 2, 1) := by decide +kernel
theorem dL_getOr_23 : decode cL_getOr 23 = .ok (.ireturn, 1) := by decide +kernel
theorem dL_getOr_24 : decode cL_getOr 24 = .ok (.iconst 0, 1) := by decide +kernel
theorem dL_getOr_25 : decode cL_getOr 25 = .ok (.ireturn, 1) := by decide +kernel
set_option maxRecDepth 20000 in
theorem ggL_has_X3_has : GoodIn wsL_has wsX3_has := goodIn_ca (goodIn_ca (goodIn_r _ [7, 8, 9, 10, 6, 11, 12, 13, 14, 15, 16, 17, 18, 19, 20, 21, 22, 23, 24, 25, 26, 27, 28, 29, 30, 31, 32, 33, 34, 35, 36, 37, 38, 39, 40, 41, 42, 43, 44, 45, 46, 47, 48, 49, 50, 51, 52, 53, 54, 55, 56, 59, 60, 61, 62, 63, 64, 65, 66, 67, 68, 69, 70, 71] (by decide +kernel) (by decide +kernel)) (goodIn_sub (fun _ h => List.mem_cons_of_mem _ (List.mem_append_left _ (List.mem_append_right _ h))) (by decide +kernel))) (goodIn_sub (fun _ h => List.mem_cons_of_mem _ (List.mem_append_right _ h)) (by decide +kernel))
set_option maxRecDepth 20000 in
theorem gL_has_X3_has : GoodIn wsL_has (wsV RL 142 RX3 yX3_has wsX3_has) := goodIn_app (goodIn_of _ (by decide +kernel)) ggL_has_X3_has
theorem dL_has_0 : decode cL_has 0 = .ok (.aload_n 3, 1) := by decide +kernel
theorem dL_has_1 : decode cL_has 1 = .ok (.aload_n 0, 1) := by decide +kernel
theorem dL_has_2 : decode cL_has 2 = .ok (.iload_n 1, 1) := by decide +kernel
theorem dL_has_3 : decode cL_has 3 = .ok (.iload_n 2, 1) := by decide +kernel
theorem dL_has_4 : decode cL_has 4 = .ok (.invokevirtual 142, 3) := by decide +kernel
theorem dL_has_7 : decode cL_has 7 = .ok (.ifCond .eq 7, 3) := by decide +kernel
theorem dL_has_10 : decode cL_has 10 = .ok (.lconst 1, 1) := by decide +kernel
theorem dL_has_11 : decode cL_has 11 = .ok (.goto 4, 3) := by decide +kernel
theorem dL_has_14 : decode cL_has 14 = .ok (.lconst 0, 1) := by decide +kernel
theorem dL_has_15 : decode cL_has 15 = .ok (.putfield 13, 3) := by decide +kernel
theorem dL_has_18 : decode cL_has 18 = .ok (.goto 11, 3) := by decide +kernel
theorem dL_has_21 : decode cL_has 21 = .ok (.astore 4, 2) := by decide +kernel
theorem dL_has_23 : decode cL_has 23 = .ok (.iconst 1, 1) := by decide +kernel
theorem dL_has_24 : decode cL_has 24 = .ok (.ireturn, 1) := by decide +kernel
theorem dL_has_25 : decode cL_has 25 = .ok (.astore 4, 2) := by decide +kernel
theorem dL_has_27 : decode cL_has 27 = .ok (.iconst 2, 1) := by decide +kernel
theorem dL_has_28 : decode cL_has 28 = .ok (.ireturn, 1) := by decide +kernel
theorem dL_has_29 : decode cL_has 29 = .ok (.iconst 0, 1) := by decide +kernel
theorem dL_has_30 : decode cL_has 30 = .ok (.ireturn, 1) := by decide +kernel
set_option maxRecDepth 20000 in
theorem ggL_hasValue_X3_hasValue : GoodIn wsL_hasValue wsX3_hasValue := goodIn_ca (goodIn_ca (goodIn_r _ [7, 8, 9, 10, 6, 11, 12, 13, 14, 15, 16, 17, 18, 19, 20, 21, 22, 23, 24, 25, 26, 29, 30, 31, 32, 33, 34, 35, 36, 37, 38, 39, 40, 41] (by decide +kernel) (by decide +kernel)) (goodIn_sub (fun _ h => List.mem_cons_of_mem _ (List.mem_append_left _ (List.mem_append_right _ h))) (by decide +kernel))) (goodIn_sub (fun _ h => List.mem_cons_of_mem _ (List.mem_append_right _ h)) (by decide +kernel))
set_option maxRecDepth 20000 in
theorem gL_hasValue_X3_hasValue : GoodIn wsL_hasValue (wsV RL 145 RX3 yX3_hasValue wsX3_hasValue) := goodIn_app (goodIn_of _ (by decide +kernel)) ggL_hasValue_X3_hasValue
theorem dL_hasValue_0 : decode cL_hasValue 0 = .ok (.aload_n 3, 1) := by decide +kernel
theorem dL_hasValue_1 : decode cL_hasValue 1 = .ok (.aload_n 0, 1) := by decide +kernel
theorem dL_hasValue_2 : decode cL_hasValue 2 = .ok (.iload_n 1, 1) := by decide +kernel
theorem dL_hasValue_3 : decode cL_hasValue 3 = .ok (.iload_n 2, 1) := by decide +kernel
theorem dL_hasValue_4 : decode cL_hasValue 4 = .ok (.invokevirtual 145, 3) := by decide +kernel
theorem dL_hasValue_7 : decode cL_hasValue 7 = .ok (.ifCond .eq 7, 3) := by decide +kernel
theorem dL_hasValue_10 : decode cL_hasValue 10 = .ok (.lconst 1, 1) := by decide +kernel
theorem dL_hasValue_11 : decode cL_hasValue 11 = .ok (.goto 4, 3) := by decide +kernel
theorem dL_hasValue_14 : decode cL_hasValue 14 = .ok (.lconst 0, 1) := by decide +kernel
theorem dL_hasValue_15 : decode cL_hasValue 15 = .ok (.putfield 13, 3) := by decide +kernel
theorem dL_hasValue_18 : decode cL_hasValue 18 = .ok (.goto 11, 3) := by decide +kernel
theorem dL_hasValue_21 : decode cL_hasValue 21 = .ok (.astore 4, 2) := by decide +kernel
theorem dL_hasValue_23 : decode cL_hasValue 23 = .ok (.iconst 1, 1) := by decide +kernel
theorem dL_hasValue_24 : decode cL_hasValue 24 = .ok (.ireturn, 1) := by decide +kernel
theorem dL_hasValue_25 : decode cL_hasValue 25 = .ok (.astore 4, 2) := by decide +kernel
theorem dL_hasValue_27 : decode cL_hasValue 27 = .ok (.iconst 2, 1) := by decide +kernel
theorem dL_hasValue_28 : decode cL_hasValue 28 = .ok (.ireturn, 1) := by decide +kernel
theorem dL_hasValue_29 : decode cL_hasValue 29 = .ok (.iconst 0, 1) := by decide +kernel
theorem dL_hasValue_30 : decode cL_hasValue 30 = .ok (.ireturn, 1) := by decide +kernel
set_option maxRecDepth 20000 in
theorem ggL_ofBook_X3_ofBook : GoodIn wsL_ofBook wsX3_ofBook := goodIn_ca (goodIn_ca (goodIn_r _ [7, 8, 9, 10, 6, 11, 12, 13, 14, 15, 16, 17, 18, 19, 20, 21, 22, 23, 24, 25, 26, 27, 28, 29, 30, 31, 32, 33, 34, 35, 36, 37, 38, 39, 40, 41, 42, 43, 44, 45, 46, 47, 48, 49, 50, 51, 52, 53, 54, 55, 56, 57, 58, 59, 60, 61, 62, 63, 64, 65, 66, 67, 70, 71, 72, 73, 74, 75, 76, 77, 78, 79, 80, 81, 82, 83, 84, 85, 86, 87, 88, 89] (by decide +kernel) (by decide +kernel)) (goodIn_sub (fun _ h => List.mem_cons_of_mem _ (List.mem_append_left _ (List.mem_append_right _ h))) (by decide +kernel))) (goodIn_sub (fun _ h => List.mem_cons_of_mem _ (List.mem_append_right _ h)) (by decide +kernel))
set_option maxRecDepth 20000 in
theorem gL_ofBook_X3_ofBook : GoodIn wsL_ofBook (wsV RL 148 RX3 yX3_ofBook wsX3_ofBook) := goodIn_app (goodIn_of _ (by decide +kernel)) ggL_ofBook_X3_ofBook
theorem dL_ofBook_0 : decode cL_ofBook 0 = .ok (.aload_n 3, 1) := by decide +kernel
theorem dL_ofBook_1 : decode cL_ofBook 1 = .ok (.aload_n 0, 1) := by decide +kernel
theorem dL_ofBook_2 : decode cL_ofBook 2 = .ok (.iload_n 1, 1) := by decide +kernel
theorem dL_ofBook_3 : decode cL_ofBook 3 = .ok (.iload_n 2, 1) := by decide +kernel
theorem dL_ofBook_4 : decode cL_ofBook 4 = .ok (.invokevirtual 148, 3) := by decide +kernel
theorem dL_ofBook_7 : decode cL_ofBook 7 = .ok (.i2l, 1) := by decide +kernel
theorem dL_ofBook_8 : decode cL_ofBook 8 = .ok (.putfield 13, 3) := by decide +kernel
theorem dL_ofBook_11 : decode cL_ofBook 11 = .ok (.goto 11, 3) := by decide +kernel
theorem dL_ofBook_14 : decode cL_ofBook 14 = .ok (.astore 4, 2) := by decide +kernel
theorem dL_ofBook_16 : decode cL_ofBook 16 = .ok (.iconst 1, 1) := by decide +kernel
theorem dL_ofBook_17 : decode cL_ofBook 17 = .ok (.ireturn, 1) := by decide +kernel
theorem dL_ofBook_18 : decode cL_ofBook 18 = .ok (.astore 4, 2) := by decide +kernel
theorem dL_ofBook_20 : decode cL_ofBook 20 = .ok (.iconst 2, 1) := by decide +kernel
theorem dL_ofBook_21 : decode cL_ofBook 21 = .ok (.ireturn, 1) := by decide +kernel
theorem dL_ofBook_22 : decode cL_ofBook 22 = .ok (.iconst 0, 1) := by decide +kernel
theorem dL_ofBook_23 : decode cL_ofBook 23 = .ok (.ireturn, 1) := by decide +kernel
set_option maxRecDepth 20000 in
theorem ggL_near_X3_near : GoodIn wsL_near wsX3_near := goodIn_ca (goodIn_ca (goodIn_r _ [7, 8, 9, 10, 6, 11, 12, 13, 14, 15, 16, 17, 18, 19, 20, 21, 22, 23, 24, 25, 26, 27, 28, 29, 30, 31, 32, 33, 34, 35, 36, 37, 38, 39, 40, 41, 42, 43, 44, 45, 46, 47, 48, 49, 50, 51, 52, 53, 54, 55, 56, 57, 58, 59, 60, 61, 62, 63, 64, 65, 66, 67, 68, 69, 70, 71, 72, 73, 74, 77, 78, 79, 80, 81, 82, 83, 84, 85, 86, 87, 88, 89] (by decide +kernel) (by decide +kernel)) (goodIn_sub (fun _ h => List.mem_cons_of_mem _ (List.mem_append_left _ (List.mem_append_right _ h))) (by decide +kernel))) (goodIn_sub (fun _ h => List.mem_cons_of_mem _ (List.mem_append_right _ h)) (by decide +kernel))
set_option maxRecDepth 20000 in
theorem gL_near_X3_near : GoodIn wsL_near (wsV RL 151 RX3 yX3_near wsX3_near) := goodIn_app (goodIn_of _ (by decide +kernel)) ggL_near_X3_near
theorem dL_near_0 : decode cL_near 0 = .ok (.aload 4, 2) := by decide +kernel
theorem dL_near_2 : decode cL_near 2 = .ok (.aload_n 0, 1) := by decide +kernel
theorem dL_near_3 : decode cL_near 3 = .ok (.iload_n 1, 1) := by decide +kernel
theorem dL_near_4 : decode cL_near 4 = .ok (.iload_n 2, 1) := by decide +kernel
theorem dL_near_5 : decode cL_near 5 = .ok (.iload_n 3, 1) := by decide +kernel
theorem dL_near_6 : decode cL_near 6 = .ok (.invokevirtual 151, 3) := by decide +kernel
theorem dL_near_9 : decode cL_near 9 = .ok (.i2l, 1) := by decide +kernel
theorem dL_near_10 : decode cL_near 10 = .ok (.putfield 13, 3) := by decide +kernel
theorem dL_near_13 : decode cL_near 13 = .ok (.goto 11, 3) := by decide +kernel
theorem dL_near_16 : decode cL_near 16 = .ok (.astore 5, 2) := by decide +kernel
theorem dL_near_18 : decode cL_near 18 = .ok (.iconst 1, 1) := by decide +kernel
theorem dL_near_19 : decode cL_near 19 = .ok (.ireturn, 1) := by decide +kernel
theorem dL_near_20 : decode cL_near 20 = .ok (.astore 5, 2) := by decide +kernel
theorem dL_near_22 : decode cL_near 22 = .ok (.iconst 2, 1) := by decide +kernel
theorem dL_near_23 : decode cL_near 23 = .ok (.ireturn, 1) := by decide +kernel
theorem dL_near_24 : decode cL_near 24 = .ok (.iconst 0, 1) := by decide +kernel
theorem dL_near_25 : decode cL_near 25 = .ok (.ireturn, 1) := by decide +kernel
set_option maxRecDepth 20000 in
theorem ggL_place_X3_place : GoodIn wsL_place wsX3_place := goodIn_ca (goodIn_ca (goodIn_r _ [7, 8, 9, 10, 6, 11, 12, 13, 14, 15, 16, 17, 18, 19, 20, 21, 22, 23, 24, 25, 26, 27, 28, 29, 30, 31, 32, 33, 34, 35, 38, 39, 40, 41, 42, 43, 44, 45, 46, 47, 48, 49, 50] (by decide +kernel) (by decide +kernel)) (goodIn_sub (fun _ h => List.mem_cons_of_mem _ (List.mem_append_left _ (List.mem_append_right _ h))) (by decide +kernel))) (goodIn_sub (fun _ h => List.mem_cons_of_mem _ (List.mem_append_right _ h)) (by decide +kernel))
set_option maxRecDepth 20000 in
theorem gL_place_X3_place : GoodIn wsL_place (wsV RL 154 RX3 yX3_place wsX3_place) := goodIn_app (goodIn_of _ (by decide +kernel)) ggL_place_X3_place
theorem dL_place_0 : decode cL_place 0 = .ok (.aload_n 3, 1) := by decide +kernel
theorem dL_place_1 : decode cL_place 1 = .ok (.aload_n 0, 1) := by decide +kernel
theorem dL_place_2 : decode cL_place 2 = .ok (.iload_n 1, 1) := by decide +kernel
theorem dL_place_3 : decode cL_place 3 = .ok (.iload_n 2, 1) := by decide +kernel
theorem dL_place_4 : decode cL_place 4 = .ok (.invokevirtual 154, 3) := by decide +kernel
theorem dL_place_7 : decode cL_place 7 = .ok (.i2l, 1) := by decide +kernel
theorem dL_place_8 : decode cL_place 8 = .ok (.putfield 13, 3) := by decide +kernel
theorem dL_place_11 : decode cL_place 11 = .ok (.goto 11, 3) := by decide +kernel
theorem dL_place_14 : decode cL_place 14 = .ok (.astore 4, 2) := by decide +kernel
theorem dL_place_16 : decode cL_place 16 = .ok (.iconst 1, 1) := by decide +kernel
theorem dL_place_17 : decode cL_place 17 = .ok (.ireturn, 1) := by decide +kernel
theorem dL_place_18 : decode cL_place 18 = .ok (.astore 4, 2) := by decide +kernel
theorem dL_place_20 : decode cL_place 20 = .ok (.iconst 2, 1) := by decide +kernel
theorem dL_place_21 : decode cL_place 21 = .ok (.ireturn, 1) := by decide +kernel
theorem dL_place_22 : decode cL_place 22 = .ok (.iconst 0, 1) := by decide +kernel
theorem dL_place_23 : decode cL_place 23 = .ok (.ireturn, 1) := by decide +kernel
set_option maxRecDepth 20000 in
theorem ggL_at_X3_at : GoodIn wsL_at wsX3_at := goodIn_ca (goodIn_ca (goodIn_r _ [7, 8, 9, 10, 11, 12, 6, 13, 14, 15, 16, 17, 18, 19, 20, 21, 22, 23, 24, 25, 26, 27, 30, 31, 32, 33, 34, 35, 36, 37, 38, 39, 40, 41, 42] (by decide +kernel) (by decide +kernel)) (goodIn_sub (fun _ h => List.mem_cons_of_mem _ (List.mem_append_left _ (List.mem_append_right _ h))) (by decide +kernel))) (goodIn_sub (fun _ h => List.mem_cons_of_mem _ (List.mem_append_right _ h)) (by decide +kernel))
set_option maxRecDepth 20000 in
theorem gL_at_X3_at : GoodIn wsL_at (wsV RL 157 RX3 yX3_at wsX3_at) := goodIn_app (goodIn_of _ (by decide +kernel)) ggL_at_X3_at
theorem dL_at_0 : decode cL_at 0 = .ok (.aload_n 3, 1) := by decide +kernel
theorem dL_at_1 : decode cL_at 1 = .ok (.aload_n 0, 1) := by decide +kernel
theorem dL_at_2 : decode cL_at 2 = .ok (.iload_n 1, 1) := by decide +kernel
theorem dL_at_3 : decode cL_at 3 = .ok (.iload_n 2, 1) := by decide +kernel
theorem dL_at_4 : decode cL_at 4 = .ok (.invokevirtual 157, 3) := by decide +kernel
theorem dL_at_7 : decode cL_at 7 = .ok (.i2l, 1) := by decide +kernel
theorem dL_at_8 : decode cL_at 8 = .ok (.putfield 13, 3) := by decide +kernel
theorem dL_at_11 : decode cL_at 11 = .ok (.goto 11, 3) := by decide +kernel
theorem dL_at_14 : decode cL_at 14 = .ok (.astore 4, 2) := by decide +kernel
theorem dL_at_16 : decode cL_at 16 = .ok (.iconst 1, 1) := by decide +kernel
theorem dL_at_17 : decode cL_at 17 = .ok (.ireturn, 1) := by decide +kernel
theorem dL_at_18 : decode cL_at 18 = .ok (.astore 4, 2) := by decide +kernel
theorem dL_at_20 : decode cL_at 20 = .ok (.iconst 2, 1) := by decide +kernel
theorem dL_at_21 : decode cL_at 21 = .ok (.ireturn, 1) := by decide +kernel
theorem dL_at_22 : decode cL_at 22 = .ok (.iconst 0, 1) := by decide +kernel
theorem dL_at_23 : decode cL_at 23 = .ok (.ireturn, 1) := by decide +kernel
set_option maxRecDepth 20000 in
theorem ggL_row_X3_row : GoodIn wsL_row wsX3_row := goodIn_ca (goodIn_r _ [6, 7, 8, 9, 5, 10, 11, 12, 13, 14, 15, 16, 17, 18, 19, 20, 21, 22, 23, 24, 25, 26, 27, 28, 29, 30, 31, 32, 33, 34, 35, 36, 37, 38, 39, 40, 41, 42, 43, 44, 45, 46, 47, 48, 49, 50, 51, 52, 53, 54, 55, 56, 57, 58, 59, 60, 61, 62, 63, 64, 65, 66, 67, 68, 69, 70, 71, 72, 73, 74, 75, 76, 77, 78, 79, 80, 81, 82, 83, 84, 85, 86, 87, 88, 89, 90, 91, 92, 93, 94, 95, 96, 97, 98, 99, 100, 101, 102, 103, 104, 105, 106, 107, 108, 109, 110, 111, 112, 113, 114, 115, 116, 117, 118, 119, 120, 121, 122, 123, 124, 125, 126, 127, 128, 129, 130, 131, 132, 133, 134, 135, 136, 137, 138, 139, 140, 141, 142, 143, 144, 145, 146, 147, 148, 149, 150, 151, 152, 153, 154, 155, 156, 157, 158, 159, 160, 161, 162, 163, 164, 165, 166, 167, 168, 169, 170, 171, 172, 173, 174, 175, 176, 177, 178, 179, 180, 181, 182, 183, 184, 185, 186, 187, 188, 189, 190, 191, 192, 193, 194, 195, 196, 197, 198, 199, 200, 201, 202, 203, 204, 205, 206, 207, 208, 209, 210, 211, 212, 213, 214, 215, 216, 217, 218, 219, 220, 221, 222, 223, 224, 225, 226, 227, 228, 229, 230, 231, 232, 233, 234, 235, 236, 237, 238, 239, 240, 241, 242, 243, 244, 245, 246, 247, 248, 249, 250, 251, 252, 253, 254, 255, 256, 257, 258, 259, 260, 261, 262, 263, 264, 265, 266, 267, 268, 269, 270, 271, 272, 273, 274, 275, 276, 277, 278, 279, 280, 281, 282, 283, 284, 285, 286, 287, 288, 289, 290, 291, 292, 293, 294, 295, 298, 299, 300, 301, 302, 303, 304, 305, 306, 307, 308, 309, 310, 311, 312, 313, 314, 315, 316, 317, 318] (by decide +kernel) (by decide +kernel)) (goodIn_sub (fun _ h => List.mem_cons_of_mem _ (List.mem_append_right _ h)) (by decide +kernel))
set_option maxRecDepth 20000 in
theorem gL_row_X3_row : GoodIn wsL_row (wsV RL 160 RX3 yX3_row wsX3_row) := goodIn_app (goodIn_of _ (by decide +kernel)) ggL_row_X3_row
theorem dL_row_0 : decode cL_row 0 = .ok (.aload_n 2, 1) := by decide +kernel
theorem dL_row_1 : decode cL_row 1 = .ok (.aload_n 0, 1) := by decide +kernel
theorem dL_row_2 : decode cL_row 2 = .ok (.iload_n 1, 1) := by decide +kernel
theorem dL_row_3 : decode cL_row 3 = .ok (.invokevirtual 160, 3) := by decide +kernel
theorem dL_row_6 : decode cL_row 6 = .ok (.putfield 164, 3) := by decide +kernel
theorem dL_row_9 : decode cL_row 9 = .ok (.goto 6, 3) := by decide +kernel
theorem dL_row_12 : decode cL_row 12 = .ok (.astore_n 3, 1) := by decide +kernel
theorem dL_row_13 : decode cL_row 13 = .ok (.iconst 1, 1) := by decide +kernel
theorem dL_row_14 : decode cL_row 14 = .ok (.ireturn, 1) := by decide +kernel
theorem dL_row_15 : decode cL_row 15 = .ok (.iconst 0, 1) := by decide +kernel
theorem dL_row_16 : decode cL_row 16 = .ok (.ireturn, 1) := by decide +kernel
set_option maxRecDepth 20000 in
theorem ggL_same_X3_same : GoodIn wsL_same wsX3_same := goodIn_ca (goodIn_r _ [6, 7, 8, 9, 5, 10, 11, 12, 13, 14, 15, 16, 17, 18, 19, 20, 21, 22, 23, 24, 25, 26, 27, 28, 29, 30, 31, 32, 33, 34, 35, 36, 37, 38, 39, 40, 41, 42, 43, 44, 45, 46, 47, 48, 49, 50, 51, 52, 53, 54, 57, 58, 59, 60, 61, 62, 63, 64, 65, 66, 67, 68, 69] (by decide +kernel) (by decide +kernel)) (goodIn_sub (fun _ h => List.mem_cons_of_mem _ (List.mem_append_right _ h)) (by decide +kernel))
set_option maxRecDepth 20000 in
theorem gL_same_X3_same : GoodIn wsL_same (wsV RL 168 RX3 yX3_same wsX3_same) := goodIn_app (goodIn_of _ (by decide +kernel)) ggL_same_X3_same
theorem dL_same_0 : decode cL_same 0 = .ok (.aload_n 3, 1) := by decide +kernel
theorem dL_same_1 : decode cL_same 1 = .ok (.aload_n 0, 1) := by decide +kernel
theorem dL_same_2 : decode cL_same 2 = .ok (.iload_n 1, 1) := by decide +kernel
theorem dL_same_3 : decode cL_same 3 = .ok (.iload_n 2, 1) := by decide +kernel
theorem dL_same_4 : decode cL_same 4 = .ok (.invokevirtual 168, 3) := by decide +kernel
theorem dL_same_7 : decode cL_same 7 = .ok (.ifCond .eq 7, 3) := by decide +kernel
theorem dL_same_10 : decode cL_same 10 = .ok (.lconst 1, 1) := by decide +kernel
theorem dL_same_11 : decode cL_same 11 = .ok (.goto 4, 3) := by decide +kernel
theorem dL_same_14 : decode cL_same 14 = .ok (.lconst 0, 1) := by decide +kernel
theorem dL_same_15 : decode cL_same 15 = .ok (.putfield 13, 3) := by decide +kernel
theorem dL_same_18 : decode cL_same 18 = .ok (.goto 7, 3) := by decide +kernel
theorem dL_same_21 : decode cL_same 21 = .ok (.astore 4, 2) := by decide +kernel
theorem dL_same_23 : decode cL_same 23 = .ok (.iconst 1, 1) := by decide +kernel
theorem dL_same_24 : decode cL_same 24 = .ok (.ireturn, 1) := by decide +kernel
theorem dL_same_25 : decode cL_same 25 = .ok (.iconst 0, 1) := by decide +kernel
theorem dL_same_26 : decode cL_same 26 = .ok (.ireturn, 1) := by decide +kernel
set_option maxRecDepth 20000 in
theorem ggL_viewGet_X3_viewGet : GoodIn wsL_viewGet wsX3_viewGet := goodIn_ca (goodIn_ca (goodIn_r _ [7, 8, 9, 10, 6, 11, 12, 13, 14, 15, 16, 17, 18, 19, 20, 21, 22, 23, 24, 25, 26, 27, 28, 29, 30, 31, 32, 33, 34, 35, 36, 37, 38, 39, 40, 41, 42, 43, 44, 45, 46, 47, 48, 49, 50, 51, 52, 53, 54, 55, 56, 57, 58, 59, 60, 61, 62, 63, 64, 65, 68, 69, 70, 71, 72, 73, 74, 75, 76, 77, 78, 79, 80, 81, 82, 83, 84, 85, 86, 87] (by decide +kernel) (by decide +kernel)) (goodIn_sub (fun _ h => List.mem_cons_of_mem _ (List.mem_append_left _ (List.mem_append_right _ h))) (by decide +kernel))) (goodIn_sub (fun _ h => List.mem_cons_of_mem _ (List.mem_append_right _ h)) (by decide +kernel))
set_option maxRecDepth 20000 in
theorem gL_viewGet_X3_viewGet : GoodIn wsL_viewGet (wsV RL 171 RX3 yX3_viewGet wsX3_viewGet) := goodIn_app (goodIn_of _ (by decide +kernel)) ggL_viewGet_X3_viewGet
theorem dL_viewGet_0 : decode cL_viewGet 0 = .ok (.aload_n 3, 1) := by decide +kernel
theorem dL_viewGet_1 : decode cL_viewGet 1 = .ok (.aload_n 0, 1) := by decide +kernel
theorem dL_viewGet_2 : decode cL_viewGet 2 = .ok (.iload_n 1, 1) := by decide +kernel
theorem dL_viewGet_3 : decode cL_viewGet 3 = .ok (.iload_n 2, 1) := by decide +kernel
theorem dL_viewGet_4 : decode cL_viewGet 4 = .ok (.invokevirtual 171, 3) := by decide +kernel
theorem dL_viewGet_7 : decode cL_viewGet 7 = .ok (.i2l, 1) := by decide +kernel
theorem dL_viewGet_8 : decode cL_viewGet 8 = .ok (.putfield 13, 3) := by decide +kernel
theorem dL_viewGet_11 : decode cL_viewGet 11 = .ok (.goto 11, 3) := by decide +kernel
theorem dL_viewGet_14 : decode cL_viewGet 14 = .ok (.astore 4, 2) := by decide +kernel
theorem dL_viewGet_16 : decode cL_viewGet 16 = .ok (.iconst 1, 1) := by decide +kernel
theorem dL_viewGet_17 : decode cL_viewGet 17 = .ok (.ireturn, 1) := by decide +kernel
theorem dL_viewGet_18 : decode cL_viewGet 18 = .ok (.astore 4, 2) := by decide +kernel
theorem dL_viewGet_20 : decode cL_viewGet 20 = .ok (.iconst 2, 1) := by decide +kernel
theorem dL_viewGet_21 : decode cL_viewGet 21 = .ok (.ireturn, 1) := by decide +kernel
theorem dL_viewGet_22 : decode cL_viewGet 22 = .ok (.iconst 0, 1) := by decide +kernel
theorem dL_viewGet_23 : decode cL_viewGet 23 = .ok (.ireturn, 1) := by decide +kernel
set_option maxRecDepth 20000 in
theorem ggL_ofView_X3_ofView : GoodIn wsL_ofView wsX3_ofView := goodIn_ca (goodIn_ca (goodIn_r _ [7, 8, 9, 10, 6, 11, 12, 13, 14, 15, 16, 17, 18, 19, 20, 21, 22, 23, 24, 25, 26, 27, 28, 29, 30, 31, 32, 33, 34, 35, 36, 37, 38, 39, 40, 41, 42, 43, 44, 45, 46, 47, 48, 49, 50, 51, 52, 53, 54, 55, 56, 57, 58, 59, 60, 61, 62, 63, 64, 65, 66, 67, 68, 69, 70, 71, 72, 73, 74, 75, 76, 77, 78, 79, 80, 81, 82, 83, 84, 85, 86, 87, 88, 89, 90, 91, 94, 95, 96, 97, 98, 99, 100, 101, 102, 103, 104, 105, 106, 107, 108, 109, 110, 111, 112, 113] (by decide +kernel) (by decide +kernel)) (goodIn_sub (fun _ h => List.mem_cons_of_mem _ (List.mem_append_left _ (List.mem_append_right _ h))) (by decide +kernel))) (goodIn_sub (fun _ h => List.mem_cons_of_mem _ (List.mem_append_right _ h)) (by decide +kernel))
set_option maxRecDepth 20000 in
theorem gL_ofView_X3_ofView : GoodIn wsL_ofView (wsV RL 174 RX3 yX3_ofView wsX3_ofView) := goodIn_app (goodIn_of _ (by decide +kernel)) ggL_ofView_X3_ofView
theorem dL_ofView_0 : decode cL_ofView 0 = .ok (.aload_n 3, 1) := by decide +kernel
theorem dL_ofView_1 : decode cL_ofView 1 = .ok (.aload_n 0, 1) := by decide +kernel
theorem dL_ofView_2 : decode cL_ofView 2 = .ok (.iload_n 1, 1) := by decide +kernel
theorem dL_ofView_3 : decode cL_ofView 3 = .ok (.iload_n 2, 1) := by decide +kernel
theorem dL_ofView_4 : decode cL_ofView 4 = .ok (.invokevirtual 174, 3) := by decide +kernel
theorem dL_ofView_7 : decode cL_ofView 7 = .ok (.i2l, 1) := by decide +kernel
theorem dL_ofView_8 : decode cL_ofView 8 = .ok (.putfield 13, 3) := by decide +kernel
theorem dL_ofView_11 : decode cL_ofView 11 = .ok (.goto 11, 3) := by decide +kernel
theorem dL_ofView_14 : decode cL_ofView 14 = .ok (.astore 4, 2) := by decide +kernel
theorem dL_ofView_16 : decode cL_ofView 16 = .ok (.iconst 1, 1) := by decide +kernel
theorem dL_ofView_17 : decode cL_ofView 17 = .ok (.ireturn, 1) := by decide +kernel
theorem dL_ofView_18 : decode cL_ofView 18 = .ok (.astore 4, 2) := by decide +kernel
theorem dL_ofView_20 : decode cL_ofView 20 = .ok (.iconst 2, 1) := by decide +kernel
theorem dL_ofView_21 : decode cL_ofView 21 = .ok (.ireturn, 1) := by decide +kernel
theorem dL_ofView_22 : decode cL_ofView 22 = .ok (.iconst 0, 1) := by decide +kernel
theorem dL_ofView_23 : decode cL_ofView 23 = .ok (.ireturn, 1) := by decide +kernel
set_option maxRecDepth 20000 in
theorem ggL_viewNear_X3_viewNear : GoodIn wsL_viewNear wsX3_viewNear := goodIn_ca (goodIn_ca (goodIn_r _ [7, 8, 9, 10, 6, 11, 12, 13, 14, 15, 16, 17, 18, 19, 20, 21, 22, 23, 24, 25, 26, 27, 28, 29, 30, 31, 32, 33, 34, 35, 36, 37, 38, 39, 40, 41, 42, 43, 44, 45, 46, 47, 48, 49, 50, 51, 52, 53, 54, 55, 56, 57, 58, 59, 60, 61, 62, 63, 64, 65, 66, 67, 68, 69, 70, 71, 72, 73, 74, 75, 76, 77, 78, 81, 82, 83, 84, 85, 86, 87, 88, 89, 90, 91, 92, 93, 94, 95, 96, 97, 98, 99, 100] (by decide +kernel) (by decide +kernel)) (goodIn_sub (fun _ h => List.mem_cons_of_mem _ (List.mem_append_left _ (List.mem_append_right _ h))) (by decide +kernel))) (goodIn_sub (fun _ h => List.mem_cons_of_mem _ (List.mem_append_right _ h)) (by decide +kernel))
set_option maxRecDepth 20000 in
theorem gL_viewNear_X3_viewNear : GoodIn wsL_viewNear (wsV RL 177 RX3 yX3_viewNear wsX3_viewNear) := goodIn_app (goodIn_of _ (by decide +kernel)) ggL_viewNear_X3_viewNear
theorem dL_viewNear_0 : decode cL_viewNear 0 = .ok (.aload 4, 2) := by decide +kernel
theorem dL_viewNear_2 : decode cL_viewNear 2 = .ok (.aload_n 0, 1) := by decide +kernel
theorem dL_viewNear_3 : decode cL_viewNear 3 = .ok (.iload_n 1, 1) := by decide +kernel
theorem dL_viewNear_4 : decode cL_viewNear 4 = .ok (.iload_n 2, 1) := by decide +kernel
theorem dL_viewNear_5 : decode cL_viewNear 5 = .ok (.iload_n 3, 1) := by decide +kernel
theorem dL_viewNear_6 : decode cL_viewNear 6 = .ok (.invokevirtual 177, 3) := by decide +kernel
theorem dL_viewNear_9 : decode cL_viewNear 9 = .ok (.i2l, 1) := by decide +kernel
theorem dL_viewNear_10 : decode cL_viewNear 10 = .ok (.putfield 13, 3) := by decide +kernel
theorem dL_viewNear_13 : decode cL_viewNear 13 = .ok (.goto 11, 3) := by decide +kernel
theorem dL_viewNear_16 : decode cL_viewNear 16 = .ok (.astore 5, 2) := by decide +kernel
theorem dL_viewNear_18 : decode cL_viewNear 18 = .ok (.iconst 1, 1) := by decide +kernel
theorem dL_viewNear_19 : decode cL_viewNear 19 = .ok (.ireturn, 1) := by decide +kernel
theorem dL_viewNear_20 : decode cL_viewNear 20 = .ok (.astore 5, 2) := by decide +kernel
theorem dL_viewNear_22 : decode cL_viewNear 22 = .ok (.iconst 2, 1) := by decide +kernel
theorem dL_viewNear_23 : decode cL_viewNear 23 = .ok (.ireturn, 1) := by decide +kernel
theorem dL_viewNear_24 : decode cL_viewNear 24 = .ok (.iconst 0, 1) := by decide +kernel
theorem dL_viewNear_25 : decode cL_viewNear 25 = .ok (.ireturn, 1) := by decide +kernel
set_option maxRecDepth 20000 in
theorem ggL_viewRow_X3_viewRow : GoodIn wsL_viewRow wsX3_viewRow := goodIn_ca (goodIn_r _ [6, 7, 8, 9, 5, 10, 11, 12, 13, 14, 15, 16, 17, 18, 19, 20, 21, 22, 23, 24, 25, 26, 27, 28, 29, 30, 31, 32, 33, 34, 35, 36, 37, 38, 39, 40, 41, 42, 43, 44, 45, 46, 47, 48, 49, 50, 51, 52, 53, 54, 55, 56, 57, 58, 59, 60, 61, 62, 63, 64, 65, 66, 67, 68, 69, 70, 71, 72, 73, 74, 75, 76, 77, 78, 79, 80, 81, 82, 83, 84, 85, 86, 87, 88, 89, 90, 91, 92, 93, 94, 95, 96, 97, 98, 99, 100, 101, 102, 103, 104, 105, 106, 107, 108, 109, 110, 111, 112, 113, 114, 115, 116, 117, 118, 119, 120, 121, 122, 123, 124, 125, 126, 127, 128, 129, 130, 131, 132, 133, 134, 135, 136, 137, 138, 139, 140, 141, 142, 143, 144, 145, 146, 147, 148, 149, 150, 151, 152, 153, 154, 155, 156, 157, 158, 159, 160, 161, 162, 163, 164, 165, 166, 167, 168, 169, 170, 171, 172, 173, 174, 175, 176, 177, 178, 179, 180, 181, 182, 183, 184, 185, 186, 187, 188, 189, 190, 191, 192, 193, 194, 195, 196, 197, 198, 199, 200, 201, 202, 203, 204, 205, 206, 207, 208, 209, 210, 211, 212, 213, 214, 215, 216, 217, 218, 219, 220, 221, 222, 223, 224, 225, 226, 227, 228, 229, 230, 231, 232, 233, 234, 235, 236, 237, 238, 239, 240, 241, 242, 243, 244, 245, 246, 247, 248, 249, 250, 251, 252, 253, 254, 255, 256, 257, 258, 259, 260, 261, 262, 263, 264, 265, 266, 267, 268, 269, 270, 271, 272, 273, 274, 275, 276, 277, 278, 279, 280, 281, 282, 283, 284, 285, 286, 287, 288, 289, 290, 291, 292, 293, 294, 295, 296, 297, 298, 299, 300, 301, 302, 303, 304, 305, 306, 307, 308, 309, 310, 311, 312, 313, 314, 315, 316, 319, 320, 321, 322, 323, 324, 325, 326, 327, 328, 329, 330, 331, 332, 333, 334, 335, 336, 337, 338, 339, 340, 341, 342, 343, 344, 345, 346] (by decide +kernel) (by decide +kernel)) (goodIn_sub (fun _ h => List.mem_cons_of_mem _ (List.mem_append_right _ h)) (by decide +kernel))
set_option maxRecDepth 20000 in
theorem gL_viewRow_X3_viewRow : GoodIn wsL_viewRow (wsV RL 180 RX3 yX3_viewRow wsX3_viewRow) := goodIn_app (goodIn_of _ (by decide +kernel)) ggL_viewRow_X3_viewRow
theorem dL_viewRow_0 : decode cL_viewRow 0 = .ok (.aload_n 2, 1) := by decide +kernel
theorem dL_viewRow_1 : decode cL_viewRow 1 = .ok (.aload_n 0, 1) := by decide +kernel
theorem dL_viewRow_2 : decode cL_viewRow 2 = .ok (.iload_n 1, 1) := by decide +kernel
theorem dL_viewRow_3 : decode cL_viewRow 3 = .ok (.invokevirtual 180, 3) := by decide +kernel
theorem dL_viewRow_6 : decode cL_viewRow 6 = .ok (.putfield 164, 3) := by decide +kernel
theorem dL_viewRow_9 : decode cL_viewRow 9 = .ok (.goto 6, 3) := by decide +kernel
theorem dL_viewRow_12 : decode cL_viewRow 12 = .ok (.astore_n 3, 1) := by decide +kernel
theorem dL_viewRow_13 : decode cL_viewRow 13 = .ok (.iconst 1, 1) := by decide +kernel
theorem dL_viewRow_14 : decode cL_viewRow 14 = .ok (.ireturn, 1) := by decide +kernel
theorem dL_viewRow_15 : decode cL_viewRow 15 = .ok (.iconst 0, 1) := by decide +kernel
theorem dL_viewRow_16 : decode cL_viewRow 16 = .ok (.ireturn, 1) := by decide +kernel
set_option maxRecDepth 20000 in
theorem ggL_ledger_X3_ledger : GoodIn wsL_ledger wsX3_ledger := goodIn_ca (goodIn_r _ [6, 7, 8, 9, 10, 11, 12, 5, 13, 14, 15, 16, 17, 18, 19, 20, 21, 22, 23, 24, 25, 26, 27, 28, 29, 30, 31, 32, 33, 34, 35, 36, 37, 38, 39, 40, 41, 42, 43, 44, 45, 46, 47, 48, 49, 50, 51, 52, 53, 54, 55, 56, 57, 58, 59, 60, 61, 64, 65, 66, 67, 68, 69, 70, 71, 72, 73, 74, 75, 76, 77, 78, 79, 80, 81, 82, 83, 84, 85, 86, 87, 88] (by decide +kernel) (by decide +kernel)) (goodIn_sub (fun _ h => List.mem_cons_of_mem _ (List.mem_append_right _ h)) (by decide +kernel))
set_option maxRecDepth 20000 in
theorem gL_ledger_X3_ledger : GoodIn wsL_ledger (wsV RL 183 RX3 yX3_ledger wsX3_ledger) := goodIn_app (goodIn_of _ (by decide +kernel)) ggL_ledger_X3_ledger
theorem dL_ledger_0 : decode cL_ledger 0 = .ok (.aload_n 2, 1) := by decide +kernel
theorem dL_ledger_1 : decode cL_ledger 1 = .ok (.aload_n 0, 1) := by decide +kernel
theorem dL_ledger_2 : decode cL_ledger 2 = .ok (.iload_n 1, 1) := by decide +kernel
theorem dL_ledger_3 : decode cL_ledger 3 = .ok (.invokevirtual 183, 3) := by decide +kernel
theorem dL_ledger_6 : decode cL_ledger 6 = .ok (.i2l, 1) := by decide +kernel
theorem dL_ledger_7 : decode cL_ledger 7 = .ok (.putfield 13, 3) := by decide +kernel
theorem dL_ledger_10 : decode cL_ledger 10 = .ok (.goto 6, 3) := by decide +kernel
theorem dL_ledger_13 : decode cL_ledger 13 = .ok (.astore_n 3, 1) := by decide +kernel
theorem dL_ledger_14 : decode cL_ledger 14 = .ok (.iconst 1, 1) := by decide +kernel
theorem dL_ledger_15 : decode cL_ledger 15 = .ok (.ireturn, 1) := by decide +kernel
theorem dL_ledger_16 : decode cL_ledger 16 = .ok (.iconst 0, 1) := by decide +kernel
theorem dL_ledger_17 : decode cL_ledger 17 = .ok (.ireturn, 1) := by decide +kernel
set_option maxRecDepth 20000 in
theorem ggL_law_X3_init : GoodIn wsL_law wsX3_init := goodIn_r _ [11, 12, 13, 14, 15, 16, 17, 18, 19, 20, 21, 22, 23, 24, 25, 26, 27, 28, 29, 30, 31, 1462, 1463, 1464, 1465, 1466, 1467, 1483, 1484, 1485, 1486, 1487, 1488, 1489] (by decide +kernel) (by decide +kernel)
set_option maxRecDepth 20000 in
theorem gL_law_X3_init : GoodIn wsL_law (wsX3_init) := ggL_law_X3_init
set_option maxRecDepth 20000 in
theorem ggL_law_X5_init : GoodIn wsL_law wsX5_init := goodIn_r _ [34, 35, 13, 14, 36, 28, 37, 38, 39, 40, 41, 42, 43, 44, 45, 46, 47, 5, 48, 1468, 1469, 1470, 1471, 1472, 1473, 1474, 1475, 1476, 1477, 1478, 1479, 1480] (by decide +kernel) (by decide +kernel)
set_option maxRecDepth 20000 in
theorem gL_law_X5_init : GoodIn wsL_law (wsX5_init) := ggL_law_X5_init
set_option maxRecDepth 20000 in
theorem ggL_law_X4_init : GoodIn wsL_law wsX4_init := goodIn_r _ [50, 51, 13, 14] (by decide +kernel) (by decide +kernel)
set_option maxRecDepth 20000 in
theorem gL_law_X4_init_n190 : GoodIn wsL_law (wsX4_init) := ggL_law_X4_init
set_option maxRecDepth 20000 in
theorem ggL_law_L_put : GoodIn wsL_law wsL_put := goodIn_ca (goodIn_ca (goodIn_r _ [55, 56, 57, 58, 59, 60, 2, 61, 62, 63, 64, 65, 66, 67, 68, 69, 70, 71, 16, 72, 73, 74, 75, 76, 77, 78, 79, 80, 81, 82, 18, 83, 84, 85, 86, 87, 88, 29, 30, 89, 90, 91, 92, 93, 94, 95, 96, 31, 97, 98, 99, 100, 101, 102, 103, 104, 105, 106, 107, 108, 109, 110, 111, 112, 113, 114, 1481, 1482, 1462, 1463, 1464, 1465, 1466, 1467, 1483, 1484, 1485, 1486, 1487, 1488, 1489] (by decide +kernel) (by decide +kernel)) (goodIn_sub (fun _ h => List.mem_append_left _ (List.mem_append_left _ (List.mem_append_right _ h))) (by decide +kernel))) (goodIn_sub (fun _ h => List.mem_append_left _ (List.mem_append_right _ h)) (by decide +kernel))
set_option maxRecDepth 20000 in
theorem gL_law_L_put : GoodIn wsL_law (va_wsS RL 191 yL_put wsL_put) := goodIn_app (goodIn_of _ (by decide +kernel)) ggL_law_L_put
set_option maxRecDepth 20000 in
theorem ggL_law_X5_put : GoodIn wsL_law wsX5_put := goodIn_r _ [118, 119, 120, 121, 5, 122, 123, 124, 125, 126, 127, 128, 129, 130, 131, 132, 133, 134, 135, 136, 137, 138, 139, 140, 141, 142, 143, 144, 145, 146, 147, 148, 43, 149, 150, 151, 152, 37, 153, 1468, 1469, 1470, 1471, 1472, 1473, 1474, 1475, 1476, 1477, 1478, 1479, 1480] (by decide +kernel) (by decide +kernel)
set_option maxRecDepth 20000 in
theorem gL_law_X5_put : GoodIn wsL_law (wsV RL 196 RX5 yX5_put wsX5_put) := goodIn_app (goodIn_of _ (by decide +kernel)) ggL_law_X5_put
set_option maxRecDepth 20000 in
theorem ggL_law_L_putAbsent : GoodIn wsL_law wsL_putAbsent := goodIn_ca (goodIn_ca (goodIn_r _ [156, 56, 57, 157, 158, 159, 2, 160, 62, 63, 64, 65, 66, 67, 68, 69, 70, 71, 16, 72, 73, 74, 75, 76, 77, 78, 79, 80, 81, 82, 18, 83, 84, 161, 162, 163, 164, 165, 166, 167, 168, 89, 90, 91, 92, 93, 94, 95, 96, 31, 97, 98, 99, 100, 101, 29, 169, 170, 171, 172, 102, 103, 104, 105, 173, 174, 175, 176, 30, 177, 85, 86, 87, 88, 106, 107, 108, 109, 110, 111, 112, 113, 114, 1481, 1482, 1462, 1463, 1464, 1465, 1466, 1467, 1483, 1484, 1485, 1486, 1487, 1488, 1489] (by decide +kernel) (by decide +kernel)) (goodIn_sub (fun _ h => List.mem_append_left _ (List.mem_append_left _ (List.mem_append_right _ h))) (by decide +kernel))) (goodIn_sub (fun _ h => List.mem_append_left _ (List.mem_append_right _ h)) (by decide +kernel))
set_option maxRecDepth 20000 in
theorem gL_law_L_putAbsent : GoodIn wsL_law (va_wsS RL 197 yL_putAbsent wsL_putAbsent) := goodIn_app (goodIn_of _ (by decide +kernel)) ggL_law_L_putAbsent
set_option maxRecDepth 20000 in
theorem ggL_law_X5_putAbsent : GoodIn wsL_law wsX5_putAbsent := goodIn_r _ [181, 37, 119, 120, 121, 5, 122, 123, 124, 125, 126, 127, 128, 129, 130, 131, 132, 133, 134, 135, 136, 137, 138, 139, 140, 141, 142, 143, 144, 145, 146, 147, 148, 43, 149, 150, 151, 152, 153, 1468, 1469, 1470, 1471, 1472, 1473, 1474, 1475, 1476, 1477, 1478, 1479, 1480] (by decide +kernel) (by decide +kernel)
set_option maxRecDepth 20000 in
theorem gL_law_X5_putAbsent : GoodIn wsL_law (wsV RL 199 RX5 yX5_putAbsent wsX5_putAbsent) := goodIn_app (goodIn_of _ (by decide +kernel)) ggL_law_X5_putAbsent
set_option maxRecDepth 20000 in
theorem ggL_law_L_replace : GoodIn wsL_law wsL_replace := goodIn_ca (goodIn_ca (goodIn_r _ [184, 56, 57, 185, 186, 187, 2, 188, 62, 63, 64, 65, 66, 67, 68, 69, 70, 71, 16, 72, 73, 74, 75, 76, 77, 78, 79, 80, 81, 82, 18, 83, 84, 161, 162, 163, 164, 165, 166, 167, 168, 89, 90, 91, 92, 93, 94, 95, 96, 31, 97, 98, 99, 100, 101, 29, 169, 170, 171, 172, 102, 103, 104, 105, 173, 174, 175, 176, 30, 85, 86, 87, 88, 106, 107, 108, 109, 110, 111, 112, 113, 114, 1481, 1482, 1462, 1463, 1464, 1465, 1466, 1467, 1483, 1484, 1485, 1486, 1487, 1488, 1489] (by decide +kernel) (by decide +kernel)) (goodIn_sub (fun _ h => List.mem_append_left _ (List.mem_append_left _ (List.mem_append_right _ h))) (by decide +kernel))) (goodIn_sub (fun _ h => List.mem_append_left _ (List.mem_append_right _ h)) (by decide +kernel))
set_option maxRecDepth 20000 in
theorem gL_law_L_replace : GoodIn wsL_law (va_wsS RL 200 yL_replace wsL_replace) := goodIn_app (goodIn_of _ (by decide +kernel)) ggL_law_L_replace
set_option maxRecDepth 20000 in
theorem ggL_law_X5_replace : GoodIn wsL_law wsX5_replace := goodIn_r _ [192, 37, 119, 120, 121, 5, 122, 123, 124, 125, 126, 127, 128, 129, 130, 131, 132, 133, 134, 135, 136, 137, 138, 139, 140, 141, 142, 143, 144, 145, 146, 147, 148, 43, 149, 150, 151, 152, 153, 1468, 1469, 1470, 1471, 1472, 1473, 1474, 1475, 1476, 1477, 1478, 1479, 1480] (by decide +kernel) (by decide +kernel)
set_option maxRecDepth 20000 in
theorem gL_law_X5_replace : GoodIn wsL_law (wsV RL 202 RX5 yX5_replace wsX5_replace) := goodIn_app (goodIn_of _ (by decide +kernel)) ggL_law_X5_replace
set_option maxRecDepth 20000 in
theorem ggL_law_L_swap : GoodIn wsL_law wsL_swap := goodIn_ca (goodIn_ca (goodIn_r _ [195, 56, 57, 196, 197, 198, 2, 199, 66, 67, 68, 69, 70, 71, 16, 72, 73, 74, 75, 76, 77, 78, 79, 80, 81, 82, 18, 83, 84, 177, 166, 167, 168, 89, 90, 91, 92, 93, 94, 95, 96, 31, 97, 98, 99, 100, 101, 29, 169, 170, 171, 172, 102, 103, 104, 105, 173, 174, 175, 176, 30, 85, 86, 87, 88, 106, 107, 108, 109, 110, 111, 112, 113, 114, 1481, 1482, 1462, 1463, 1464, 1465, 1466, 1467, 1483, 1484, 1485, 1486, 1487, 1488, 1489] (by decide +kernel) (by decide +kernel)) (goodIn_sub (fun _ h => List.mem_append_left _ (List.mem_append_left _ (List.mem_append_right _ h))) (by decide +kernel))) (goodIn_sub (fun _ h => List.mem_append_left _ (List.mem_append_right _ h)) (by decide +kernel))
set_option maxRecDepth 20000 in
theorem gL_law_L_swap : GoodIn wsL_law (va_wsS RL 203 yL_swap wsL_swap) := goodIn_app (goodIn_of _ (by decide +kernel)) ggL_law_L_swap
set_option maxRecDepth 20000 in
theorem ggL_law_X5_swap : GoodIn wsL_law wsX5_swap := goodIn_r _ [203, 37, 119, 120, 121, 5, 122, 123, 124, 125, 126, 127, 128, 129, 130, 131, 132, 133, 134, 135, 136, 137, 138, 139, 140, 141, 142, 143, 144, 145, 146, 147, 148, 43, 149, 150, 151, 152, 153, 1468, 1469, 1470, 1471, 1472, 1473, 1474, 1475, 1476, 1477, 1478, 1479, 1480] (by decide +kernel) (by decide +kernel)
set_option maxRecDepth 20000 in
theorem gL_law_X5_swap : GoodIn wsL_law (wsV RL 206 RX5 yX5_swap wsX5_swap) := goodIn_app (goodIn_of _ (by decide +kernel)) ggL_law_X5_swap
set_option maxRecDepth 20000 in
theorem ggL_law_L_strike : GoodIn wsL_law wsL_strike := goodIn_ca (goodIn_ca (goodIn_r _ [206, 56, 57, 207, 208, 209, 2, 210, 211, 212, 213, 214, 66, 67, 68, 69, 70, 71, 16, 72, 73, 74, 75, 76, 80, 81, 82, 18, 83, 84, 215, 216, 217, 218, 89, 90, 91, 92, 93, 94, 95, 96, 31, 97, 98, 99, 100, 101, 29, 169, 170, 171, 172, 102, 103, 104, 105, 173, 174, 175, 176, 30, 219, 220, 221, 222, 110, 111, 112, 113, 114, 1481, 1482, 1462, 1463, 1464, 1465, 1466, 1467, 1483, 1484, 1485, 1486, 1487, 1488, 1489] (by decide +kernel) (by decide +kernel)) (goodIn_sub (fun _ h => List.mem_append_left _ (List.mem_append_left _ (List.mem_append_right _ h))) (by decide +kernel))) (goodIn_sub (fun _ h => List.mem_append_left _ (List.mem_append_right _ h)) (by decide +kernel))
set_option maxRecDepth 20000 in
theorem gL_law_L_strike : GoodIn wsL_law (va_wsS RL 207 yL_strike wsL_strike) := goodIn_app (goodIn_of _ (by decide +kernel)) ggL_law_L_strike
set_option maxRecDepth 20000 in
theorem ggL_law_X5_strike : GoodIn wsL_law wsX5_strike := goodIn_r _ [226, 227, 228, 229, 5, 230, 123, 124, 125, 126, 127, 128, 129, 130, 131, 132, 133, 134, 135, 136, 137, 138, 139, 140, 144, 145, 146, 147, 148, 43, 149, 150, 151, 152, 37, 153, 1468, 1469, 1470, 1471, 1472, 1473, 1474, 1475, 1476, 1477, 1478, 1479, 1480] (by decide +kernel) (by decide +kernel)
set_option maxRecDepth 20000 in
theorem gL_law_X5_strike : GoodIn wsL_law (wsV RL 210 RX5 yX5_strike wsX5_strike) := goodIn_app (goodIn_of _ (by decide +kernel)) ggL_law_X5_strike
set_option maxRecDepth 20000 in
theorem ggL_law_L_strikePair : GoodIn wsL_law wsL_strikePair := goodIn_ca (goodIn_ca (goodIn_r _ [233, 56, 57, 234, 235, 236, 2, 237, 62, 63, 64, 65, 66, 67, 68, 69, 70, 71, 16, 72, 73, 74, 75, 76, 77, 78, 79, 80, 81, 82, 18, 83, 84, 177, 166, 167, 168, 89, 90, 91, 92, 93, 94, 95, 96, 31, 97, 98, 99, 100, 101, 29, 169, 170, 171, 172, 102, 103, 104, 105, 173, 174, 175, 176, 30, 215, 216, 217, 218, 219, 220, 221, 222, 110, 111, 112, 113, 114, 1481, 1482, 1462, 1463, 1464, 1465, 1466, 1467, 1483, 1484, 1485, 1486, 1487, 1488, 1489] (by decide +kernel) (by decide +kernel)) (goodIn_sub (fun _ h => List.mem_append_left _ (List.mem_append_left _ (List.mem_append_right _ h))) (by decide +kernel))) (goodIn_sub (fun _ h => List.mem_append_left _ (List.mem_append_right _ h)) (by decide +kernel))
set_option maxRecDepth 20000 in
theorem gL_law_L_strikePair : GoodIn wsL_law (va_wsS RL 211 yL_strikePair wsL_strikePair) := goodIn_app (goodIn_of _ (by decide +kernel)) ggL_law_L_strikePair
set_option maxRecDepth 20000 in
theorem ggL_law_X5_strikePair : GoodIn wsL_law wsX5_strikePair := goodIn_r _ [241, 37, 119, 120, 121, 5, 122, 123, 124, 125, 126, 127, 128, 129, 130, 131, 132, 133, 134, 135, 136, 137, 138, 139, 140, 141, 142, 143, 144, 145, 146, 147, 148, 43, 149, 150, 151, 152, 153, 1468, 1469, 1470, 1471, 1472, 1473, 1474, 1475, 1476, 1477, 1478, 1479, 1480] (by decide +kernel) (by decide +kernel)
set_option maxRecDepth 20000 in
theorem gL_law_X5_strikePair : GoodIn wsL_law (wsV RL 213 RX5 yX5_strikePair wsX5_strikePair) := goodIn_app (goodIn_of _ (by decide +kernel)) ggL_law_X5_strikePair
set_option maxRecDepth 20000 in
theorem ggL_law_L_merge : GoodIn wsL_law wsL_merge := goodIn_ca (goodIn_ca (goodIn_r _ [244, 56, 57, 245, 246, 247, 2, 248, 62, 63, 64, 65, 66, 67, 68, 69, 70, 71, 16, 72, 73, 74, 75, 76, 77, 78, 79, 80, 81, 82, 18, 83, 84, 249, 250, 251, 252, 253, 162, 163, 164, 165, 166, 167, 168, 89, 90, 91, 92, 93, 94, 95, 96, 31, 97, 98, 99, 100, 101, 29, 169, 170, 171, 172, 102, 103, 104, 105, 173, 174, 175, 176, 30, 254, 86, 87, 88, 106, 107, 108, 109, 110, 111, 112, 113, 114, 255, 256, 257, 258, 259, 260, 261, 262, 263, 264, 265, 266, 267, 268, 269, 216, 217, 218, 219, 220, 221, 222, 1481, 1482, 1462, 1463, 1464, 1465, 1466, 1467, 1483, 1484, 1485, 1486, 1487, 1488, 1489] (by decide +kernel) (by decide +kernel)) (goodIn_sub (fun _ h => List.mem_append_left _ (List.mem_append_left _ (List.mem_append_right _ h))) (by decide +kernel))) (goodIn_sub (fun _ h => List.mem_append_left _ (List.mem_append_right _ h)) (by decide +kernel))
set_option maxRecDepth 20000 in
theorem gL_law_L_merge : GoodIn wsL_law (va_wsS RL 214 yL_merge wsL_merge) := goodIn_app (goodIn_of _ (by decide +kernel)) ggL_law_L_merge
set_option maxRecDepth 20000 in
theorem ggL_law_X5_merge : GoodIn wsL_law wsX5_merge := goodIn_r _ [273, 119, 120, 121, 5, 122, 123, 124, 125, 126, 127, 128, 129, 130, 131, 132, 133, 134, 135, 136, 137, 138, 139, 140, 141, 142, 143, 144, 145, 146, 147, 148, 43, 274, 275, 276, 277, 37, 278, 279, 280, 149, 150, 151, 152, 153, 1468, 1469, 1470, 1471, 1472, 1473, 1474, 1475, 1476, 1477, 1478, 1479, 1480] (by decide +kernel) (by decide +kernel)
set_option maxRecDepth 20000 in
theorem gL_law_X5_merge : GoodIn wsL_law (wsV RL 216 RX5 yX5_merge wsX5_merge) := goodIn_app (goodIn_of _ (by decide +kernel)) ggL_law_X5_merge
set_option maxRecDepth 20000 in
theorem ggL_law_L_grow : GoodIn wsL_law wsL_grow := goodIn_ca (goodIn_ca (goodIn_r _ [283, 56, 57, 284, 285, 286, 2, 287, 211, 212, 213, 214, 66, 67, 68, 69, 70, 71, 16, 72, 73, 74, 75, 76, 80, 81, 82, 18, 83, 84, 288, 289, 290, 291, 253, 162, 163, 164, 165, 166, 167, 168, 89, 90, 91, 92, 93, 94, 95, 96, 31, 97, 98, 99, 100, 101, 29, 169, 170, 171, 172, 102, 103, 104, 105, 173, 174, 175, 176, 30, 254, 86, 87, 88, 106, 107, 108, 109, 110, 111, 112, 113, 114, 1481, 1482, 1462, 1463, 1464, 1465, 1466, 1467, 1483, 1484, 1485, 1486, 1487, 1488, 1489] (by decide +kernel) (by decide +kernel)) (goodIn_sub (fun _ h => List.mem_append_left _ (List.mem_append_left _ (List.mem_append_right _ h))) (by decide +kernel))) (goodIn_sub (fun _ h => List.mem_append_left _ (List.mem_append_right _ h)) (by decide +kernel))
set_option maxRecDepth 20000 in
theorem gL_law_L_grow : GoodIn wsL_law (va_wsS RL 217 yL_grow wsL_grow) := goodIn_app (goodIn_of _ (by decide +kernel)) ggL_law_L_grow
set_option maxRecDepth 20000 in
theorem ggL_law_X5_grow : GoodIn wsL_law wsX5_grow := goodIn_r _ [295, 37, 227, 228, 229, 5, 230, 123, 124, 125, 126, 127, 128, 129, 130, 131, 132, 133, 134, 135, 136, 137, 138, 139, 140, 144, 145, 146, 147, 148, 43, 149, 150, 151, 152, 153, 1468, 1469, 1470, 1471, 1472, 1473, 1474, 1475, 1476, 1477, 1478, 1479, 1480] (by decide +kernel) (by decide +kernel)
set_option maxRecDepth 20000 in
theorem gL_law_X5_grow : GoodIn wsL_law (wsV RL 219 RX5 yX5_grow wsX5_grow) := goodIn_app (goodIn_of _ (by decide +kernel)) ggL_law_X5_grow
set_option maxRecDepth 20000 in
theorem ggL_law_L_halve : GoodIn wsL_law wsL_halve := goodIn_ca (goodIn_ca (goodIn_r _ [298, 56, 57, 299, 300, 301, 2, 302, 211, 212, 213, 214, 66, 67, 68, 69, 70, 71, 16, 72, 73, 74, 75, 76, 80, 81, 82, 18, 83, 84, 303, 304, 305, 306, 253, 162, 163, 164, 165, 166, 167, 168, 89, 90, 91, 92, 93, 94, 95, 96, 31, 97, 98, 99, 100, 101, 29, 169, 170, 171, 172, 102, 103, 104, 105, 173, 174, 175, 176, 30, 265, 266, 267, 268, 269, 216, 217, 218, 219, 220, 221, 222, 110, 111, 112, 113, 114, 254, 86, 87, 88, 106, 107, 108, 109, 1481, 1482, 1462, 1463, 1464, 1465, 1466, 1467, 1483, 1484, 1485, 1486, 1487, 1488, 1489] (by decide +kernel) (by decide +kernel)) (goodIn_sub (fun _ h => List.mem_append_left _ (List.mem_append_left _ (List.mem_append_right _ h))) (by decide +kernel))) (goodIn_sub (fun _ h => List.mem_append_left _ (List.mem_append_right _ h)) (by decide +kernel))
set_option maxRecDepth 20000 in
theorem gL_law_L_halve : GoodIn wsL_law (va_wsS RL 220 yL_halve wsL_halve) := goodIn_app (goodIn_of _ (by decide +kernel)) ggL_law_L_halve
set_option maxRecDepth 20000 in
theorem ggL_law_X5_halve : GoodIn wsL_law wsX5_halve := goodIn_r _ [310, 37, 227, 228, 229, 5, 230, 123, 124, 125, 126, 127, 128, 129, 130, 131, 132, 133, 134, 135, 136, 137, 138, 139, 140, 144, 145, 146, 147, 148, 43, 149, 150, 151, 152, 153, 1468, 1469, 1470, 1471, 1472, 1473, 1474, 1475, 1476, 1477, 1478, 1479, 1480] (by decide +kernel) (by decide +kernel)
set_option maxRecDepth 20000 in
theorem gL_law_X5_halve : GoodIn wsL_law (wsV RL 222 RX5 yX5_halve wsX5_halve) := goodIn_app (goodIn_of _ (by decide +kernel)) ggL_law_X5_halve
set_option maxRecDepth 20000 in
theorem ggL_law_L_twice : GoodIn wsL_law wsL_twice := goodIn_ca (goodIn_ca (goodIn_r _ [313, 56, 57, 314, 315, 316, 2, 317, 211, 212, 213, 214, 66, 67, 68, 69, 70, 71, 16, 72, 73, 74, 75, 76, 80, 81, 82, 18, 83, 84, 318, 319, 320, 321, 165, 166, 167, 168, 89, 90, 91, 92, 93, 94, 95, 96, 31, 97, 98, 99, 100, 101, 29, 169, 170, 171, 172, 102, 103, 104, 105, 173, 174, 175, 176, 30, 254, 86, 87, 88, 106, 107, 108, 109, 110, 111, 112, 113, 114, 269, 216, 217, 218, 219, 220, 221, 222, 1481, 1482, 1462, 1463, 1464, 1465, 1466, 1467, 1483, 1484, 1485, 1486, 1487, 1488, 1489] (by decide +kernel) (by decide +kernel)) (goodIn_sub (fun _ h => List.mem_append_left _ (List.mem_append_left _ (List.mem_append_right _ h))) (by decide +kernel))) (goodIn_sub (fun _ h => List.mem_append_left _ (List.mem_append_right _ h)) (by decide +kernel))
set_option maxRecDepth 20000 in
theorem gL_law_L_twice : GoodIn wsL_law (va_wsS RL 223 yL_twice wsL_twice) := goodIn_app (goodIn_of _ (by decide +kernel)) ggL_law_L_twice
set_option maxRecDepth 20000 in
theorem ggL_law_X5_twice : GoodIn wsL_law wsX5_twice := goodIn_r _ [325, 37, 227, 228, 229, 5, 230, 123, 124, 125, 126, 127, 128, 129, 130, 131, 132, 133, 134, 135, 136, 137, 138, 139, 140, 144, 145, 146, 147, 148, 43, 149, 150, 151, 152, 153, 1468, 1469, 1470, 1471, 1472, 1473, 1474, 1475, 1476, 1477, 1478, 1479, 1480] (by decide +kernel) (by decide +kernel)
set_option maxRecDepth 20000 in
theorem gL_law_X5_twice : GoodIn wsL_law (wsV RL 225 RX5 yX5_twice wsX5_twice) := goodIn_app (goodIn_of _ (by decide +kernel)) ggL_law_X5_twice
set_option maxRecDepth 20000 in
theorem ggL_law_L_poll : GoodIn wsL_law wsL_poll := goodIn_ca (goodIn_r _ [328, 56, 329, 330, 331, 2, 332, 66, 67, 68, 69, 70, 71, 16, 80, 81, 82, 18, 83, 84, 333, 334, 335, 336, 101, 337, 338, 339, 340, 169, 170, 171, 172, 29, 102, 103, 104, 105, 219, 220, 221, 222, 110, 111, 112, 113, 30, 114, 1481, 1482, 1462, 1463, 1464, 1465, 1466, 1467, 1483, 1484, 1485, 1486, 1487, 1488, 1489] (by decide +kernel) (by decide +kernel)) (goodIn_sub (fun _ h => List.mem_append_left _ (List.mem_append_left _ (List.mem_append_right _ h))) (by decide +kernel))
set_option maxRecDepth 20000 in
theorem gL_law_L_poll : GoodIn wsL_law (va_wsS RL 226 yL_poll wsL_poll) := goodIn_app (goodIn_of _ (by decide +kernel)) ggL_law_L_poll
set_option maxRecDepth 20000 in
theorem ggL_law_X5_poll : GoodIn wsL_law wsX5_poll := goodIn_r _ [344, 123, 124, 5, 125, 126, 127, 128, 129, 130, 131, 132, 133, 134, 135, 136, 137, 144, 145, 146, 147, 148, 43, 345, 346, 347, 28, 348, 349, 350, 351, 352, 353, 354, 355, 356, 357, 358, 359, 37, 360, 361, 362, 363, 364, 365, 366, 367, 39, 38, 149, 150, 151, 152, 153, 1468, 1469, 1470, 1471, 1472, 1473, 1474, 1475, 1476, 1477, 1478, 1479, 1480] (by decide +kernel) (by decide +kernel)
set_option maxRecDepth 20000 in
theorem gL_law_X5_poll : GoodIn wsL_law (wsV RL 229 RX5 yX5_poll wsX5_poll) := goodIn_app (goodIn_of _ (by decide +kernel)) ggL_law_X5_poll
set_option maxRecDepth 20000 in
theorem ggL_law_L_raise : GoodIn wsL_law wsL_raise := goodIn_ca (goodIn_ca (goodIn_r _ [370, 56, 57, 371, 372, 373, 2, 374, 75, 76, 66, 67, 68, 69, 70, 71, 16, 80, 81, 82, 18, 83, 84, 375, 376, 377, 378, 101, 30, 255, 256, 257, 258, 259, 260, 261, 262, 263, 264, 1481, 1482, 1462, 1463, 1464, 1465, 1466, 1467, 1483, 1484, 1485, 1486, 1487, 1488, 1489] (by decide +kernel) (by decide +kernel)) (goodIn_sub (fun _ h => List.mem_append_left _ (List.mem_append_right _ h)) (by decide +kernel))) (goodIn_sub (fun _ h => List.mem_append_left _ (List.mem_append_left _ (List.mem_append_right _ h))) (by decide +kernel))
set_option maxRecDepth 20000 in
theorem gL_law_L_raise : GoodIn wsL_law (va_wsS RL 230 yL_raise wsL_raise) := goodIn_app (goodIn_of _ (by decide +kernel)) ggL_law_L_raise
set_option maxRecDepth 20000 in
theorem ggL_law_X5_raise : GoodIn wsL_law wsX5_raise := goodIn_r _ [382, 37, 123, 124, 5, 125, 126, 127, 128, 129, 130, 131, 132, 133, 134, 135, 136, 137, 144, 145, 146, 147, 148, 43, 278, 279, 280, 149, 150, 151, 152, 153, 383, 384, 385, 1468, 1469, 1470, 1471, 1472, 1473, 1474, 1475, 1476, 1477, 1478, 1479, 1480] (by decide +kernel) (by decide +kernel)
set_option maxRecDepth 20000 in
theorem gL_law_X5_raise : GoodIn wsL_law (wsV RL 232 RX5 yX5_raise wsX5_raise) := goodIn_app (goodIn_of _ (by decide +kernel)) ggL_law_X5_raise
set_option maxRecDepth 20000 in
theorem ggL_law_L_sift : GoodIn wsL_law wsL_sift := goodIn_ca (goodIn_ca (goodIn_r _ [388, 56, 57, 389, 390, 391, 2, 392, 75, 76, 66, 67, 68, 69, 70, 71, 16, 80, 81, 82, 18, 83, 84, 393, 394, 395, 396, 101, 173, 174, 175, 176, 30, 102, 103, 104, 105, 397, 338, 339, 340, 169, 170, 171, 172, 29, 219, 220, 221, 222, 110, 111, 112, 113, 114, 1481, 1482, 1462, 1463, 1464, 1465, 1466, 1467, 1483, 1484, 1485, 1486, 1487, 1488, 1489] (by decide +kernel) (by decide +kernel)) (goodIn_sub (fun _ h => List.mem_append_left _ (List.mem_append_right _ h)) (by decide +kernel))) (goodIn_sub (fun _ h => List.mem_append_left _ (List.mem_append_left _ (List.mem_append_right _ h))) (by decide +kernel))
set_option maxRecDepth 20000 in
theorem gL_law_L_sift : GoodIn wsL_law (va_wsS RL 233 yL_sift wsL_sift) := goodIn_app (goodIn_of _ (by decide +kernel)) ggL_law_L_sift
set_option maxRecDepth 20000 in
theorem ggL_law_X5_sift : GoodIn wsL_law wsX5_sift := goodIn_r _ [401, 37, 123, 124, 5, 125, 126, 127, 128, 129, 130, 131, 132, 133, 134, 135, 136, 137, 144, 145, 146, 147, 148, 43, 149, 150, 151, 152, 153, 1468, 1469, 1470, 1471, 1472, 1473, 1474, 1475, 1476, 1477, 1478, 1479, 1480] (by decide +kernel) (by decide +kernel)
set_option maxRecDepth 20000 in
theorem gL_law_X5_sift : GoodIn wsL_law (wsV RL 235 RX5 yX5_sift wsX5_sift) := goodIn_app (goodIn_of _ (by decide +kernel)) ggL_law_X5_sift
set_option maxRecDepth 20000 in
theorem ggL_law_L_strikeValue : GoodIn wsL_law wsL_strikeValue := goodIn_ca (goodIn_ca (goodIn_ca (goodIn_r _ [404, 56, 57, 405, 406, 407, 408, 2, 409, 410, 411, 66, 67, 68, 69, 70, 71, 16, 77, 78, 79, 75, 76, 412, 413, 414, 18, 415, 101, 30, 80, 81, 82, 83, 84, 416, 417, 418, 419, 337, 338, 339, 340, 169, 170, 171, 172, 29, 102, 103, 104, 105, 219, 220, 221, 222, 110, 111, 112, 113, 114, 1481, 1482, 1462, 1463, 1464, 1465, 1466, 1467, 1483, 1484, 1485, 1486, 1487, 1488, 1489] (by decide +kernel) (by decide +kernel)) (goodIn_sub (fun _ h => List.mem_append_right _ h) (by decide +kernel))) (goodIn_sub (fun _ h => List.mem_append_left _ (List.mem_append_left _ (List.mem_append_right _ h))) (by decide +kernel))) (goodIn_sub (fun _ h => List.mem_append_left _ (List.mem_append_right _ h)) (by decide +kernel))
set_option maxRecDepth 20000 in
theorem gL_law_L_strikeValue : GoodIn wsL_law (va_wsS RL 236 yL_strikeValue wsL_strikeValue) := goodIn_app (goodIn_of _ (by decide +kernel)) ggL_law_L_strikeValue
set_option maxRecDepth 20000 in
theorem ggL_law_X5_strikeValue : GoodIn wsL_law wsX5_strikeValue := goodIn_r _ [423, 37, 123, 124, 5, 125, 126, 127, 128, 129, 130, 131, 132, 133, 134, 135, 136, 137, 141, 142, 143, 424, 425, 426, 427, 383, 384, 385, 144, 145, 146, 147, 148, 43, 149, 150, 151, 152, 153, 1468, 1469, 1470, 1471, 1472, 1473, 1474, 1475, 1476, 1477, 1478, 1479, 1480] (by decide +kernel) (by decide +kernel)
set_option maxRecDepth 20000 in
theorem gL_law_X5_strikeValue : GoodIn wsL_law (wsV RL 238 RX5 yX5_strikeValue wsX5_strikeValue) := goodIn_app (goodIn_of _ (by decide +kernel)) ggL_law_X5_strikeValue
set_option maxRecDepth 20000 in
theorem ggL_law_L_clear : GoodIn wsL_law wsL_clear := goodIn_ca (goodIn_r _ [430, 56, 431, 432, 433, 2, 434, 66, 67, 68, 69, 70, 71, 16, 80, 81, 82, 18, 83, 84, 333, 334, 335, 336, 101, 435, 220, 221, 222, 29, 110, 111, 112, 113, 30, 114, 1481, 1482, 1462, 1463, 1464, 1465, 1466, 1467, 1483, 1484, 1485, 1486, 1487, 1488, 1489] (by decide +kernel) (by decide +kernel)) (goodIn_sub (fun _ h => List.mem_append_left _ (List.mem_append_left _ (List.mem_append_right _ h))) (by decide +kernel))
set_option maxRecDepth 20000 in
theorem gL_law_L_clear : GoodIn wsL_law (va_wsS RL 239 yL_clear wsL_clear) := goodIn_app (goodIn_of _ (by decide +kernel)) ggL_law_L_clear
set_option maxRecDepth 20000 in
theorem ggL_law_X5_clear : GoodIn wsL_law wsX5_clear := goodIn_r _ [439, 123, 124, 5, 125, 126, 127, 128, 129, 130, 131, 132, 133, 134, 135, 136, 137, 144, 145, 146, 147, 148, 43, 345, 346, 347, 28, 440, 441, 442, 443, 356, 357, 358, 359, 37, 360, 361, 362, 363, 364, 365, 366, 367, 39, 38, 149, 150, 151, 152, 153, 1468, 1469, 1470, 1471, 1472, 1473, 1474, 1475, 1476, 1477, 1478, 1479, 1480] (by decide +kernel) (by decide +kernel)
set_option maxRecDepth 20000 in
theorem gL_law_X5_clear : GoodIn wsL_law (wsV RL 242 RX5 yX5_clear wsX5_clear) := goodIn_app (goodIn_of _ (by decide +kernel)) ggL_law_X5_clear
set_option maxRecDepth 20000 in
theorem ggL_law_L_pour : GoodIn wsL_law wsL_pour := goodIn_ca (goodIn_ca (goodIn_r _ [446, 56, 57, 447, 448, 449, 2, 450, 66, 67, 68, 69, 70, 71, 16, 451, 452, 453, 75, 76, 80, 81, 82, 18, 83, 84, 454, 455, 456, 457, 458, 334, 335, 336, 101, 169, 170, 171, 172, 29, 102, 103, 104, 105, 173, 174, 175, 176, 30, 254, 86, 87, 88, 89, 90, 91, 92, 93, 94, 95, 96, 31, 97, 98, 99, 100, 106, 107, 108, 109, 110, 111, 112, 113, 114, 333, 1481, 1482, 1462, 1463, 1464, 1465, 1466, 1467, 1483, 1484, 1485, 1486, 1487, 1488, 1489] (by decide +kernel) (by decide +kernel)) (goodIn_sub (fun _ h => List.mem_append_left _ (List.mem_append_left _ (List.mem_append_right _ h))) (by decide +kernel))) (goodIn_sub (fun _ h => List.mem_append_left _ (List.mem_append_right _ h)) (by decide +kernel))
set_option maxRecDepth 20000 in
theorem gL_law_L_pour : GoodIn wsL_law (va_wsS RL 243 yL_pour wsL_pour) := goodIn_app (goodIn_of _ (by decide +kernel)) ggL_law_L_pour
set_option maxRecDepth 20000 in
theorem ggL_law_X5_pour : GoodIn wsL_law wsX5_pour := goodIn_r _ [462, 37, 463, 464, 465, 5, 466, 123, 124, 125, 126, 127, 128, 129, 130, 131, 132, 133, 134, 135, 136, 137, 144, 145, 146, 147, 148, 43, 149, 150, 151, 152, 153, 345, 346, 347, 28, 467, 468, 469, 470, 356, 357, 358, 359, 360, 361, 362, 363, 364, 365, 366, 367, 39, 38, 383, 384, 385, 1468, 1469, 1470, 1471, 1472, 1473, 1474, 1475, 1476, 1477, 1478, 1479, 1480] (by decide +kernel) (by decide +kernel)
set_option maxRecDepth 20000 in
theorem gL_law_X5_pour : GoodIn wsL_law (wsV RL 245 RX5 yX5_pour wsX5_pour) := goodIn_app (goodIn_of _ (by decide +kernel)) ggL_law_X5_pour
set_option maxRecDepth 20000 in
theorem ggL_law_L_copy : GoodIn wsL_law wsL_copy := goodIn_ca (goodIn_ca (goodIn_r _ [473, 56, 57, 474, 475, 476, 2, 477, 478, 66, 67, 68, 69, 70, 71, 16, 451, 452, 453, 75, 76, 479, 480, 481, 18, 482, 101, 31, 219, 220, 221, 222, 29, 110, 111, 112, 113, 30, 114, 483, 484, 485, 486, 487, 455, 456, 457, 458, 334, 335, 336, 169, 170, 171, 172, 102, 103, 104, 105, 173, 174, 175, 176, 254, 86, 87, 88, 89, 90, 91, 92, 93, 94, 95, 96, 97, 98, 99, 100, 106, 107, 108, 109, 488, 489, 490, 491, 492, 493, 494, 495, 496, 497, 498, 499, 500, 501, 502, 503, 20, 504, 505, 506, 507, 508, 1481, 1482, 1462, 1463, 1464, 1465, 1466, 1467, 1483, 1484, 1485, 1486, 1487, 1488, 1489, 1490, 1491, 1492, 1493, 1494, 1495, 1496, 1497, 1498, 1499, 1500, 1501] (by decide +kernel) (by decide +kernel)) (goodIn_sub (fun _ h => List.mem_append_left _ (List.mem_append_left _ (List.mem_append_right _ h))) (by decide +kernel))) (goodIn_sub (fun _ h => List.mem_append_left _ (List.mem_append_right _ h)) (by decide +kernel))
set_option maxRecDepth 20000 in
theorem gL_law_L_copy : GoodIn wsL_law (va_wsS RL 246 yL_copy wsL_copy) := goodIn_app (goodIn_of _ (by decide +kernel)) ggL_law_L_copy
set_option maxRecDepth 20000 in
theorem ggL_law_X5_copy : GoodIn wsL_law wsX5_copy := goodIn_r _ [512, 148, 41, 38, 37, 463, 464, 465, 5, 466, 123, 124, 125, 126, 127, 128, 129, 130, 131, 132, 133, 134, 135, 136, 137, 513, 514, 515, 516, 153, 517, 42, 43, 149, 150, 151, 152, 1468, 1469, 1470, 1471, 1472, 1473, 1474, 1475, 1476, 1477, 1478, 1479, 1480] (by decide +kernel) (by decide +kernel)
set_option maxRecDepth 20000 in
theorem gL_law_X5_copy : GoodIn wsL_law (wsV RL 248 RX5 yX5_copy wsX5_copy) := goodIn_app (goodIn_of _ (by decide +kernel)) ggL_law_X5_copy
set_option maxRecDepth 20000 in
theorem ggL_law_L_thin : GoodIn wsL_law wsL_thin := goodIn_ca (goodIn_ca (goodIn_r _ [520, 56, 57, 521, 522, 523, 2, 524, 66, 67, 68, 69, 70, 71, 16, 451, 452, 453, 75, 76, 80, 81, 82, 18, 83, 84, 525, 526, 527, 528, 101, 169, 170, 171, 172, 29, 102, 103, 104, 105, 253, 162, 163, 164, 165, 166, 167, 168, 89, 90, 91, 92, 93, 94, 95, 96, 31, 97, 98, 99, 100, 173, 174, 175, 176, 30, 397, 338, 339, 340, 219, 220, 221, 222, 110, 111, 112, 113, 114, 1481, 1482, 1462, 1463, 1464, 1465, 1466, 1467, 1483, 1484, 1485, 1486, 1487, 1488, 1489] (by decide +kernel) (by decide +kernel)) (goodIn_sub (fun _ h => List.mem_append_left _ (List.mem_append_left _ (List.mem_append_right _ h))) (by decide +kernel))) (goodIn_sub (fun _ h => List.mem_append_left _ (List.mem_append_right _ h)) (by decide +kernel))
set_option maxRecDepth 20000 in
theorem gL_law_L_thin : GoodIn wsL_law (va_wsS RL 249 yL_thin wsL_thin) := goodIn_app (goodIn_of _ (by decide +kernel)) ggL_law_L_thin
set_option maxRecDepth 20000 in
theorem ggL_law_X5_thin : GoodIn wsL_law wsX5_thin := goodIn_r _ [532, 37, 463, 464, 465, 5, 466, 123, 124, 125, 126, 127, 128, 129, 130, 131, 132, 133, 134, 135, 136, 137, 144, 145, 146, 147, 148, 43, 149, 150, 151, 152, 153, 1468, 1469, 1470, 1471, 1472, 1473, 1474, 1475, 1476, 1477, 1478, 1479, 1480] (by decide +kernel) (by decide +kernel)
set_option maxRecDepth 20000 in
theorem gL_law_X5_thin : GoodIn wsL_law (wsV RL 252 RX5 yX5_thin wsX5_thin) := goodIn_app (goodIn_of _ (by decide +kernel)) ggL_law_X5_thin
set_option maxRecDepth 20000 in
theorem ggL_law_L_head : GoodIn wsL_law wsL_head := goodIn_ca (goodIn_ca (goodIn_ca (goodIn_r _ [535, 56, 57, 405, 536, 537, 538, 2, 539, 19, 540, 497, 66, 67, 68, 69, 70, 71, 16, 72, 73, 74, 75, 76, 541, 542, 543, 544, 13, 14, 499, 545, 546, 547, 548, 549, 550, 263, 260, 264, 551, 552, 94, 95, 18, 96, 31, 553, 554, 555, 556, 410, 411, 20, 1481, 1482, 1495, 1496, 1497, 1498, 1499, 1500, 1501, 1462, 1463, 1464, 1465, 1466, 1467, 1483, 1484, 1485, 1486, 1487, 1488, 1489] (by decide +kernel) (by decide +kernel)) (goodIn_sub (fun _ h => List.mem_append_left _ (List.mem_append_left _ (List.mem_append_right _ h))) (by decide +kernel))) (goodIn_sub (fun _ h => List.mem_append_left _ (List.mem_append_right _ h)) (by decide +kernel))) (goodIn_sub (fun _ h => List.mem_append_right _ h) (by decide +kernel))
set_option maxRecDepth 20000 in
theorem gL_law_L_head : GoodIn wsL_law (va_wsS RL 253 yL_head wsL_head) := goodIn_app (goodIn_of _ (by decide +kernel)) ggL_law_L_head
set_option maxRecDepth 20000 in
theorem ggL_law_X5_head : GoodIn wsL_law wsX5_head := goodIn_r _ [560, 28, 227, 228, 229, 5, 230, 123, 124, 125, 126, 127, 128, 129, 130, 131, 132, 133, 134, 135, 136, 137, 138, 139, 140, 561, 562, 563, 564, 41, 383, 384, 385, 565, 566, 567, 568, 1468, 1469, 1470, 1471, 1472, 1473, 1474, 1475, 1476, 1477, 1478, 1479, 1480] (by decide +kernel) (by decide +kernel)
set_option maxRecDepth 20000 in
theorem gL_law_X5_head : GoodIn wsL_law (wsV RL 255 RX5 yX5_head wsX5_head) := goodIn_app (goodIn_of _ (by decide +kernel)) ggL_law_X5_head
set_option maxRecDepth 20000 in
theorem ggL_law_L_tail : GoodIn wsL_law wsL_tail := goodIn_ca (goodIn_ca (goodIn_ca (goodIn_r _ [571, 56, 57, 405, 572, 573, 574, 2, 575, 19, 540, 497, 66, 67, 68, 69, 70, 71, 16, 72, 73, 74, 75, 76, 541, 542, 543, 544, 13, 14, 499, 545, 546, 547, 548, 549, 550, 263, 260, 264, 551, 552, 94, 95, 18, 96, 31, 553, 554, 555, 556, 410, 411, 20, 1481, 1482, 1495, 1496, 1497, 1498, 1499, 1500, 1501, 1462, 1463, 1464, 1465, 1466, 1467, 1483, 1484, 1485, 1486, 1487, 1488, 1489] (by decide +kernel) (by decide +kernel)) (goodIn_sub (fun _ h => List.mem_append_left _ (List.mem_append_left _ (List.mem_append_right _ h))) (by decide +kernel))) (goodIn_sub (fun _ h => List.mem_append_left _ (List.mem_append_right _ h)) (by decide +kernel))) (goodIn_sub (fun _ h => List.mem_append_right _ h) (by decide +kernel))
set_option maxRecDepth 20000 in
theorem gL_law_L_tail : GoodIn wsL_law (va_wsS RL 256 yL_tail wsL_tail) := goodIn_app (goodIn_of _ (by decide +kernel)) ggL_law_L_tail
set_option maxRecDepth 20000 in
theorem ggL_law_X5_tail : GoodIn wsL_law wsX5_tail := goodIn_r _ [579, 28, 227, 228, 229, 5, 230, 123, 124, 125, 126, 127, 128, 129, 130, 131, 132, 133, 134, 135, 136, 137, 138, 139, 140, 561, 562, 563, 564, 41, 383, 384, 385, 565, 566, 567, 568, 1468, 1469, 1470, 1471, 1472, 1473, 1474, 1475, 1476, 1477, 1478, 1479, 1480] (by decide +kernel) (by decide +kernel)
set_option maxRecDepth 20000 in
theorem gL_law_X5_tail : GoodIn wsL_law (wsV RL 258 RX5 yX5_tail wsX5_tail) := goodIn_app (goodIn_of _ (by decide +kernel)) ggL_law_X5_tail
set_option maxRecDepth 20000 in
theorem ggL_law_L_sub : GoodIn wsL_law wsL_sub := goodIn_ca (goodIn_ca (goodIn_ca (goodIn_r _ [582, 56, 57, 405, 583, 584, 585, 2, 586, 19, 540, 497, 66, 67, 68, 69, 70, 71, 16, 72, 73, 74, 75, 76, 587, 588, 589, 590, 410, 411, 20, 591, 592, 593, 594, 595, 596, 597, 18, 598, 93, 94, 95, 96, 31, 541, 542, 543, 544, 13, 14, 499, 545, 546, 547, 548, 549, 550, 263, 260, 264, 551, 552, 553, 554, 555, 556, 1481, 1482, 1495, 1496, 1497, 1498, 1499, 1500, 1501, 1462, 1463, 1464, 1465, 1466, 1467, 1483, 1484, 1485, 1486, 1487, 1488, 1489] (by decide +kernel) (by decide +kernel)) (goodIn_sub (fun _ h => List.mem_append_left _ (List.mem_append_left _ (List.mem_append_right _ h))) (by decide +kernel))) (goodIn_sub (fun _ h => List.mem_append_left _ (List.mem_append_right _ h)) (by decide +kernel))) (goodIn_sub (fun _ h => List.mem_append_right _ h) (by decide +kernel))
set_option maxRecDepth 20000 in
theorem gL_law_L_sub : GoodIn wsL_law (va_wsS RL 259 yL_sub wsL_sub) := goodIn_app (goodIn_of _ (by decide +kernel)) ggL_law_L_sub
set_option maxRecDepth 20000 in
theorem ggL_law_X5_sub : GoodIn wsL_law wsX5_sub := goodIn_r _ [602, 28, 227, 228, 229, 5, 230, 123, 124, 125, 126, 127, 128, 129, 130, 131, 132, 133, 134, 135, 136, 137, 138, 139, 140, 561, 562, 563, 564, 41, 383, 384, 385, 364, 365, 366, 367, 39, 38, 565, 566, 567, 568, 1468, 1469, 1470, 1471, 1472, 1473, 1474, 1475, 1476, 1477, 1478, 1479, 1480] (by decide +kernel) (by decide +kernel)
set_option maxRecDepth 20000 in
theorem gL_law_X5_sub : GoodIn wsL_law (wsV RL 262 RX5 yX5_sub wsX5_sub) := goodIn_app (goodIn_of _ (by decide +kernel)) ggL_law_X5_sub
set_option maxRecDepth 20000 in
theorem ggL_law_L_part : GoodIn wsL_law wsL_part := goodIn_ca (goodIn_ca (goodIn_ca (goodIn_r _ [605, 56, 57, 405, 606, 607, 608, 2, 609, 19, 540, 497, 610, 611, 612, 613, 70, 71, 20, 72, 73, 74, 75, 76, 587, 588, 589, 590, 410, 411, 591, 592, 593, 594, 614, 615, 616, 617, 499, 549, 551, 552, 94, 95, 18, 96, 31, 508, 495, 496, 498, 595, 596, 597, 598, 93, 541, 542, 543, 544, 13, 14, 545, 546, 547, 548, 550, 263, 260, 264, 553, 554, 555, 556, 1481, 1482, 1495, 1496, 1497, 1498, 1499, 1500, 1501, 1462, 1463, 1464, 1465, 1466, 1467, 1483, 1484, 1485, 1486, 1487, 1488, 1489] (by decide +kernel) (by decide +kernel)) (goodIn_sub (fun _ h => List.mem_append_left _ (List.mem_append_left _ (List.mem_append_right _ h))) (by decide +kernel))) (goodIn_sub (fun _ h => List.mem_append_left _ (List.mem_append_right _ h)) (by decide +kernel))) (goodIn_sub (fun _ h => List.mem_append_right _ h) (by decide +kernel))
set_option maxRecDepth 20000 in
theorem gL_law_L_part : GoodIn wsL_law (va_wsS RL 263 yL_part wsL_part) := goodIn_app (goodIn_of _ (by decide +kernel)) ggL_law_L_part
set_option maxRecDepth 20000 in
theorem ggL_law_X5_part : GoodIn wsL_law wsX5_part := goodIn_r _ [621, 41, 28, 622, 623, 624, 5, 625, 126, 127, 128, 129, 130, 131, 132, 133, 134, 135, 136, 137, 138, 139, 140, 561, 562, 563, 564, 360, 361, 362, 363, 364, 365, 366, 367, 39, 38, 383, 384, 385, 565, 566, 567, 568, 1468, 1469, 1470, 1471, 1472, 1473, 1474, 1475, 1476, 1477, 1478, 1479, 1480] (by decide +kernel) (by decide +kernel)
set_option maxRecDepth 20000 in
theorem gL_law_X5_part : GoodIn wsL_law (wsV RL 265 RX5 yX5_part wsX5_part) := goodIn_app (goodIn_of _ (by decide +kernel)) ggL_law_X5_part
set_option maxRecDepth 20000 in
theorem ggL_law_L_shut : GoodIn wsL_law wsL_shut := goodIn_ca (goodIn_r _ [628, 56, 629, 630, 631, 2, 632, 20, 610, 611, 612, 613, 70, 71, 633, 634, 635, 497, 636, 637, 638, 639, 640, 499, 551, 641, 98, 99, 18, 100, 101, 29, 93, 94, 95, 96, 31, 642, 643, 644, 645, 549, 1481, 1482, 1462, 1463, 1464, 1465, 1466, 1467, 1495, 1496, 1497, 1498, 1499, 1500, 1501, 1483, 1484, 1485, 1486, 1487, 1488, 1489] (by decide +kernel) (by decide +kernel)) (goodIn_sub (fun _ h => List.mem_append_left _ (List.mem_append_left _ (List.mem_append_right _ h))) (by decide +kernel))
set_option maxRecDepth 20000 in
theorem gL_law_L_shut : GoodIn wsL_law (va_wsS RL 266 yL_shut wsL_shut) := goodIn_app (goodIn_of _ (by decide +kernel)) ggL_law_L_shut
set_option maxRecDepth 20000 in
theorem ggL_law_X5_shut : GoodIn wsL_law wsX5_shut := goodIn_r _ [649, 41, 622, 623, 624, 5, 625, 126, 127, 128, 129, 130, 131, 132, 133, 134, 135, 136, 137, 467, 468, 469, 470, 356, 357, 358, 359, 37, 360, 361, 362, 363, 364, 365, 366, 367, 39, 38, 383, 384, 385, 1468, 1469, 1470, 1471, 1472, 1473, 1474, 1475, 1476, 1477, 1478, 1479, 1480] (by decide +kernel) (by decide +kernel)
set_option maxRecDepth 20000 in
theorem gL_law_X5_shut : GoodIn wsL_law (wsV RL 268 RX5 yX5_shut wsX5_shut) := goodIn_app (goodIn_of _ (by decide +kernel)) ggL_law_X5_shut
set_option maxRecDepth 20000 in
theorem ggL_law_L_viewPut : GoodIn wsL_law wsL_viewPut := goodIn_ca (goodIn_ca (goodIn_r _ [652, 56, 57, 653, 654, 655, 2, 656, 657, 658, 659, 660, 610, 611, 612, 613, 70, 71, 20, 72, 73, 74, 75, 76, 77, 78, 79, 508, 495, 496, 497, 498, 499, 80, 81, 82, 18, 83, 84, 614, 615, 616, 617, 549, 551, 552, 94, 95, 96, 31, 85, 86, 87, 88, 29, 30, 89, 90, 91, 92, 93, 97, 98, 99, 100, 101, 102, 103, 104, 105, 106, 107, 108, 109, 110, 111, 112, 113, 114, 1481, 1482, 1462, 1463, 1464, 1465, 1466, 1467, 1495, 1496, 1497, 1498, 1499, 1500, 1501, 1483, 1484, 1485, 1486, 1487, 1488, 1489] (by decide +kernel) (by decide +kernel)) (goodIn_sub (fun _ h => List.mem_append_left _ (List.mem_append_left _ (List.mem_append_right _ h))) (by decide +kernel))) (goodIn_sub (fun _ h => List.mem_append_left _ (List.mem_append_right _ h)) (by decide +kernel))
set_option maxRecDepth 20000 in
theorem gL_law_L_viewPut : GoodIn wsL_law (va_wsS RL 269 yL_viewPut wsL_viewPut) := goodIn_app (goodIn_of _ (by decide +kernel)) ggL_law_L_viewPut
set_option maxRecDepth 20000 in
theorem ggL_law_X5_viewPut : GoodIn wsL_law wsX5_viewPut := goodIn_r _ [664, 41, 622, 623, 624, 5, 625, 126, 127, 128, 129, 130, 131, 132, 133, 134, 135, 136, 137, 138, 139, 140, 141, 142, 143, 144, 145, 146, 147, 148, 43, 360, 361, 362, 363, 364, 365, 366, 367, 39, 38, 149, 150, 151, 152, 37, 153, 1468, 1469, 1470, 1471, 1472, 1473, 1474, 1475, 1476, 1477, 1478, 1479, 1480] (by decide +kernel) (by decide +kernel)
set_option maxRecDepth 20000 in
theorem gL_law_X5_viewPut : GoodIn wsL_law (wsV RL 271 RX5 yX5_viewPut wsX5_viewPut) := goodIn_app (goodIn_of _ (by decide +kernel)) ggL_law_X5_viewPut
set_option maxRecDepth 20000 in
theorem ggL_law_L_viewStrike : GoodIn wsL_law wsL_viewStrike := goodIn_ca (goodIn_ca (goodIn_r _ [667, 56, 57, 668, 669, 670, 2, 671, 610, 611, 612, 613, 70, 71, 20, 72, 73, 74, 75, 76, 508, 495, 496, 497, 498, 499, 80, 81, 82, 18, 83, 84, 614, 615, 616, 617, 549, 551, 552, 94, 95, 96, 31, 215, 216, 217, 218, 89, 90, 91, 92, 93, 97, 98, 99, 100, 101, 29, 169, 170, 171, 172, 102, 103, 104, 105, 173, 174, 175, 176, 30, 219, 220, 221, 222, 110, 111, 112, 113, 114, 1481, 1482, 1462, 1463, 1464, 1465, 1466, 1467, 1495, 1496, 1497, 1498, 1499, 1500, 1501, 1483, 1484, 1485, 1486, 1487, 1488, 1489] (by decide +kernel) (by decide +kernel)) (goodIn_sub (fun _ h => List.mem_append_left _ (List.mem_append_left _ (List.mem_append_right _ h))) (by decide +kernel))) (goodIn_sub (fun _ h => List.mem_append_left _ (List.mem_append_right _ h)) (by decide +kernel))
set_option maxRecDepth 20000 in
theorem gL_law_L_viewStrike : GoodIn wsL_law (va_wsS RL 272 yL_viewStrike wsL_viewStrike) := goodIn_app (goodIn_of _ (by decide +kernel)) ggL_law_L_viewStrike
set_option maxRecDepth 20000 in
theorem ggL_law_X5_viewStrike : GoodIn wsL_law wsX5_viewStrike := goodIn_r _ [675, 41, 622, 623, 624, 5, 625, 126, 127, 128, 129, 130, 131, 132, 133, 134, 135, 136, 137, 138, 139, 140, 144, 145, 146, 147, 148, 43, 356, 357, 358, 359, 37, 360, 361, 362, 363, 364, 365, 366, 367, 39, 38, 149, 150, 151, 152, 153, 1468, 1469, 1470, 1471, 1472, 1473, 1474, 1475, 1476, 1477, 1478, 1479, 1480] (by decide +kernel) (by decide +kernel)
set_option maxRecDepth 20000 in
theorem gL_law_X5_viewStrike : GoodIn wsL_law (wsV RL 274 RX5 yX5_viewStrike wsX5_viewStrike) := goodIn_app (goodIn_of _ (by decide +kernel)) ggL_law_X5_viewStrike
set_option maxRecDepth 20000 in
theorem ggL_law_L_viewMerge : GoodIn wsL_law wsL_viewMerge := goodIn_ca (goodIn_ca (goodIn_r _ [678, 56, 57, 679, 680, 681, 2, 682, 657, 658, 659, 660, 610, 611, 612, 613, 70, 71, 20, 72, 73, 74, 75, 76, 77, 78, 79, 508, 495, 496, 497, 498, 499, 80, 81, 82, 18, 83, 84, 614, 615, 616, 617, 549, 551, 552, 94, 95, 96, 31, 249, 250, 251, 252, 253, 162, 163, 164, 165, 166, 167, 168, 89, 90, 91, 92, 93, 97, 98, 99, 100, 101, 29, 169, 170, 171, 172, 102, 103, 104, 105, 173, 174, 175, 176, 30, 254, 86, 87, 88, 106, 107, 108, 109, 110, 111, 112, 113, 114, 255, 256, 257, 258, 259, 260, 261, 262, 263, 264, 265, 266, 267, 268, 269, 216, 217, 218, 219, 220, 221, 222, 1481, 1482, 1462, 1463, 1464, 1465, 1466, 1467, 1495, 1496, 1497, 1498, 1499, 1500, 1501, 1483, 1484, 1485, 1486, 1487, 1488, 1489] (by decide +kernel) (by decide +kernel)) (goodIn_sub (fun _ h => List.mem_append_left _ (List.mem_append_left _ (List.mem_append_right _ h))) (by decide +kernel))) (goodIn_sub (fun _ h => List.mem_append_left _ (List.mem_append_right _ h)) (by decide +kernel))
set_option maxRecDepth 20000 in
theorem gL_law_L_viewMerge : GoodIn wsL_law (va_wsS RL 275 yL_viewMerge wsL_viewMerge) := goodIn_app (goodIn_of _ (by decide +kernel)) ggL_law_L_viewMerge
set_option maxRecDepth 20000 in
theorem ggL_law_X5_viewMerge : GoodIn wsL_law wsX5_viewMerge := goodIn_r _ [686, 41, 622, 623, 624, 5, 625, 126, 127, 128, 129, 130, 131, 132, 133, 134, 135, 136, 137, 138, 139, 140, 141, 142, 143, 144, 145, 146, 147, 148, 43, 360, 361, 362, 363, 364, 365, 366, 367, 39, 38, 274, 275, 276, 277, 37, 278, 279, 280, 149, 150, 151, 152, 153, 1468, 1469, 1470, 1471, 1472, 1473, 1474, 1475, 1476, 1477, 1478, 1479, 1480] (by decide +kernel) (by decide +kernel)
set_option maxRecDepth 20000 in
theorem gL_law_X5_viewMerge : GoodIn wsL_law (wsV RL 277 RX5 yX5_viewMerge wsX5_viewMerge) := goodIn_app (goodIn_of _ (by decide +kernel)) ggL_law_X5_viewMerge
set_option maxRecDepth 20000 in
theorem ggL_law_L_viewPoll : GoodIn wsL_law wsL_viewPoll := goodIn_ca (goodIn_r _ [689, 56, 690, 691, 692, 2, 693, 610, 611, 612, 613, 70, 71, 20, 508, 495, 496, 497, 498, 499, 80, 81, 82, 18, 83, 84, 633, 634, 635, 636, 637, 638, 639, 640, 551, 641, 98, 99, 100, 101, 29, 93, 94, 95, 96, 31, 642, 643, 644, 645, 549, 694, 695, 337, 338, 339, 340, 169, 170, 171, 172, 102, 103, 104, 105, 219, 220, 221, 222, 110, 111, 112, 113, 30, 114, 1481, 1482, 1462, 1463, 1464, 1465, 1466, 1467, 1495, 1496, 1497, 1498, 1499, 1500, 1501, 1483, 1484, 1485, 1486, 1487, 1488, 1489] (by decide +kernel) (by decide +kernel)) (goodIn_sub (fun _ h => List.mem_append_left _ (List.mem_append_left _ (List.mem_append_right _ h))) (by decide +kernel))
set_option maxRecDepth 20000 in
theorem gL_law_L_viewPoll : GoodIn wsL_law (va_wsS RL 278 yL_viewPoll wsL_viewPoll) := goodIn_app (goodIn_of _ (by decide +kernel)) ggL_law_L_viewPoll
set_option maxRecDepth 20000 in
theorem ggL_law_X5_viewPoll : GoodIn wsL_law wsX5_viewPoll := goodIn_r _ [699, 41, 622, 623, 624, 5, 625, 126, 127, 128, 129, 130, 131, 132, 133, 134, 135, 136, 137, 144, 145, 146, 147, 148, 43, 348, 349, 350, 351, 352, 353, 354, 355, 356, 357, 358, 359, 37, 360, 361, 362, 363, 364, 365, 366, 367, 39, 38, 149, 150, 151, 152, 153, 1468, 1469, 1470, 1471, 1472, 1473, 1474, 1475, 1476, 1477, 1478, 1479, 1480] (by decide +kernel) (by decide +kernel)
set_option maxRecDepth 20000 in
theorem gL_law_X5_viewPoll : GoodIn wsL_law (wsV RL 280 RX5 yX5_viewPoll wsX5_viewPoll) := goodIn_app (goodIn_of _ (by decide +kernel)) ggL_law_X5_viewPoll
set_option maxRecDepth 20000 in
theorem ggL_law_L_viewClear : GoodIn wsL_law wsL_viewClear := goodIn_ca (goodIn_r _ [702, 56, 703, 704, 705, 2, 706, 610, 611, 612, 613, 70, 71, 20, 508, 495, 496, 497, 498, 499, 80, 81, 82, 18, 83, 84, 695, 643, 644, 645, 549, 641, 98, 99, 100, 101, 29, 93, 94, 95, 96, 31, 694, 638, 639, 640, 551, 435, 220, 221, 222, 110, 111, 112, 113, 30, 114, 1481, 1482, 1462, 1463, 1464, 1465, 1466, 1467, 1495, 1496, 1497, 1498, 1499, 1500, 1501, 1483, 1484, 1485, 1486, 1487, 1488, 1489] (by decide +kernel) (by decide +kernel)) (goodIn_sub (fun _ h => List.mem_append_left _ (List.mem_append_left _ (List.mem_append_right _ h))) (by decide +kernel))
set_option maxRecDepth 20000 in
theorem gL_law_L_viewClear : GoodIn wsL_law (va_wsS RL 281 yL_viewClear wsL_viewClear) := goodIn_app (goodIn_of _ (by decide +kernel)) ggL_law_L_viewClear
set_option maxRecDepth 20000 in
theorem ggL_law_X5_viewClear : GoodIn wsL_law wsX5_viewClear := goodIn_r _ [710, 41, 622, 623, 624, 5, 625, 126, 127, 128, 129, 130, 131, 132, 133, 134, 135, 136, 137, 144, 145, 146, 147, 148, 43, 440, 441, 442, 443, 356, 357, 358, 359, 37, 360, 361, 362, 363, 364, 365, 366, 367, 39, 38, 149, 150, 151, 152, 153, 1468, 1469, 1470, 1471, 1472, 1473, 1474, 1475, 1476, 1477, 1478, 1479, 1480] (by decide +kernel) (by decide +kernel)
set_option maxRecDepth 20000 in
theorem gL_law_X5_viewClear : GoodIn wsL_law (wsV RL 283 RX5 yX5_viewClear wsX5_viewClear) := goodIn_app (goodIn_of _ (by decide +kernel)) ggL_law_X5_viewClear
set_option maxRecDepth 20000 in
theorem ggL_law_L_walk : GoodIn wsL_law wsL_walk := goodIn_ca (goodIn_r _ [713, 56, 714, 715, 716, 2, 717, 19, 540, 497, 66, 67, 68, 69, 70, 71, 16, 541, 542, 543, 544, 13, 14, 499, 545, 546, 547, 548, 549, 550, 263, 260, 264, 551, 552, 94, 95, 18, 96, 31, 718, 719, 720, 721, 722, 723, 491, 478, 724, 725, 726, 727, 493, 728, 729, 494, 495, 496, 498, 730, 731, 732, 733, 114, 633, 634, 635, 636, 637, 638, 639, 640, 641, 98, 99, 100, 101, 29, 93, 642, 643, 644, 645, 1481, 1482, 1495, 1496, 1497, 1498, 1499, 1500, 1501, 1462, 1463, 1464, 1465, 1466, 1467, 1483, 1484, 1485, 1486, 1487, 1488, 1489, 1490, 1491, 1492, 1493, 1494] (by decide +kernel) (by decide +kernel)) (goodIn_sub (fun _ h => List.mem_append_left _ (List.mem_append_left _ (List.mem_append_right _ h))) (by decide +kernel))
set_option maxRecDepth 20000 in
theorem gL_law_L_walk : GoodIn wsL_law (va_wsS RL 284 yL_walk wsL_walk) := goodIn_app (goodIn_of _ (by decide +kernel)) ggL_law_L_walk
set_option maxRecDepth 20000 in
theorem ggL_law_X5_walk : GoodIn wsL_law wsX5_walk := goodIn_r _ [737, 148, 123, 124, 5, 125, 126, 127, 128, 129, 130, 131, 132, 133, 134, 135, 136, 137, 345, 346, 347, 28, 513, 514, 515, 516, 153, 517, 42, 43, 467, 468, 469, 470, 356, 357, 358, 359, 37, 360, 361, 362, 363, 364, 365, 366, 367, 39, 38, 383, 384, 385, 1468, 1469, 1470, 1471, 1472, 1473, 1474, 1475, 1476, 1477, 1478, 1479, 1480] (by decide +kernel) (by decide +kernel)
set_option maxRecDepth 20000 in
theorem gL_law_X5_walk : GoodIn wsL_law (wsV RL 286 RX5 yX5_walk wsX5_walk) := goodIn_app (goodIn_of _ (by decide +kernel)) ggL_law_X5_walk
set_option maxRecDepth 20000 in
theorem ggL_law_L_viewWalk : GoodIn wsL_law wsL_viewWalk := goodIn_ca (goodIn_r _ [740, 56, 741, 742, 743, 2, 744, 610, 611, 612, 613, 70, 71, 20, 718, 719, 720, 721, 722, 723, 491, 478, 724, 725, 726, 727, 13, 14, 493, 728, 729, 494, 495, 496, 497, 498, 499, 730, 731, 732, 18, 733, 114, 633, 634, 635, 636, 637, 638, 639, 640, 551, 641, 98, 99, 100, 101, 29, 93, 94, 95, 96, 31, 642, 643, 644, 645, 549, 1481, 1482, 1462, 1463, 1464, 1465, 1466, 1467, 1490, 1491, 1492, 1493, 1494, 1495, 1496, 1497, 1498, 1499, 1500, 1501, 1483, 1484, 1485, 1486, 1487, 1488, 1489] (by decide +kernel) (by decide +kernel)) (goodIn_sub (fun _ h => List.mem_append_left _ (List.mem_append_left _ (List.mem_append_right _ h))) (by decide +kernel))
set_option maxRecDepth 20000 in
theorem gL_law_L_viewWalk : GoodIn wsL_law (va_wsS RL 287 yL_viewWalk wsL_viewWalk) := goodIn_app (goodIn_of _ (by decide +kernel)) ggL_law_L_viewWalk
set_option maxRecDepth 20000 in
theorem ggL_law_X5_viewWalk : GoodIn wsL_law wsX5_viewWalk := goodIn_r _ [748, 41, 749, 750, 751, 752, 753, 40, 148, 622, 623, 624, 5, 625, 126, 127, 128, 129, 130, 131, 132, 133, 134, 135, 136, 137, 513, 514, 515, 516, 153, 517, 42, 43, 467, 468, 469, 470, 356, 357, 358, 359, 37, 360, 361, 362, 363, 364, 365, 366, 367, 39, 38, 383, 384, 385, 1468, 1469, 1470, 1471, 1472, 1473, 1474, 1475, 1476, 1477, 1478, 1479, 1480] (by decide +kernel) (by decide +kernel)
set_option maxRecDepth 20000 in
theorem gL_law_X5_viewWalk : GoodIn wsL_law (wsV RL 289 RX5 yX5_viewWalk wsX5_viewWalk) := goodIn_app (goodIn_of _ (by decide +kernel)) ggL_law_X5_viewWalk
set_option maxRecDepth 20000 in
theorem ggL_law_L_step : GoodIn wsL_law wsL_step := goodIn_ca (goodIn_r _ [756, 405, 757, 758, 759, 2, 760, 761, 762, 763, 764, 410, 411, 478, 765, 766, 767, 491, 768, 729, 769, 489, 490, 492, 493, 494, 495, 496, 497, 498, 499, 730, 731, 732, 18, 733, 114, 770, 771, 772, 773, 728, 774, 775, 776, 643, 644, 645, 549, 641, 98, 99, 100, 101, 29, 93, 94, 95, 96, 31, 777, 778, 779, 780, 97, 781, 638, 639, 640, 551, 782, 170, 171, 172, 102, 103, 104, 105, 783, 784, 785, 786, 84, 1481, 1482, 1462, 1463, 1464, 1465, 1466, 1467, 1490, 1491, 1492, 1493, 1494, 1495, 1496, 1497, 1498, 1499, 1500, 1501, 1483, 1484, 1485, 1486, 1487, 1488, 1489] (by decide +kernel) (by decide +kernel)) (goodIn_sub (fun _ h => List.mem_append_right _ h) (by decide +kernel))
set_option maxRecDepth 20000 in
theorem gL_law_L_step : GoodIn wsL_law (va_wsS RL 290 yL_step wsL_step) := goodIn_app (goodIn_of _ (by decide +kernel)) ggL_law_L_step
set_option maxRecDepth 20000 in
theorem ggL_law_X5_step : GoodIn wsL_law wsX5_step := goodIn_r _ [790, 148, 153, 517, 42, 43, 129, 130, 131, 5, 132, 133, 134, 135, 136, 137, 352, 353, 354, 355, 356, 357, 358, 359, 37, 360, 361, 362, 363, 364, 365, 366, 367, 39, 38, 1468, 1469, 1470, 1471, 1472, 1473, 1474, 1475, 1476, 1477, 1478, 1479, 1480] (by decide +kernel) (by decide +kernel)
set_option maxRecDepth 20000 in
theorem gL_law_X5_step : GoodIn wsL_law (wsV RL 293 RX5 yX5_step wsX5_step) := goodIn_app (goodIn_of _ (by decide +kernel)) ggL_law_X5_step
set_option maxRecDepth 20000 in
theorem ggL_law_L_write : GoodIn wsL_law wsL_write := goodIn_ca (goodIn_ca (goodIn_r _ [793, 57, 405, 794, 795, 796, 2, 797, 410, 411, 77, 78, 79, 75, 76, 761, 762, 763, 764, 478, 765, 766, 767, 491, 768, 729, 769, 489, 490, 492, 493, 494, 495, 496, 497, 498, 499, 730, 731, 732, 18, 733, 114, 798, 799, 800, 801, 774, 775, 728, 783, 784, 785, 786, 84, 488, 85, 86, 87, 88, 29, 30, 89, 90, 91, 92, 93, 94, 95, 96, 31, 97, 98, 99, 100, 101, 102, 103, 104, 105, 106, 107, 108, 109, 110, 111, 112, 113, 1481, 1482, 1462, 1463, 1464, 1465, 1466, 1467, 1490, 1491, 1492, 1493, 1494, 1495, 1496, 1497, 1498, 1499, 1500, 1501, 1483, 1484, 1485, 1486, 1487, 1488, 1489] (by decide +kernel) (by decide +kernel)) (goodIn_sub (fun _ h => List.mem_append_right _ h) (by decide +kernel))) (goodIn_sub (fun _ h => List.mem_append_left _ (List.mem_append_right _ h)) (by decide +kernel))
set_option maxRecDepth 20000 in
theorem gL_law_L_write : GoodIn wsL_law (va_wsS RL 294 yL_write wsL_write) := goodIn_app (goodIn_of _ (by decide +kernel)) ggL_law_L_write
set_option maxRecDepth 20000 in
theorem ggL_law_X5_write : GoodIn wsL_law wsX5_write := goodIn_r _ [805, 148, 153, 43, 141, 142, 5, 143, 126, 127, 128, 129, 130, 131, 132, 133, 134, 135, 136, 137, 149, 150, 151, 152, 37, 1468, 1469, 1470, 1471, 1472, 1473, 1474, 1475, 1476, 1477, 1478, 1479, 1480] (by decide +kernel) (by decide +kernel)
set_option maxRecDepth 20000 in
theorem gL_law_X5_write : GoodIn wsL_law (wsV RL 296 RX5 yX5_write wsX5_write) := goodIn_app (goodIn_of _ (by decide +kernel)) ggL_law_X5_write
set_option maxRecDepth 20000 in
theorem ggL_law_L_drop : GoodIn wsL_law wsL_drop := goodIn_ca (goodIn_r _ [808, 405, 809, 810, 811, 2, 812, 410, 411, 761, 762, 763, 764, 478, 765, 766, 767, 491, 768, 729, 769, 489, 490, 492, 493, 494, 495, 496, 497, 498, 499, 730, 731, 732, 18, 733, 114, 813, 814, 815, 816, 774, 817, 818, 819, 820, 728, 821, 216, 217, 218, 89, 90, 91, 92, 93, 94, 95, 96, 31, 97, 98, 99, 100, 101, 29, 169, 170, 171, 172, 102, 103, 104, 105, 173, 174, 175, 176, 30, 219, 220, 221, 222, 110, 111, 112, 113, 488, 333, 334, 335, 336, 1481, 1482, 1462, 1463, 1464, 1465, 1466, 1467, 1490, 1491, 1492, 1493, 1494, 1495, 1496, 1497, 1498, 1499, 1500, 1501, 1483, 1484, 1485, 1486, 1487, 1488, 1489] (by decide +kernel) (by decide +kernel)) (goodIn_sub (fun _ h => List.mem_append_right _ h) (by decide +kernel))
set_option maxRecDepth 20000 in
theorem gL_law_L_drop : GoodIn wsL_law (va_wsS RL 297 yL_drop wsL_drop) := goodIn_app (goodIn_of _ (by decide +kernel)) ggL_law_L_drop
set_option maxRecDepth 20000 in
theorem ggL_law_X5_drop : GoodIn wsL_law wsX5_drop := goodIn_r _ [825, 148, 153, 42, 37, 43, 129, 130, 131, 5, 132, 133, 134, 135, 136, 137, 345, 346, 347, 28, 467, 468, 469, 470, 356, 357, 358, 359, 360, 361, 362, 363, 364, 365, 366, 367, 39, 38, 383, 384, 385, 1468, 1469, 1470, 1471, 1472, 1473, 1474, 1475, 1476, 1477, 1478, 1479, 1480] (by decide +kernel) (by decide +kernel)
set_option maxRecDepth 20000 in
theorem gL_law_X5_drop : GoodIn wsL_law (wsV RL 299 RX5 yX5_drop wsX5_drop) := goodIn_app (goodIn_of _ (by decide +kernel)) ggL_law_X5_drop
set_option maxRecDepth 20000 in
theorem ggL_law_L_keep : GoodIn wsL_law wsL_keep := goodIn_ca (goodIn_r _ [828, 56, 829, 830, 831, 2, 832, 21, 22, 66, 67, 68, 69, 70, 71, 16, 333, 334, 335, 18, 336, 101, 833, 170, 171, 172, 29, 102, 103, 104, 105, 834, 174, 175, 176, 30, 1481, 1482, 1462, 1463, 1464, 1465, 1466, 1467, 1483, 1484, 1485, 1486, 1487, 1488, 1489] (by decide +kernel) (by decide +kernel)) (goodIn_sub (fun _ h => List.mem_append_left _ (List.mem_append_left _ (List.mem_append_right _ h))) (by decide +kernel))
set_option maxRecDepth 20000 in
theorem gL_law_L_keep : GoodIn wsL_law (va_wsS RL 300 yL_keep wsL_keep) := goodIn_app (goodIn_of _ (by decide +kernel)) ggL_law_L_keep
set_option maxRecDepth 20000 in
theorem ggL_law_X5_keep : GoodIn wsL_law wsX5_keep := goodIn_r _ [838, 44, 37, 45, 123, 124, 5, 125, 126, 127, 128, 129, 130, 131, 132, 133, 134, 135, 136, 137, 345, 346, 347, 28, 348, 349, 350, 351, 352, 353, 354, 355, 356, 357, 358, 359, 360, 361, 362, 363, 364, 365, 366, 367, 39, 38, 1468, 1469, 1470, 1471, 1472, 1473, 1474, 1475, 1476, 1477, 1478, 1479, 1480] (by decide +kernel) (by decide +kernel)
set_option maxRecDepth 20000 in
theorem gL_law_X5_keep : GoodIn wsL_law (wsV RL 302 RX5 yX5_keep wsX5_keep) := goodIn_app (goodIn_of _ (by decide +kernel)) ggL_law_X5_keep
set_option maxRecDepth 20000 in
theorem ggL_law_L_brand : GoodIn wsL_law wsL_brand := goodIn_ca (goodIn_r _ [841, 57, 842, 843, 844, 2, 845, 21, 77, 78, 79, 75, 76, 1481, 1482, 1462, 1463, 1464, 1465, 1466, 1467] (by decide +kernel) (by decide +kernel)) (goodIn_sub (fun _ h => List.mem_append_left _ (List.mem_append_right _ h)) (by decide +kernel))
set_option maxRecDepth 20000 in
theorem gL_law_L_brand : GoodIn wsL_law (va_wsS RL 303 yL_brand wsL_brand) := goodIn_app (goodIn_of _ (by decide +kernel)) ggL_law_L_brand
set_option maxRecDepth 20000 in
theorem ggL_law_X5_brand : GoodIn wsL_law wsX5_brand := goodIn_r _ [849, 44, 141, 142, 5, 143, 126, 127, 128, 129, 130, 131, 132, 133, 134, 135, 136, 137, 1468, 1469, 1470, 1471, 1472, 1473, 1474, 1475, 1476, 1477, 1478, 1479, 1480] (by decide +kernel) (by decide +kernel)
set_option maxRecDepth 20000 in
theorem gL_law_X5_brand : GoodIn wsL_law (wsV RL 305 RX5 yX5_brand wsX5_brand) := goodIn_app (goodIn_of _ (by decide +kernel)) ggL_law_X5_brand
set_option maxRecDepth 20000 in
theorem ggL_law_X3_knock : GoodIn wsL_law wsX3_knock := goodIn_r _ [853, 854, 1462, 1463, 1464, 1465, 1466, 1467] (by decide +kernel) (by decide +kernel)
set_option maxRecDepth 20000 in
theorem gL_law_X3_knock : GoodIn wsL_law (wsV RL 306 RX3 yX3_knock wsX3_knock) := goodIn_app (goodIn_of _ (by decide +kernel)) ggL_law_X3_knock
set_option maxRecDepth 20000 in
theorem ggL_law_X5_knock : GoodIn wsL_law wsX5_knock := goodIn_r _ [858, 133, 859, 1468, 1469, 1470, 1471, 1472, 1473, 1474, 1475, 1476, 1477, 1478, 1479, 1480] (by decide +kernel) (by decide +kernel)
set_option maxRecDepth 20000 in
theorem gL_law_X5_knock : GoodIn wsL_law (wsV RL 309 RX5 yX5_knock wsX5_knock) := goodIn_app (goodIn_of _ (by decide +kernel)) ggL_law_X5_knock
set_option maxRecDepth 20000 in
theorem ggL_law_L_get : GoodIn wsL_law wsL_get := goodIn_ca (goodIn_ca (goodIn_r _ [862, 56, 57, 863, 864, 865, 2, 866, 66, 67, 68, 69, 70, 71, 16, 72, 73, 74, 75, 76, 177, 166, 167, 18, 168, 89, 90, 91, 92, 93, 94, 95, 96, 31, 97, 98, 99, 100, 101, 29, 169, 170, 171, 172, 102, 103, 104, 105, 173, 174, 175, 176, 30, 1481, 1482, 1462, 1463, 1464, 1465, 1466, 1467, 1483, 1484, 1485, 1486, 1487, 1488, 1489] (by decide +kernel) (by decide +kernel)) (goodIn_sub (fun _ h => List.mem_append_left _ (List.mem_append_left _ (List.mem_append_right _ h))) (by decide +kernel))) (goodIn_sub (fun _ h => List.mem_append_left _ (List.mem_append_right _ h)) (by decide +kernel))
set_option maxRecDepth 20000 in
theorem gL_law_L_get : GoodIn wsL_law (va_wsS RL 310 yL_get wsL_get) := goodIn_app (goodIn_of _ (by decide +kernel)) ggL_law_L_get
set_option maxRecDepth 20000 in
theorem ggL_law_X5_get : GoodIn wsL_law wsX5_get := goodIn_r _ [870, 37, 227, 228, 229, 5, 230, 123, 124, 125, 126, 127, 128, 129, 130, 131, 132, 133, 134, 135, 136, 137, 138, 139, 140, 1468, 1469, 1470, 1471, 1472, 1473, 1474, 1475, 1476, 1477, 1478, 1479, 1480] (by decide +kernel) (by decide +kernel)
set_option maxRecDepth 20000 in
theorem gL_law_X5_get : GoodIn wsL_law (wsV RL 312 RX5 yX5_get wsX5_get) := goodIn_app (goodIn_of _ (by decide +kernel)) ggL_law_X5_get
set_option maxRecDepth 20000 in
theorem ggL_law_L_getOr : GoodIn wsL_law wsL_getOr := goodIn_ca (goodIn_ca (goodIn_r _ [873, 56, 57, 874, 875, 876, 2, 877, 66, 67, 68, 69, 70, 71, 16, 72, 73, 74, 75, 76, 77, 78, 79, 161, 162, 163, 18, 164, 165, 166, 167, 168, 89, 90, 91, 92, 93, 94, 95, 96, 31, 97, 98, 99, 100, 101, 29, 169, 170, 171, 172, 102, 103, 104, 105, 173, 174, 175, 176, 30, 177, 1481, 1482, 1462, 1463, 1464, 1465, 1466, 1467, 1483, 1484, 1485, 1486, 1487, 1488, 1489] (by decide +kernel) (by decide +kernel)) (goodIn_sub (fun _ h => List.mem_append_left _ (List.mem_append_left _ (List.mem_append_right _ h))) (by decide +kernel))) (goodIn_sub (fun _ h => List.mem_append_left _ (List.mem_append_right _ h)) (by decide +kernel))
set_option maxRecDepth 20000 in
theorem gL_law_L_getOr : GoodIn wsL_law (va_wsS RL 313 yL_getOr wsL_getOr) := goodIn_app (goodIn_of _ (by decide +kernel)) ggL_law_L_getOr
set_option maxRecDepth 20000 in
theorem ggL_law_X5_getOr : GoodIn wsL_law wsX5_getOr := goodIn_r _ [881, 37, 119, 120, 121, 5, 122, 123, 124, 125, 126, 127, 128, 129, 130, 131, 132, 133, 134, 135, 136, 137, 138, 139, 140, 141, 142, 143, 1468, 1469, 1470, 1471, 1472, 1473, 1474, 1475, 1476, 1477, 1478, 1479, 1480] (by decide +kernel) (by decide +kernel)
set_option maxRecDepth 20000 in
theorem gL_law_X5_getOr : GoodIn wsL_law (wsV RL 315 RX5 yX5_getOr wsX5_getOr) := goodIn_app (goodIn_of _ (by decide +kernel)) ggL_law_X5_getOr
set_option maxRecDepth 20000 in
theorem ggL_law_L_has : GoodIn wsL_law wsL_has := goodIn_ca (goodIn_ca (goodIn_r _ [884, 56, 57, 885, 886, 887, 2, 888, 66, 67, 68, 69, 70, 71, 16, 72, 73, 74, 75, 76, 161, 162, 163, 18, 164, 165, 166, 167, 168, 89, 90, 91, 92, 93, 94, 95, 96, 31, 97, 98, 99, 100, 101, 29, 169, 170, 171, 172, 102, 103, 104, 105, 173, 174, 175, 176, 30, 1481, 1482, 1462, 1463, 1464, 1465, 1466, 1467, 1483, 1484, 1485, 1486, 1487, 1488, 1489] (by decide +kernel) (by decide +kernel)) (goodIn_sub (fun _ h => List.mem_append_left _ (List.mem_append_left _ (List.mem_append_right _ h))) (by decide +kernel))) (goodIn_sub (fun _ h => List.mem_append_left _ (List.mem_append_right _ h)) (by decide +kernel))
set_option maxRecDepth 20000 in
theorem gL_law_L_has : GoodIn wsL_law (va_wsS RL 316 yL_has wsL_has) := goodIn_app (goodIn_of _ (by decide +kernel)) ggL_law_L_has
set_option maxRecDepth 20000 in
theorem ggL_law_X5_has : GoodIn wsL_law wsX5_has := goodIn_r _ [892, 37, 227, 228, 229, 5, 230, 123, 124, 125, 126, 127, 128, 129, 130, 131, 132, 133, 134, 135, 136, 137, 138, 139, 140, 1468, 1469, 1470, 1471, 1472, 1473, 1474, 1475, 1476, 1477, 1478, 1479, 1480] (by decide +kernel) (by decide +kernel)
set_option maxRecDepth 20000 in
theorem gL_law_X5_has : GoodIn wsL_law (wsV RL 318 RX5 yX5_has wsX5_has) := goodIn_app (goodIn_of _ (by decide +kernel)) ggL_law_X5_has
set_option maxRecDepth 20000 in
theorem ggL_law_L_hasValue : GoodIn wsL_law wsL_hasValue := goodIn_ca (goodIn_ca (goodIn_r _ [895, 56, 57, 896, 897, 898, 2, 899, 66, 67, 68, 69, 70, 71, 16, 77, 78, 79, 75, 76, 416, 417, 418, 18, 419, 101, 30, 1481, 1482, 1462, 1463, 1464, 1465, 1466, 1467, 1483, 1484, 1485, 1486, 1487, 1488, 1489] (by decide +kernel) (by decide +kernel)) (goodIn_sub (fun _ h => List.mem_append_left _ (List.mem_append_left _ (List.mem_append_right _ h))) (by decide +kernel))) (goodIn_sub (fun _ h => List.mem_append_left _ (List.mem_append_right _ h)) (by decide +kernel))
set_option maxRecDepth 20000 in
theorem gL_law_L_hasValue : GoodIn wsL_law (va_wsS RL 319 yL_hasValue wsL_hasValue) := goodIn_app (goodIn_of _ (by decide +kernel)) ggL_law_L_hasValue
set_option maxRecDepth 20000 in
theorem ggL_law_X5_hasValue : GoodIn wsL_law wsX5_hasValue := goodIn_r _ [903, 123, 124, 5, 125, 126, 127, 128, 129, 130, 131, 132, 133, 134, 135, 136, 137, 141, 142, 143, 424, 425, 426, 427, 37, 383, 384, 385, 1468, 1469, 1470, 1471, 1472, 1473, 1474, 1475, 1476, 1477, 1478, 1479, 1480] (by decide +kernel) (by decide +kernel)
set_option maxRecDepth 20000 in
theorem gL_law_X5_hasValue : GoodIn wsL_law (wsV RL 321 RX5 yX5_hasValue wsX5_hasValue) := goodIn_app (goodIn_of _ (by decide +kernel)) ggL_law_X5_hasValue
set_option maxRecDepth 20000 in
theorem ggL_law_L_ofBook : GoodIn wsL_law wsL_ofBook := goodIn_ca (goodIn_ca (goodIn_r _ [906, 56, 57, 907, 908, 909, 2, 910, 66, 67, 68, 69, 70, 71, 16, 911, 912, 913, 75, 76, 333, 334, 335, 18, 336, 101, 914, 484, 485, 486, 31, 833, 170, 171, 172, 29, 102, 103, 104, 105, 834, 174, 175, 176, 30, 915, 916, 917, 918, 919, 920, 921, 922, 923, 417, 418, 419, 504, 505, 506, 507, 20, 508, 495, 496, 497, 498, 499, 1481, 1482, 1462, 1463, 1464, 1465, 1466, 1467, 1483, 1484, 1485, 1486, 1487, 1488, 1489, 1495, 1496, 1497, 1498, 1499, 1500, 1501] (by decide +kernel) (by decide +kernel)) (goodIn_sub (fun _ h => List.mem_append_left _ (List.mem_append_left _ (List.mem_append_right _ h))) (by decide +kernel))) (goodIn_sub (fun _ h => List.mem_append_left _ (List.mem_append_right _ h)) (by decide +kernel))
set_option maxRecDepth 20000 in
theorem gL_law_L_ofBook : GoodIn wsL_law (va_wsS RL 322 yL_ofBook wsL_ofBook) := goodIn_app (goodIn_of _ (by decide +kernel)) ggL_law_L_ofBook
set_option maxRecDepth 20000 in
theorem ggL_law_X5_ofBook : GoodIn wsL_law wsX5_ofBook := goodIn_r _ [927, 123, 124, 5, 125, 126, 127, 128, 129, 130, 131, 132, 133, 134, 135, 136, 137, 928, 929, 930, 931, 38, 345, 346, 347, 28, 467, 468, 469, 470, 356, 357, 358, 359, 37, 360, 361, 362, 363, 364, 365, 366, 367, 39, 383, 384, 385, 348, 349, 350, 351, 352, 353, 354, 355, 932, 933, 934, 935, 936, 937, 938, 939, 940, 941, 942, 943, 944, 945, 946, 947, 41, 1468, 1469, 1470, 1471, 1472, 1473, 1474, 1475, 1476, 1477, 1478, 1479, 1480] (by decide +kernel) (by decide +kernel)
set_option maxRecDepth 20000 in
theorem gL_law_X5_ofBook : GoodIn wsL_law (wsV RL 324 RX5 yX5_ofBook wsX5_ofBook) := goodIn_app (goodIn_of _ (by decide +kernel)) ggL_law_X5_ofBook
set_option maxRecDepth 20000 in
theorem ggL_law_L_near : GoodIn wsL_law wsL_near := goodIn_ca (goodIn_ca (goodIn_r _ [950, 56, 57, 951, 952, 953, 2, 954, 66, 67, 68, 69, 70, 71, 16, 72, 73, 74, 75, 76, 911, 912, 913, 333, 334, 335, 18, 336, 101, 955, 956, 957, 958, 258, 259, 260, 261, 262, 263, 264, 89, 90, 91, 92, 93, 94, 95, 96, 31, 97, 98, 99, 100, 29, 169, 170, 171, 172, 102, 103, 104, 105, 959, 778, 779, 780, 177, 166, 167, 168, 173, 174, 175, 176, 30, 1481, 1482, 1462, 1463, 1464, 1465, 1466, 1467, 1483, 1484, 1485, 1486, 1487, 1488, 1489] (by decide +kernel) (by decide +kernel)) (goodIn_sub (fun _ h => List.mem_append_left _ (List.mem_append_left _ (List.mem_append_right _ h))) (by decide +kernel))) (goodIn_sub (fun _ h => List.mem_append_left _ (List.mem_append_right _ h)) (by decide +kernel))
set_option maxRecDepth 20000 in
theorem gL_law_L_near : GoodIn wsL_law (va_wsS RL 325 yL_near wsL_near) := goodIn_app (goodIn_of _ (by decide +kernel)) ggL_law_L_near
set_option maxRecDepth 20000 in
theorem ggL_law_X5_near : GoodIn wsL_law wsX5_near := goodIn_r _ [963, 227, 228, 229, 5, 230, 123, 124, 125, 126, 127, 128, 129, 130, 131, 132, 133, 134, 135, 136, 137, 138, 139, 140, 964, 965, 966, 967, 345, 346, 347, 28, 968, 969, 970, 971, 364, 365, 366, 367, 39, 38, 352, 353, 354, 355, 356, 357, 358, 359, 37, 360, 361, 362, 363, 932, 933, 934, 935, 1468, 1469, 1470, 1471, 1472, 1473, 1474, 1475, 1476, 1477, 1478, 1479, 1480] (by decide +kernel) (by decide +kernel)
set_option maxRecDepth 20000 in
theorem gL_law_X5_near : GoodIn wsL_law (wsV RL 327 RX5 yX5_near wsX5_near) := goodIn_app (goodIn_of _ (by decide +kernel)) ggL_law_X5_near
set_option maxRecDepth 20000 in
theorem ggL_law_L_place : GoodIn wsL_law wsL_place := goodIn_ca (goodIn_ca (goodIn_r _ [974, 56, 57, 975, 976, 977, 2, 978, 66, 67, 68, 69, 70, 71, 16, 72, 73, 74, 75, 76, 979, 90, 91, 18, 92, 93, 94, 95, 96, 31, 97, 98, 99, 100, 101, 29, 1481, 1482, 1462, 1463, 1464, 1465, 1466, 1467, 1483, 1484, 1485, 1486, 1487, 1488, 1489] (by decide +kernel) (by decide +kernel)) (goodIn_sub (fun _ h => List.mem_append_left _ (List.mem_append_left _ (List.mem_append_right _ h))) (by decide +kernel))) (goodIn_sub (fun _ h => List.mem_append_left _ (List.mem_append_right _ h)) (by decide +kernel))
set_option maxRecDepth 20000 in
theorem gL_law_L_place : GoodIn wsL_law (va_wsS RL 328 yL_place wsL_place) := goodIn_app (goodIn_of _ (by decide +kernel)) ggL_law_L_place
set_option maxRecDepth 20000 in
theorem ggL_law_X5_place : GoodIn wsL_law wsX5_place := goodIn_r _ [983, 227, 228, 229, 5, 230, 123, 124, 125, 126, 127, 128, 129, 130, 131, 132, 133, 134, 135, 136, 137, 138, 139, 140, 984, 985, 986, 987, 345, 346, 347, 28, 356, 357, 358, 359, 37, 360, 361, 362, 363, 364, 365, 366, 367, 39, 38, 383, 384, 385, 1468, 1469, 1470, 1471, 1472, 1473, 1474, 1475, 1476, 1477, 1478, 1479, 1480] (by decide +kernel) (by decide +kernel)
set_option maxRecDepth 20000 in
theorem gL_law_X5_place : GoodIn wsL_law (wsV RL 330 RX5 yX5_place wsX5_place) := goodIn_app (goodIn_of _ (by decide +kernel)) ggL_law_X5_place
set_option maxRecDepth 20000 in
theorem ggL_law_L_at : GoodIn wsL_law wsL_at := goodIn_ca (goodIn_ca (goodIn_r _ [990, 56, 57, 991, 992, 993, 2, 994, 75, 76, 66, 67, 68, 69, 70, 71, 16, 833, 170, 171, 18, 172, 29, 102, 103, 104, 105, 101, 1481, 1482, 1462, 1463, 1464, 1465, 1466, 1467, 1483, 1484, 1485, 1486, 1487, 1488, 1489] (by decide +kernel) (by decide +kernel)) (goodIn_sub (fun _ h => List.mem_append_left _ (List.mem_append_right _ h)) (by decide +kernel))) (goodIn_sub (fun _ h => List.mem_append_left _ (List.mem_append_left _ (List.mem_append_right _ h))) (by decide +kernel))
set_option maxRecDepth 20000 in
theorem gL_law_L_at : GoodIn wsL_law (va_wsS RL 331 yL_at wsL_at) := goodIn_app (goodIn_of _ (by decide +kernel)) ggL_law_L_at
set_option maxRecDepth 20000 in
theorem ggL_law_X5_at : GoodIn wsL_law wsX5_at := goodIn_r _ [998, 37, 123, 124, 5, 125, 126, 127, 128, 129, 130, 131, 132, 133, 134, 135, 136, 137, 984, 985, 986, 987, 345, 346, 347, 28, 356, 357, 358, 359, 360, 361, 362, 363, 364, 365, 366, 367, 39, 38, 383, 384, 385, 1468, 1469, 1470, 1471, 1472, 1473, 1474, 1475, 1476, 1477, 1478, 1479, 1480] (by decide +kernel) (by decide +kernel)
set_option maxRecDepth 20000 in
theorem gL_law_X5_at : GoodIn wsL_law (wsV RL 333 RX5 yX5_at wsX5_at) := goodIn_app (goodIn_of _ (by decide +kernel)) ggL_law_X5_at
set_option maxRecDepth 20000 in
theorem ggL_law_L_row : GoodIn wsL_law wsL_row := goodIn_ca (goodIn_r _ [1001, 56, 1002, 1003, 1004, 2, 1005, 66, 67, 68, 69, 70, 71, 16, 333, 334, 335, 18, 336, 101, 1006, 1007, 1008, 1009, 1010, 1011, 1012, 1013, 1014, 1015, 1016, 1017, 1018, 1019, 1020, 13, 14, 1021, 1022, 1023, 1024, 1025, 1026, 1027, 1028, 1029, 1030, 1031, 1032, 1033, 1034, 1035, 1036, 1037, 1038, 1039, 1040, 1041, 1042, 1043, 1044, 1045, 1046, 1047, 1048, 1049, 1050, 1051, 1052, 1053, 1054, 1055, 1056, 1057, 1058, 263, 260, 264, 1059, 1060, 1061, 1062, 1063, 1064, 1065, 1066, 1067, 1068, 751, 752, 1069, 1070, 1071, 259, 261, 1072, 111, 112, 113, 1073, 1074, 1075, 1076, 1077, 1078, 1079, 1080, 1081, 1082, 1083, 1084, 1085, 1086, 1087, 1088, 1089, 1090, 1091, 1092, 1093, 1094, 1095, 1096, 1097, 1098, 1099, 1100, 1101, 1102, 1103, 1104, 1105, 1106, 1107, 1108, 1109, 1110, 1111, 1112, 1113, 1114, 1115, 1116, 1117, 1118, 1119, 1120, 1121, 1122, 1123, 1124, 1125, 1126, 1127, 1128, 1129, 1130, 1131, 1132, 1133, 1134, 1135, 1136, 1137, 1138, 1139, 1140, 1141, 1142, 1143, 1144, 1145, 1146, 1147, 1148, 1149, 1150, 1151, 1152, 1153, 1154, 1155, 1156, 1157, 1158, 1159, 1160, 1161, 1162, 1163, 1164, 1165, 1166, 1167, 1168, 1169, 1170, 1171, 1172, 1173, 1174, 1175, 1176, 1177, 1178, 169, 170, 171, 172, 29, 102, 103, 104, 105, 1179, 1180, 1181, 1182, 1183, 1184, 1185, 1186, 1187, 1188, 1189, 1190, 1191, 1192, 1193, 1194, 1195, 1196, 1197, 1198, 1199, 1200, 1201, 1202, 1203, 173, 174, 175, 176, 30, 1204, 1205, 1206, 1207, 1208, 1209, 1210, 1211, 1212, 1213, 1214, 1215, 1216, 1217, 1218, 1219, 1220, 1221, 1222, 1223, 1224, 1225, 1226, 1227, 1228, 1229, 1230, 1231, 1232, 1233, 1234, 1235, 1236, 1237, 1238, 1239, 1240, 1241, 1242, 1243, 1244, 1245, 1246, 1247, 1248, 1249, 1250, 1251, 1252, 1253, 1254, 1255, 1481, 1482, 1462, 1463, 1464, 1465, 1466, 1467, 1483, 1484, 1485, 1486, 1487, 1488, 1489, 1502, 1503, 1504, 1505, 1506, 1507, 1508, 1509] (by decide +kernel) (by decide +kernel)) (goodIn_sub (fun _ h => List.mem_append_left _ (List.mem_append_left _ (List.mem_append_right _ h))) (by decide +kernel))
set_option maxRecDepth 20000 in
theorem gL_law_L_row : GoodIn wsL_law (va_wsS RL 334 yL_row wsL_row) := goodIn_app (goodIn_of _ (by decide +kernel)) ggL_law_L_row
set_option maxRecDepth 20000 in
theorem ggL_law_X5_row : GoodIn wsL_law wsX5_row := goodIn_r _ [1259, 123, 124, 5, 125, 126, 127, 128, 129, 130, 131, 132, 133, 134, 135, 136, 137, 345, 346, 347, 28, 1260, 1261, 1262, 1263, 1264, 1011, 1012, 37, 1265, 1266, 1267, 1268, 1269, 1018, 1270, 1020, 13, 14, 1271, 1053, 1024, 1022, 1023, 1151, 1152, 1153, 1101, 1154, 1155, 1156, 1157, 1158, 1159, 1160, 1161, 1172, 1025, 1026, 1027, 1028, 1029, 1030, 1031, 1032, 1272, 1131, 1273, 1274, 1275, 1276, 1277, 1127, 1128, 1129, 1130, 1039, 1132, 1133, 1042, 1134, 1135, 1136, 1137, 1138, 1043, 1044, 1045, 1046, 1047, 1048, 1049, 1050, 1051, 1052, 1054, 1055, 1056, 1057, 1058, 263, 260, 264, 1059, 1060, 1061, 1062, 1063, 1064, 1065, 1066, 1067, 1068, 751, 752, 1069, 1070, 1071, 259, 261, 1072, 111, 112, 113, 1073, 1074, 1075, 1076, 1077, 1021, 1139, 1140, 1141, 1111, 1142, 1143, 1144, 1096, 1097, 1098, 1145, 1146, 1147, 1103, 1148, 1149, 1106, 1150, 1108, 1109, 1110, 1112, 1113, 1162, 1163, 1164, 1165, 1166, 1167, 1168, 1169, 1170, 1171, 1082, 1083, 1084, 1085, 1086, 1087, 1088, 1080, 1089, 1090, 1091, 1092, 1093, 1094, 1095, 1099, 1100, 1102, 1104, 1105, 1107, 1173, 1174, 1175, 1176, 1177, 1178, 348, 349, 350, 351, 352, 353, 354, 355, 356, 357, 358, 359, 360, 361, 362, 363, 364, 365, 366, 367, 39, 38, 1278, 1227, 1279, 1228, 1229, 1224, 1230, 1231, 1280, 1281, 1180, 1181, 1182, 1183, 1184, 1185, 1186, 1187, 1188, 1189, 1190, 1191, 1192, 1193, 1194, 1195, 1196, 1197, 1198, 1199, 1200, 1201, 1202, 1203, 968, 969, 970, 971, 1282, 1205, 1206, 1207, 1208, 1209, 1210, 1211, 1212, 1213, 1214, 1215, 1216, 1217, 1218, 1219, 1220, 1221, 1222, 1223, 1225, 1226, 1232, 1233, 1234, 1235, 1236, 1237, 1238, 1239, 1240, 1241, 1242, 1243, 1244, 1245, 1246, 1247, 1248, 1249, 1250, 1251, 1252, 1253, 1254, 1255, 1468, 1469, 1470, 1471, 1472, 1473, 1474, 1475, 1476, 1477, 1478, 1479, 1480, 1502, 1503, 1504, 1505, 1506, 1507, 1508, 1509] (by decide +kernel) (by decide +kernel)
set_option maxRecDepth 20000 in
theorem gL_law_X5_row : GoodIn wsL_law (wsV RL 336 RX5 yX5_row wsX5_row) := goodIn_app (goodIn_of _ (by decide +kernel)) ggL_law_X5_row
set_option maxRecDepth 20000 in
theorem ggL_law_L_same : GoodIn wsL_law wsL_same := goodIn_ca (goodIn_r _ [1285, 56, 1286, 1287, 1288, 2, 1289, 66, 67, 68, 69, 70, 71, 16, 1290, 1291, 1292, 18, 1293, 101, 29, 30, 458, 334, 335, 336, 165, 166, 167, 168, 89, 90, 91, 92, 93, 94, 95, 96, 31, 97, 98, 99, 100, 169, 170, 171, 172, 102, 103, 104, 105, 173, 174, 175, 176, 1481, 1482, 1462, 1463, 1464, 1465, 1466, 1467, 1483, 1484, 1485, 1486, 1487, 1488, 1489] (by decide +kernel) (by decide +kernel)) (goodIn_sub (fun _ h => List.mem_append_left _ (List.mem_append_left _ (List.mem_append_right _ h))) (by decide +kernel))
set_option maxRecDepth 20000 in
theorem gL_law_L_same : GoodIn wsL_law (va_wsS RL 337 yL_same wsL_same) := goodIn_app (goodIn_of _ (by decide +kernel)) ggL_law_L_same
set_option maxRecDepth 20000 in
theorem ggL_law_X5_same : GoodIn wsL_law wsX5_same := goodIn_r _ [1297, 123, 124, 5, 125, 126, 127, 128, 129, 130, 131, 132, 133, 134, 135, 136, 137, 1298, 1299, 1300, 1301, 37, 1468, 1469, 1470, 1471, 1472, 1473, 1474, 1475, 1476, 1477, 1478, 1479, 1480] (by decide +kernel) (by decide +kernel)
set_option maxRecDepth 20000 in
theorem gL_law_X5_same : GoodIn wsL_law (wsV RL 339 RX5 yX5_same wsX5_same) := goodIn_app (goodIn_of _ (by decide +kernel)) ggL_law_X5_same
set_option maxRecDepth 20000 in
theorem ggL_law_L_viewGet : GoodIn wsL_law wsL_viewGet := goodIn_ca (goodIn_ca (goodIn_r _ [1304, 56, 57, 1305, 1306, 1307, 2, 1308, 610, 611, 612, 613, 70, 71, 20, 72, 73, 74, 75, 76, 614, 615, 616, 497, 617, 499, 549, 551, 552, 94, 95, 18, 96, 31, 508, 495, 496, 498, 177, 166, 167, 168, 89, 90, 91, 92, 93, 97, 98, 99, 100, 101, 29, 169, 170, 171, 172, 102, 103, 104, 105, 173, 174, 175, 176, 30, 1481, 1482, 1462, 1463, 1464, 1465, 1466, 1467, 1495, 1496, 1497, 1498, 1499, 1500, 1501, 1483, 1484, 1485, 1486, 1487, 1488, 1489] (by decide +kernel) (by decide +kernel)) (goodIn_sub (fun _ h => List.mem_append_left _ (List.mem_append_left _ (List.mem_append_right _ h))) (by decide +kernel))) (goodIn_sub (fun _ h => List.mem_append_left _ (List.mem_append_right _ h)) (by decide +kernel))
set_option maxRecDepth 20000 in
theorem gL_law_L_viewGet : GoodIn wsL_law (va_wsS RL 340 yL_viewGet wsL_viewGet) := goodIn_app (goodIn_of _ (by decide +kernel)) ggL_law_L_viewGet
set_option maxRecDepth 20000 in
theorem ggL_law_X5_viewGet : GoodIn wsL_law wsX5_viewGet := goodIn_r _ [1312, 41, 37, 622, 623, 624, 5, 625, 126, 127, 128, 129, 130, 131, 132, 133, 134, 135, 136, 137, 138, 139, 140, 356, 357, 358, 359, 360, 361, 362, 363, 364, 365, 366, 367, 39, 38, 1468, 1469, 1470, 1471, 1472, 1473, 1474, 1475, 1476, 1477, 1478, 1479, 1480] (by decide +kernel) (by decide +kernel)
set_option maxRecDepth 20000 in
theorem gL_law_X5_viewGet : GoodIn wsL_law (wsV RL 342 RX5 yX5_viewGet wsX5_viewGet) := goodIn_app (goodIn_of _ (by decide +kernel)) ggL_law_X5_viewGet
set_option maxRecDepth 20000 in
theorem ggL_law_L_ofView : GoodIn wsL_law wsL_ofView := goodIn_ca (goodIn_ca (goodIn_r _ [1315, 56, 57, 1316, 1317, 1318, 2, 1319, 610, 611, 612, 613, 70, 71, 20, 911, 912, 913, 75, 76, 633, 634, 635, 497, 636, 637, 638, 639, 640, 499, 551, 641, 98, 99, 18, 100, 101, 29, 93, 94, 95, 96, 31, 642, 643, 644, 645, 549, 508, 495, 496, 498, 1320, 1321, 1322, 1323, 27, 1324, 1325, 1326, 1327, 545, 1328, 1329, 1330, 1331, 547, 1332, 1333, 1334, 1335, 546, 1336, 1337, 1338, 1339, 548, 695, 833, 170, 171, 172, 102, 103, 104, 105, 694, 915, 916, 917, 918, 30, 1481, 1482, 1462, 1463, 1464, 1465, 1466, 1467, 1495, 1496, 1497, 1498, 1499, 1500, 1501, 1483, 1484, 1485, 1486, 1487, 1488, 1489] (by decide +kernel) (by decide +kernel)) (goodIn_sub (fun _ h => List.mem_append_left _ (List.mem_append_left _ (List.mem_append_right _ h))) (by decide +kernel))) (goodIn_sub (fun _ h => List.mem_append_left _ (List.mem_append_right _ h)) (by decide +kernel))
set_option maxRecDepth 20000 in
theorem gL_law_L_ofView : GoodIn wsL_law (va_wsS RL 343 yL_ofView wsL_ofView) := goodIn_app (goodIn_of _ (by decide +kernel)) ggL_law_L_ofView
set_option maxRecDepth 20000 in
theorem ggL_law_X5_ofView : GoodIn wsL_law wsX5_ofView := goodIn_r _ [1343, 622, 623, 624, 5, 625, 41, 126, 127, 128, 129, 130, 131, 132, 133, 134, 135, 136, 137, 1344, 1345, 1346, 1347, 467, 468, 469, 470, 356, 357, 358, 359, 37, 360, 361, 362, 363, 364, 365, 366, 367, 39, 38, 383, 384, 385, 348, 349, 350, 351, 352, 353, 354, 355, 936, 937, 938, 939, 1468, 1469, 1470, 1471, 1472, 1473, 1474, 1475, 1476, 1477, 1478, 1479, 1480] (by decide +kernel) (by decide +kernel)
set_option maxRecDepth 20000 in
theorem gL_law_X5_ofView : GoodIn wsL_law (wsV RL 345 RX5 yX5_ofView wsX5_ofView) := goodIn_app (goodIn_of _ (by decide +kernel)) ggL_law_X5_ofView
set_option maxRecDepth 20000 in
theorem ggL_law_L_viewNear : GoodIn wsL_law wsL_viewNear := goodIn_ca (goodIn_ca (goodIn_r _ [1350, 56, 57, 1351, 1352, 1353, 2, 1354, 610, 611, 612, 613, 70, 71, 20, 72, 73, 74, 75, 76, 911, 912, 913, 508, 495, 496, 497, 498, 499, 695, 643, 644, 645, 549, 641, 98, 99, 18, 100, 101, 29, 93, 94, 95, 96, 31, 694, 638, 639, 640, 551, 955, 956, 957, 958, 258, 259, 260, 261, 262, 263, 264, 89, 90, 91, 92, 97, 169, 170, 171, 172, 102, 103, 104, 105, 959, 778, 779, 780, 1481, 1482, 1462, 1463, 1464, 1465, 1466, 1467, 1495, 1496, 1497, 1498, 1499, 1500, 1501, 1483, 1484, 1485, 1486, 1487, 1488, 1489] (by decide +kernel) (by decide +kernel)) (goodIn_sub (fun _ h => List.mem_append_left _ (List.mem_append_left _ (List.mem_append_right _ h))) (by decide +kernel))) (goodIn_sub (fun _ h => List.mem_append_left _ (List.mem_append_right _ h)) (by decide +kernel))
set_option maxRecDepth 20000 in
theorem gL_law_L_viewNear : GoodIn wsL_law (va_wsS RL 346 yL_viewNear wsL_viewNear) := goodIn_app (goodIn_of _ (by decide +kernel)) ggL_law_L_viewNear
set_option maxRecDepth 20000 in
theorem ggL_law_X5_viewNear : GoodIn wsL_law wsX5_viewNear := goodIn_r _ [1358, 41, 622, 623, 624, 5, 625, 126, 127, 128, 129, 130, 131, 132, 133, 134, 135, 136, 137, 138, 139, 140, 968, 969, 970, 971, 364, 365, 366, 367, 39, 38, 352, 353, 354, 355, 356, 357, 358, 359, 37, 360, 361, 362, 363, 1468, 1469, 1470, 1471, 1472, 1473, 1474, 1475, 1476, 1477, 1478, 1479, 1480] (by decide +kernel) (by decide +kernel)
set_option maxRecDepth 20000 in
theorem gL_law_X5_viewNear : GoodIn wsL_law (wsV RL 348 RX5 yX5_viewNear wsX5_viewNear) := goodIn_app (goodIn_of _ (by decide +kernel)) ggL_law_X5_viewNear
set_option maxRecDepth 20000 in
theorem ggL_law_L_viewRow : GoodIn wsL_law wsL_viewRow := goodIn_ca (goodIn_r _ [1361, 56, 1362, 1363, 1364, 2, 1365, 610, 611, 612, 613, 70, 71, 20, 508, 495, 496, 497, 498, 499, 695, 643, 644, 645, 549, 641, 98, 99, 18, 100, 101, 29, 93, 94, 95, 96, 31, 694, 638, 639, 640, 551, 1006, 1007, 1008, 1009, 1010, 1011, 1012, 1013, 1014, 1015, 1016, 1017, 1018, 1019, 1020, 13, 14, 1021, 1022, 1023, 1024, 1025, 1026, 1027, 1028, 1029, 1030, 1031, 1032, 1033, 1034, 1035, 1036, 1037, 1038, 1039, 1040, 1041, 1042, 1043, 1044, 1045, 1046, 1047, 1048, 1049, 1050, 1051, 1052, 1053, 1054, 1055, 1056, 1057, 1058, 263, 260, 264, 1059, 1060, 1061, 1062, 1063, 1064, 1065, 1066, 1067, 1068, 751, 752, 1069, 1070, 1071, 259, 261, 1072, 111, 112, 113, 1073, 1074, 1075, 1076, 1077, 1078, 1079, 1080, 1081, 1082, 1083, 1084, 1085, 1086, 1087, 1088, 1089, 1090, 1091, 1092, 1093, 1094, 1095, 1096, 1097, 1098, 1099, 1100, 1101, 1102, 1103, 1104, 1105, 1106, 1107, 1108, 1109, 1110, 1111, 1112, 1113, 1114, 1115, 1116, 1117, 1118, 1119, 1120, 1121, 1122, 1123, 1124, 1125, 1126, 1127, 1128, 1129, 1130, 1131, 1132, 1133, 1134, 1135, 1136, 1137, 1138, 1139, 1140, 1141, 1142, 1143, 1144, 1145, 1146, 1147, 1148, 1149, 1150, 1151, 1152, 1153, 1154, 1155, 1156, 1157, 1158, 1159, 1160, 1161, 1162, 1163, 1164, 1165, 1166, 1167, 1168, 1169, 1170, 1171, 1172, 1173, 1174, 1175, 1176, 1177, 1178, 169, 170, 171, 172, 102, 103, 104, 105, 1179, 1180, 1181, 1182, 1183, 1184, 1185, 1186, 1187, 1188, 1189, 1190, 1191, 1192, 1193, 1194, 1195, 1196, 1197, 1198, 1199, 1200, 1201, 1202, 1203, 173, 174, 175, 176, 30, 1204, 1205, 1206, 1207, 1208, 1209, 1210, 1211, 1212, 1213, 1214, 1215, 1216, 1217, 1218, 1219, 1220, 1221, 1222, 1223, 1224, 1225, 1226, 1227, 1228, 1229, 1230, 1231, 1232, 1233, 1234, 1235, 1236, 1237, 1238, 1239, 1240, 1241, 1242, 1243, 1244, 1245, 1246, 1247, 1248, 1249, 1250, 1251, 1252, 1253, 1254, 1255, 1481, 1482, 1462, 1463, 1464, 1465, 1466, 1467, 1495, 1496, 1497, 1498, 1499, 1500, 1501, 1483, 1484, 1485, 1486, 1487, 1488, 1489, 1502, 1503, 1504, 1505, 1506, 1507, 1508, 1509] (by decide +kernel) (by decide +kernel)) (goodIn_sub (fun _ h => List.mem_append_left _ (List.mem_append_left _ (List.mem_append_right _ h))) (by decide +kernel))
set_option maxRecDepth 20000 in
theorem gL_law_L_viewRow : GoodIn wsL_law (va_wsS RL 349 yL_viewRow wsL_viewRow) := goodIn_app (goodIn_of _ (by decide +kernel)) ggL_law_L_viewRow
set_option maxRecDepth 20000 in
theorem ggL_law_X5_viewRow : GoodIn wsL_law wsX5_viewRow := goodIn_r _ [1369, 41, 622, 623, 624, 5, 625, 126, 127, 128, 129, 130, 131, 132, 133, 134, 135, 136, 137, 1260, 1261, 1262, 1263, 1264, 1011, 1012, 37, 1265, 1266, 1267, 1268, 1269, 1018, 1270, 1020, 13, 14, 1271, 1053, 1024, 1022, 1023, 1151, 1152, 1153, 1101, 1154, 1155, 1156, 1157, 1158, 1159, 1160, 1161, 1172, 1025, 1026, 1027, 1028, 1029, 1030, 1031, 1032, 1272, 1131, 1273, 1274, 1275, 1276, 1277, 1127, 1128, 1129, 1130, 1039, 1132, 1133, 1042, 1134, 1135, 1136, 1137, 1138, 1043, 1044, 1045, 1046, 1047, 1048, 1049, 1050, 1051, 1052, 1054, 1055, 1056, 1057, 1058, 263, 260, 264, 1059, 1060, 1061, 1062, 1063, 1064, 1065, 1066, 1067, 1068, 751, 752, 1069, 1070, 1071, 259, 261, 1072, 111, 112, 113, 1073, 1074, 1075, 1076, 1077, 1021, 1139, 1140, 1141, 1111, 1142, 1143, 1144, 1096, 1097, 1098, 1145, 1146, 1147, 1103, 1148, 1149, 1106, 1150, 1108, 1109, 1110, 1112, 1113, 1162, 1163, 1164, 1165, 1166, 1167, 1168, 1169, 1170, 1171, 1082, 1083, 1084, 1085, 1086, 1087, 1088, 1080, 1089, 1090, 1091, 1092, 1093, 1094, 1095, 1099, 1100, 1102, 1104, 1105, 1107, 1173, 1174, 1175, 1176, 1177, 1178, 348, 349, 350, 351, 352, 353, 354, 355, 356, 357, 358, 359, 360, 361, 362, 363, 364, 365, 366, 367, 39, 38, 1278, 1227, 1279, 1228, 1229, 1224, 1230, 1231, 1280, 1281, 1180, 1181, 1182, 1183, 1184, 1185, 1186, 1187, 1188, 1189, 1190, 1191, 1192, 1193, 1194, 1195, 1196, 1197, 1198, 1199, 1200, 1201, 1202, 1203, 968, 969, 970, 971, 1282, 1205, 1206, 1207, 1208, 1209, 1210, 1211, 1212, 1213, 1214, 1215, 1216, 1217, 1218, 1219, 1220, 1221, 1222, 1223, 1225, 1226, 1232, 1233, 1234, 1235, 1236, 1237, 1238, 1239, 1240, 1241, 1242, 1243, 1244, 1245, 1246, 1247, 1248, 1249, 1250, 1251, 1252, 1253, 1254, 1255, 1468, 1469, 1470, 1471, 1472, 1473, 1474, 1475, 1476, 1477, 1478, 1479, 1480, 1502, 1503, 1504, 1505, 1506, 1507, 1508, 1509] (by decide +kernel) (by decide +kernel)
set_option maxRecDepth 20000 in
theorem gL_law_X5_viewRow : GoodIn wsL_law (wsV RL 351 RX5 yX5_viewRow wsX5_viewRow) := goodIn_app (goodIn_of _ (by decide +kernel)) ggL_law_X5_viewRow
set_option maxRecDepth 20000 in
theorem ggL_law_L_ledger : GoodIn wsL_law wsL_ledger := goodIn_ca (goodIn_r _ [1372, 57, 1373, 1374, 1375, 2, 1376, 478, 21, 22, 854, 911, 912, 913, 75, 76, 591, 592, 593, 594, 20, 488, 489, 490, 491, 492, 493, 494, 495, 496, 497, 498, 499, 1320, 1321, 1322, 18, 1323, 27, 765, 766, 767, 768, 729, 769, 730, 731, 732, 733, 114, 798, 799, 800, 801, 774, 775, 728, 783, 784, 785, 786, 84, 1481, 1482, 1462, 1463, 1464, 1465, 1466, 1467, 1490, 1491, 1492, 1493, 1494, 1495, 1496, 1497, 1498, 1499, 1500, 1501, 1483, 1484, 1485, 1486, 1487, 1488, 1489] (by decide +kernel) (by decide +kernel)) (goodIn_sub (fun _ h => List.mem_append_left _ (List.mem_append_right _ h)) (by decide +kernel))
set_option maxRecDepth 20000 in
theorem gL_law_L_ledger : GoodIn wsL_law (va_wsS RL 352 yL_ledger wsL_ledger) := goodIn_app (goodIn_of _ (by decide +kernel)) ggL_law_L_ledger
set_option maxRecDepth 20000 in
theorem ggL_law_X5_ledger : GoodIn wsL_law wsX5_ledger := goodIn_r _ [1380, 126, 127, 5, 128, 129, 130, 131, 132, 133, 134, 135, 136, 137, 1381, 1382, 1383, 1384, 41, 28, 148, 153, 43, 44, 45, 859, 383, 384, 385, 1468, 1469, 1470, 1471, 1472, 1473, 1474, 1475, 1476, 1477, 1478, 1479, 1480] (by decide +kernel) (by decide +kernel)
set_option maxRecDepth 20000 in
theorem gL_law_X5_ledger : GoodIn wsL_law (wsV RL 354 RX5 yX5_ledger wsX5_ledger) := goodIn_app (goodIn_of _ (by decide +kernel)) ggL_law_X5_ledger
set_option maxRecDepth 20000 in
theorem ggL_law_X3_isSound : GoodIn wsL_law wsX3_isSound := goodIn_r _ [1388, 20, 16, 1389, 1390, 1391, 497, 1392, 499, 642, 643, 644, 645, 549, 641, 98, 99, 18, 100, 101, 29, 93, 94, 95, 96, 31, 637, 638, 639, 640, 551, 1393, 334, 335, 336, 1394, 170, 171, 172, 102, 103, 104, 105, 1395, 615, 616, 617, 552, 1396, 1397, 1398, 1399, 169, 1400, 596, 597, 598, 1401, 956, 957, 958, 258, 259, 260, 261, 262, 263, 264, 89, 90, 91, 92, 97, 959, 778, 779, 780, 1290, 1291, 1292, 1293, 30, 458, 165, 166, 167, 168, 173, 174, 175, 176, 1402, 1403, 1404, 1405, 1406, 916, 917, 918, 1462, 1463, 1464, 1465, 1466, 1467, 1495, 1496, 1497, 1498, 1499, 1500, 1501, 1483, 1484, 1485, 1486, 1487, 1488, 1489] (by decide +kernel) (by decide +kernel)
set_option maxRecDepth 20000 in
theorem gL_law_X3_isSound : GoodIn wsL_law (wsV RL 355 RX3 yX3_isSound wsX3_isSound) := goodIn_app (goodIn_of _ (by decide +kernel)) ggL_law_X3_isSound
set_option maxRecDepth 20000 in
theorem ggL_law_X5_isSound : GoodIn wsL_law wsX5_isSound := goodIn_r _ [1410, 133, 1411, 1412, 1413, 5, 1414, 41, 1415, 1416, 1417, 1418, 345, 346, 347, 28, 348, 349, 350, 351, 352, 353, 354, 355, 356, 357, 358, 359, 37, 360, 361, 362, 363, 364, 365, 366, 367, 39, 38, 968, 969, 970, 971, 984, 985, 986, 987, 383, 384, 385, 1298, 1299, 1300, 1301, 467, 468, 469, 470, 936, 937, 938, 939, 1468, 1469, 1470, 1471, 1472, 1473, 1474, 1475, 1476, 1477, 1478, 1479, 1480] (by decide +kernel) (by decide +kernel)
set_option maxRecDepth 20000 in
theorem gL_law_X5_isSound : GoodIn wsL_law (wsV RL 359 RX5 yX5_isSound wsX5_isSound) := goodIn_app (goodIn_of _ (by decide +kernel)) ggL_law_X5_isSound
set_option maxRecDepth 20000 in
theorem ggL_law_X3_digest : GoodIn wsL_law wsX3_digest := goodIn_ca (goodIn_ca (goodIn_r _ [1422, 1423, 16, 20, 1424, 1374, 1375, 2, 1376, 478, 21, 22, 854, 911, 912, 913, 75, 76, 591, 592, 593, 594, 488, 489, 490, 491, 492, 493, 494, 495, 496, 497, 498, 499, 1320, 1321, 1322, 18, 1323, 27, 765, 766, 767, 768, 729, 769, 730, 731, 732, 733, 114, 798, 799, 800, 801, 774, 775, 728, 783, 784, 785, 786, 84, 1425, 1426, 1427, 1428, 1429, 1430, 1431, 1432, 66, 67, 68, 69, 70, 71, 1433, 908, 909, 910, 333, 334, 335, 336, 101, 914, 484, 485, 486, 31, 833, 170, 171, 172, 29, 102, 103, 104, 105, 834, 174, 175, 176, 30, 915, 916, 917, 918, 919, 920, 921, 922, 923, 417, 418, 419, 504, 505, 506, 507, 508, 1434, 952, 953, 954, 72, 73, 74, 955, 956, 957, 958, 258, 259, 260, 261, 262, 263, 264, 89, 90, 91, 92, 93, 94, 95, 96, 97, 98, 99, 100, 169, 959, 778, 779, 780, 177, 166, 167, 168, 173, 1290, 1291, 1292, 1293, 458, 165, 1435, 1436, 1437, 1438, 610, 611, 612, 613, 1439, 1317, 1318, 1319, 633, 634, 635, 636, 637, 638, 639, 640, 551, 641, 642, 643, 644, 645, 549, 1324, 1325, 1326, 1327, 545, 1328, 1329, 1330, 1331, 547, 1332, 1333, 1334, 1335, 546, 1336, 1337, 1338, 1339, 548, 695, 694, 1440, 1352, 1353, 1354, 1441, 1442, 1443, 1444, 1445, 1446, 1447, 1448, 1449, 1450, 1451, 1386, 1387, 1388, 1389, 1390, 1391, 1392, 1393, 1394, 1395, 615, 616, 617, 552, 1396, 1397, 1398, 1399, 1400, 596, 597, 598, 1401, 1402, 1403, 1404, 1405, 1406, 1462, 1463, 1464, 1465, 1466, 1467, 1490, 1491, 1492, 1493, 1494, 1495, 1496, 1497, 1498, 1499, 1500, 1501, 1483, 1484, 1485, 1486, 1487, 1488, 1489] (by decide +kernel) (by decide +kernel)) (goodIn_sub (fun _ h => List.mem_append_left _ (List.mem_append_right _ h)) (by decide +kernel))) (goodIn_sub (fun _ h => List.mem_append_left _ (List.mem_append_left _ (List.mem_append_right _ h))) (by decide +kernel))
set_option maxRecDepth 20000 in
theorem gL_law_X3_digest : GoodIn wsL_law (wsV RL 360 RX3 yX3_digest wsX3_digest) := goodIn_app (goodIn_of _ (by decide +kernel)) ggL_law_X3_digest
set_option maxRecDepth 20000 in
theorem ggL_law_X5_digest : GoodIn wsL_law wsX5_digest := goodIn_r _ [1455, 133, 1456, 37, 41, 1381, 1382, 1383, 5, 1384, 28, 148, 153, 43, 44, 45, 859, 383, 384, 385, 1457, 1458, 1459, 1460, 345, 346, 347, 928, 929, 930, 931, 38, 467, 468, 469, 470, 356, 357, 358, 359, 360, 361, 362, 363, 364, 365, 366, 367, 39, 348, 349, 350, 351, 352, 353, 354, 355, 932, 933, 934, 935, 936, 937, 938, 939, 940, 941, 942, 943, 944, 945, 946, 947, 968, 969, 970, 971, 964, 965, 966, 967, 1298, 1299, 1300, 1301, 1344, 1345, 1346, 1347, 1260, 1261, 1262, 1263, 1264, 1011, 1012, 1265, 1266, 1267, 1268, 1269, 1018, 1270, 1020, 13, 14, 1271, 1053, 1024, 1022, 1023, 1151, 1152, 1153, 1101, 1154, 1155, 1156, 1157, 1158, 1159, 1160, 1161, 1172, 1025, 1026, 1027, 1028, 1029, 1030, 1031, 1032, 1272, 1131, 1273, 1274, 1275, 1276, 1277, 1127, 1128, 1129, 1130, 1039, 1132, 1133, 1042, 1134, 1135, 1136, 1137, 1138, 1043, 1044, 1045, 1046, 1047, 1048, 1049, 1050, 1051, 1052, 1054, 1055, 1056, 1057, 1058, 263, 260, 264, 1059, 1060, 1061, 1062, 1063, 1064, 1065, 1066, 1067, 1068, 751, 752, 1069, 1070, 1071, 259, 261, 1072, 111, 112, 113, 1073, 1074, 1075, 1076, 1077, 1021, 1139, 1140, 1141, 1111, 1142, 1143, 1144, 1096, 1097, 1098, 1145, 1146, 1147, 1103, 1148, 1149, 1106, 1150, 1108, 1109, 1110, 1112, 1113, 1162, 1163, 1164, 1165, 1166, 1167, 1168, 1169, 1170, 1171, 1082, 1083, 1084, 1085, 1086, 1087, 1088, 1080, 1089, 1090, 1091, 1092, 1093, 1094, 1095, 1099, 1100, 1102, 1104, 1105, 1107, 1173, 1174, 1175, 1176, 1177, 1178, 1278, 1227, 1279, 1228, 1229, 1224, 1230, 1231, 1280, 1281, 1180, 1181, 1182, 1183, 1184, 1185, 1186, 1187, 1188, 1189, 1190, 1191, 1192, 1193, 1194, 1195, 1196, 1197, 1198, 1199, 1200, 1201, 1202, 1203, 1282, 1205, 1206, 1207, 1208, 1209, 1210, 1211, 1212, 1213, 1214, 1215, 1216, 1217, 1218, 1219, 1220, 1221, 1222, 1223, 1225, 1226, 1232, 1233, 1234, 1235, 1236, 1237, 1238, 1239, 1240, 1241, 1242, 1243, 1244, 1245, 1246, 1247, 1248, 1249, 1250, 1251, 1252, 1253, 1254, 1255, 1461, 1411, 1412, 1413, 1414, 1415, 1416, 1417, 1418, 984, 985, 986, 987, 1468, 1469, 1470, 1471, 1472, 1473, 1474, 1475, 1476, 1477, 1478, 1479, 1480, 1502, 1503, 1504, 1505, 1506, 1507, 1508, 1509] (by decide +kernel) (by decide +kernel)
set_option maxRecDepth 20000 in
theorem gL_law_X5_digest : GoodIn wsL_law (wsV RL 364 RX5 yX5_digest wsX5_digest) := goodIn_app (goodIn_of _ (by decide +kernel)) ggL_law_X5_digest
theorem dL_law_0 : decode cL_law 0 = .ok (.new 8, 3) := by decide +kernel
theorem dL_law_3 : decode cL_law 3 = .ok (.dup, 1) := by decide +kernel
theorem dL_law_4 : decode cL_law 4 = .ok (.invokespecial 186, 3) := by decide +kernel
theorem dL_law_7 : decode cL_law 7 = .ok (.astore_n 1, 1) := by decide +kernel
theorem dL_law_8 : decode cL_law 8 = .ok (.new 187, 3) := by decide +kernel
theorem dL_law_11 : decode cL_law 11 = .ok (.dup, 1) := by decide +kernel
theorem dL_law_12 : decode cL_law 12 = .ok (.invokespecial 189, 3) := by decide +kernel
theorem dL_law_15 : decode cL_law 15 = .ok (.astore_n 2, 1) := by decide +kernel
theorem dL_law_16 : decode cL_law 16 = .ok (.new 14, 3) := by decide +kernel
theorem dL_law_19 : decode cL_law 19 = .ok (.dup, 1) := by decide +kernel
theorem dL_law_20 : decode cL_law 20 = .ok (.invokespecial 190, 3) := by decide +kernel
theorem dL_law_23 : decode cL_law 23 = .ok (.astore_n 3, 1) := by decide +kernel
theorem dL_law_24 : decode cL_law 24 = .ok (.iconst 0, 1) := by decide +kernel
theorem dL_law_25 : decode cL_law 25 = .ok (.istore 4, 2) := by decide +kernel
theorem dL_law_27 : decode cL_law 27 = .ok (.iload 4, 2) := by decide +kernel
theorem dL_law_29 : decode cL_law 29 = .ok (.aload_n 0, 1) := by decide +kernel
theorem dL_law_30 : decode cL_law 30 = .ok (.arraylength, 1) := by decide +kernel
theorem dL_law_31 : decode cL_law 31 = .ok (.bipush 6, 2) := by decide +kernel
theorem dL_law_33 : decode cL_law 33 = .ok (.isub, 1) := by decide +kernel
theorem dL_law_34 : decode cL_law 34 = .ok (.if_icmp .gt 2527, 3) := by decide +kernel
theorem dL_law_37 : decode cL_law 37 = .ok (.aload_n 0, 1) := by decide +kernel
theorem dL_law_38 : decode cL_law 38 = .ok (.iload 4, 2) := by decide +kernel
theorem dL_law_40 : decode cL_law 40 = .ok (.iaload, 1) := by decide +kernel
theorem dL_law_41 : decode cL_law 41 = .ok (.bipush 63, 2) := by decide +kernel
theorem dL_law_43 : decode cL_law 43 = .ok (.iand, 1) := by decide +kernel
theorem dL_law_44 : decode cL_law 44 = .ok (.tableswitch 2511 0 52 #[228, 280, 332, 384, 448, 488, 540, 592, 632, 672, 712, 768, 808, 848, 888, 916, 956, 996, 1064, 1132, 1200, 1308, 1416, 1444, 1496, 1536, 1588, 1644, 1672, 1700, 1728, 1744, 1772, 1788, 1844, 1872, 1885, 1925, 1977, 2017, 2057, 2097, 2149, 2189, 2229, 2257, 2297, 2337, 2377, 2429, 2457, 2485, 2498], 228) := by decide +kernel
theorem dL_law_272 : decode cL_law 272 = .ok (.aload_n 1, 1) := by decide +kernel
theorem dL_law_273 : decode cL_law 273 = .ok (.aload_n 0, 1) := by decide +kernel
theorem dL_law_274 : decode cL_law 274 = .ok (.iload 4, 2) := by decide +kernel
theorem dL_law_276 : decode cL_law 276 = .ok (.iconst 1, 1) := by decide +kernel
theorem dL_law_277 : decode cL_law 277 = .ok (.iadd, 1) := by decide +kernel
theorem dL_law_278 : decode cL_law 278 = .ok (.iaload, 1) := by decide +kernel
theorem dL_law_279 : decode cL_law 279 = .ok (.aload_n 0, 1) := by decide +kernel
theorem dL_law_280 : decode cL_law 280 = .ok (.iload 4, 2) := by decide +kernel
theorem dL_law_282 : decode cL_law 282 = .ok (.iconst 2, 1) := by decide +kernel
theorem dL_law_283 : decode cL_law 283 = .ok (.iadd, 1) := by decide +kernel
theorem dL_law_284 : decode cL_law 284 = .ok (.iaload, 1) := by decide +kernel
theorem dL_law_285 : decode cL_law 285 = .ok (.aload_n 0, 1) := by decide +kernel
theorem dL_law_286 : decode cL_law 286 = .ok (.iload 4, 2) := by decide +kernel
theorem dL_law_288 : decode cL_law 288 = .ok (.iconst 3, 1) := by decide +kernel
theorem dL_law_289 : decode cL_law 289 = .ok (.iadd, 1) := by decide +kernel
theorem dL_law_290 : decode cL_law 290 = .ok (.iaload, 1) := by decide +kernel
theorem dL_law_291 : decode cL_law 291 = .ok (.aload_n 3, 1) := by decide +kernel
theorem dL_law_292 : decode cL_law 292 = .ok (.invokestatic 191, 3) := by decide +kernel
theorem dL_law_295 : decode cL_law 295 = .ok (.istore 5, 2) := by decide +kernel
theorem dL_law_297 : decode cL_law 297 = .ok (.aload_n 2, 1) := by decide +kernel
theorem dL_law_298 : decode cL_law 298 = .ok (.aload_n 0, 1) := by decide +kernel
theorem dL_law_299 : decode cL_law 299 = .ok (.iload 4, 2) := by decide +kernel
theorem dL_law_301 : decode cL_law 301 = .ok (.iconst 1, 1) := by decide +kernel
theorem dL_law_302 : decode cL_law 302 = .ok (.iadd, 1) := by decide +kernel
theorem dL_law_303 : decode cL_law 303 = .ok (.iaload, 1) := by decide +kernel
theorem dL_law_304 : decode cL_law 304 = .ok (.aload_n 0, 1) := by decide +kernel
theorem dL_law_305 : decode cL_law 305 = .ok (.iload 4, 2) := by decide +kernel
theorem dL_law_307 : decode cL_law 307 = .ok (.iconst 2, 1) := by decide +kernel
theorem dL_law_308 : decode cL_law 308 = .ok (.iadd, 1) := by decide +kernel
theorem dL_law_309 : decode cL_law 309 = .ok (.iaload, 1) := by decide +kernel
theorem dL_law_310 : decode cL_law 310 = .ok (.aload_n 0, 1) := by decide +kernel
theorem dL_law_311 : decode cL_law 311 = .ok (.iload 4, 2) := by decide +kernel
theorem dL_law_313 : decode cL_law 313 = .ok (.iconst 3, 1) := by decide +kernel
theorem dL_law_314 : decode cL_law 314 = .ok (.iadd, 1) := by decide +kernel
theorem dL_law_315 : decode cL_law 315 = .ok (.iaload, 1) := by decide +kernel
theorem dL_law_316 : decode cL_law 316 = .ok (.invokevirtual 196, 3) := by decide +kernel
theorem dL_law_319 : decode cL_law 319 = .ok (.istore 6, 2) := by decide +kernel
theorem dL_law_321 : decode cL_law 321 = .ok (.goto 2234, 3) := by decide +kernel
theorem dL_law_324 : decode cL_law 324 = .ok (.aload_n 1, 1) := by decide +kernel
theorem dL_law_325 : decode cL_law 325 = .ok (.aload_n 0, 1) := by decide +kernel
theorem dL_law_326 : decode cL_law 326 = .ok (.iload 4, 2) := by decide +kernel
theorem dL_law_328 : decode cL_law 328 = .ok (.iconst 1, 1) := by decide +kernel
theorem dL_law_329 : decode cL_law 329 = .ok (.iadd, 1) := by decide +kernel
theorem dL_law_330 : decode cL_law 330 = .ok (.iaload, 1) := by decide +kernel
theorem dL_law_331 : decode cL_law 331 = .ok (.aload_n 0, 1) := by decide +kernel
theorem dL_law_332 : decode cL_law 332 = .ok (.iload 4, 2) := by decide +kernel
theorem dL_law_334 : decode cL_law 334 = .ok (.iconst 2, 1) := by decide +kernel
theorem dL_law_335 : decode cL_law 335 = .ok (.iadd, 1) := by decide +kernel
theorem dL_law_336 : decode cL_law 336 = .ok (.iaload, 1) := by decide +kernel
theorem dL_law_337 : decode cL_law 337 = .ok (.aload_n 0, 1) := by decide +kernel
theorem dL_law_338 : decode cL_law 338 = .ok (.iload 4, 2) := by decide +kernel
theorem dL_law_340 : decode cL_law 340 = .ok (.iconst 3, 1) := by decide +kernel
theorem dL_law_341 : decode cL_law 341 = .ok (.iadd, 1) := by decide +kernel
theorem dL_law_342 : decode cL_law 342 = .ok (.iaload, 1) := by decide +kernel
theorem dL_law_343 : decode cL_law 343 = .ok (.aload_n 3, 1) := by decide +kernel
theorem dL_law_344 : decode cL_law 344 = .ok (.invokestatic 197, 3) := by decide +kernel
theorem dL_law_347 : decode cL_law 347 = .ok (.istore 5, 2) := by decide +kernel
theorem dL_law_349 : decode cL_law 349 = .ok (.aload_n 2, 1) := by decide +kernel
theorem dL_law_350 : decode cL_law 350 = .ok (.aload_n 0, 1) := by decide +kernel
theorem dL_law_351 : decode cL_law 351 = .ok (.iload 4, 2) := by decide +kernel
theorem dL_law_353 : decode cL_law 353 = .ok (.iconst 1, 1) := by decide +kernel
theorem dL_law_354 : decode cL_law 354 = .ok (.iadd, 1) := by decide +kernel
theorem dL_law_355 : decode cL_law 355 = .ok (.iaload, 1) := by decide +kernel
theorem dL_law_356 : decode cL_law 356 = .ok (.aload_n 0, 1) := by decide +kernel
theorem dL_law_357 : decode cL_law 357 = .ok (.iload 4, 2) := by decide +kernel
theorem dL_law_359 : decode cL_law 359 = .ok (.iconst 2, 1) := by decide +kernel
theorem dL_law_360 : decode cL_law 360 = .ok (.iadd, 1) := by decide +kernel
theorem dL_law_361 : decode cL_law 361 = .ok (.iaload, 1) := by decide +kernel
theorem dL_law_362 : decode cL_law 362 = .ok (.aload_n 0, 1) := by decide +kernel
theorem dL_law_363 : decode cL_law 363 = .ok (.iload 4, 2) := by decide +kernel
theorem dL_law_365 : decode cL_law 365 = .ok (.iconst 3, 1) := by decide +kernel
theorem dL_law_366 : decode cL_law 366 = .ok (.iadd, 1) := by decide +kernel
theorem dL_law_367 : decode cL_law 367 = .ok (.iaload, 1) := by decide +kernel
theorem dL_law_368 : decode cL_law 368 = .ok (.invokevirtual 199, 3) := by decide +kernel
theorem dL_law_371 : decode cL_law 371 = .ok (.istore 6, 2) := by decide +kernel
theorem dL_law_373 : decode cL_law 373 = .ok (.goto 2182, 3) := by decide +kernel
theorem dL_law_376 : decode cL_law 376 = .ok (.aload_n 1, 1) := by decide +kernel
theorem dL_law_377 : decode cL_law 377 = .ok (.aload_n 0, 1) := by decide +kernel
theorem dL_law_378 : decode cL_law 378 = .ok (.iload 4, 2) := by decide +kernel
theorem dL_law_380 : decode cL_law 380 = .ok (.iconst 1, 1) := by decide +kernel
theorem dL_law_381 : decode cL_law 381 = .ok (.iadd, 1) := by decide +kernel
theorem dL_law_382 : decode cL_law 382 = .ok (.iaload, 1) := by decide +kernel
theorem dL_law_383 : decode cL_law 383 = .ok (.aload_n 0, 1) := by decide +kernel
theorem dL_law_384 : decode cL_law 384 = .ok (.iload 4, 2) := by decide +kernel
theorem dL_law_386 : decode cL_law 386 = .ok (.iconst 2, 1) := by decide +kernel
theorem dL_law_387 : decode cL_law 387 = .ok (.iadd, 1) := by decide +kernel
theorem dL_law_388 : decode cL_law 388 = .ok (.iaload, 1) := by decide +kernel
theorem dL_law_389 : decode cL_law 389 = .ok (.aload_n 0, 1) := by decide +kernel
theorem dL_law_390 : decode cL_law 390 = .ok (.iload 4, 2) := by decide +kernel
theorem dL_law_392 : decode cL_law 392 = .ok (.iconst 3, 1) := by decide +kernel
theorem dL_law_393 : decode cL_law 393 = .ok (.iadd, 1) := by decide +kernel
theorem dL_law_394 : decode cL_law 394 = .ok (.iaload, 1) := by decide +kernel
theorem dL_law_395 : decode cL_law 395 = .ok (.aload_n 3, 1) := by decide +kernel
theorem dL_law_396 : decode cL_law 396 = .ok (.invokestatic 200, 3) := by decide +kernel
theorem dL_law_399 : decode cL_law 399 = .ok (.istore 5, 2) := by decide +kernel
theorem dL_law_401 : decode cL_law 401 = .ok (.aload_n 2, 1) := by decide +kernel
theorem dL_law_402 : decode cL_law 402 = .ok (.aload_n 0, 1) := by decide +kernel
theorem dL_law_403 : decode cL_law 403 = .ok (.iload 4, 2) := by decide +kernel
theorem dL_law_405 : decode cL_law 405 = .ok (.iconst 1, 1) := by decide +kernel
theorem dL_law_406 : decode cL_law 406 = .ok (.iadd, 1) := by decide +kernel
theorem dL_law_407 : decode cL_law 407 = .ok (.iaload, 1) := by decide +kernel
theorem dL_law_408 : decode cL_law 408 = .ok (.aload_n 0, 1) := by decide +kernel
theorem dL_law_409 : decode cL_law 409 = .ok (.iload 4, 2) := by decide +kernel
theorem dL_law_411 : decode cL_law 411 = .ok (.iconst 2, 1) := by decide +kernel
theorem dL_law_412 : decode cL_law 412 = .ok (.iadd, 1) := by decide +kernel
theorem dL_law_413 : decode cL_law 413 = .ok (.iaload, 1) := by decide +kernel
theorem dL_law_414 : decode cL_law 414 = .ok (.aload_n 0, 1) := by decide +kernel
theorem dL_law_415 : decode cL_law 415 = .ok (.iload 4, 2) := by decide +kernel
theorem dL_law_417 : decode cL_law 417 = .ok (.iconst 3, 1) := by decide +kernel
theorem dL_law_418 : decode cL_law 418 = .ok (.iadd, 1) := by decide +kernel
theorem dL_law_419 : decode cL_law 419 = .ok (.iaload, 1) := by decide +kernel
theorem dL_law_420 : decode cL_law 420 = .ok (.invokevirtual 202, 3) := by decide +kernel
theorem dL_law_423 : decode cL_law 423 = .ok (.istore 6, 2) := by decide +kernel
theorem dL_law_425 : decode cL_law 425 = .ok (.goto 2130, 3) := by decide +kernel
theorem dL_law_428 : decode cL_law 428 = .ok (.aload_n 1, 1) := by decide +kernel
theorem dL_law_429 : decode cL_law 429 = .ok (.aload_n 0, 1) := by decide +kernel
theorem dL_law_430 : decode cL_law 430 = .ok (.iload 4, 2) := by decide +kernel
theorem dL_law_432 : decode cL_law 432 = .ok (.iconst 1, 1) := by decide +kernel
theorem dL_law_433 : decode cL_law 433 = .ok (.iadd, 1) := by decide +kernel
theorem dL_law_434 : decode cL_law 434 = .ok (.iaload, 1) := by decide +kernel
theorem dL_law_435 : decode cL_law 435 = .ok (.aload_n 0, 1) := by decide +kernel
theorem dL_law_436 : decode cL_law 436 = .ok (.iload 4, 2) := by decide +kernel
theorem dL_law_438 : decode cL_law 438 = .ok (.iconst 2, 1) := by decide +kernel
theorem dL_law_439 : decode cL_law 439 = .ok (.iadd, 1) := by decide +kernel
theorem dL_law_440 : decode cL_law 440 = .ok (.iaload, 1) := by decide +kernel
theorem dL_law_441 : decode cL_law 441 = .ok (.aload_n 0, 1) := by decide +kernel
theorem dL_law_442 : decode cL_law 442 = .ok (.iload 4, 2) := by decide +kernel
theorem dL_law_444 : decode cL_law 444 = .ok (.iconst 3, 1) := by decide +kernel
theorem dL_law_445 : decode cL_law 445 = .ok (.iadd, 1) := by decide +kernel
theorem dL_law_446 : decode cL_law 446 = .ok (.iaload, 1) := by decide +kernel
theorem dL_law_447 : decode cL_law 447 = .ok (.aload_n 0, 1) := by decide +kernel
theorem dL_law_448 : decode cL_law 448 = .ok (.iload 4, 2) := by decide +kernel
theorem dL_law_450 : decode cL_law 450 = .ok (.iconst 4, 1) := by decide +kernel
theorem dL_law_451 : decode cL_law 451 = .ok (.iadd, 1) := by decide +kernel
theorem dL_law_452 : decode cL_law 452 = .ok (.iaload, 1) := by decide +kernel
theorem dL_law_453 : decode cL_law 453 = .ok (.aload_n 3, 1) := by decide +kernel
theorem dL_law_454 : decode cL_law 454 = .ok (.invokestatic 203, 3) := by decide +kernel
theorem dL_law_457 : decode cL_law 457 = .ok (.istore 5, 2) := by decide +kernel
theorem dL_law_459 : decode cL_law 459 = .ok (.aload_n 2, 1) := by decide +kernel
theorem dL_law_460 : decode cL_law 460 = .ok (.aload_n 0, 1) := by decide +kernel
theorem dL_law_461 : decode cL_law 461 = .ok (.iload 4, 2) := by decide +kernel
theorem dL_law_463 : decode cL_law 463 = .ok (.iconst 1, 1) := by decide +kernel
theorem dL_law_464 : decode cL_law 464 = .ok (.iadd, 1) := by decide +kernel
theorem dL_law_465 : decode cL_law 465 = .ok (.iaload, 1) := by decide +kernel
theorem dL_law_466 : decode cL_law 466 = .ok (.aload_n 0, 1) := by decide +kernel
theorem dL_law_467 : decode cL_law 467 = .ok (.iload 4, 2) := by decide +kernel
theorem dL_law_469 : decode cL_law 469 = .ok (.iconst 2, 1) := by decide +kernel
theorem dL_law_470 : decode cL_law 470 = .ok (.iadd, 1) := by decide +kernel
theorem dL_law_471 : decode cL_law 471 = .ok (.iaload, 1) := by decide +kernel
theorem dL_law_472 : decode cL_law 472 = .ok (.aload_n 0, 1) := by decide +kernel
theorem dL_law_473 : decode cL_law 473 = .ok (.iload 4, 2) := by decide +kernel
theorem dL_law_475 : decode cL_law 475 = .ok (.iconst 3, 1) := by decide +kernel
theorem dL_law_476 : decode cL_law 476 = .ok (.iadd, 1) := by decide +kernel
theorem dL_law_477 : decode cL_law 477 = .ok (.iaload, 1) := by decide +kernel
theorem dL_law_478 : decode cL_law 478 = .ok (.aload_n 0, 1) := by decide +kernel
theorem dL_law_479 : decode cL_law 479 = .ok (.iload 4, 2) := by decide +kernel
theorem dL_law_481 : decode cL_law 481 = .ok (.iconst 4, 1) := by decide +kernel
theorem dL_law_482 : decode cL_law 482 = .ok (.iadd, 1) := by decide +kernel
theorem dL_law_483 : decode cL_law 483 = .ok (.iaload, 1) := by decide +kernel
theorem dL_law_484 : decode cL_law 484 = .ok (.invokevirtual 206, 3) := by decide +kernel
theorem dL_law_487 : decode cL_law 487 = .ok (.istore 6, 2) := by decide +kernel
theorem dL_law_489 : decode cL_law 489 = .ok (.goto 2066, 3) := by decide +kernel
theorem dL_law_492 : decode cL_law 492 = .ok (.aload_n 1, 1) := by decide +kernel
theorem dL_law_493 : decode cL_law 493 = .ok (.aload_n 0, 1) := by decide +kernel
theorem dL_law_494 : decode cL_law 494 = .ok (.iload 4, 2) := by decide +kernel
theorem dL_law_496 : decode cL_law 496 = .ok (.iconst 1, 1) := by decide +kernel
theorem dL_law_497 : decode cL_law 497 = .ok (.iadd, 1) := by decide +kernel
theorem dL_law_498 : decode cL_law 498 = .ok (.iaload, 1) := by decide +kernel
theorem dL_law_499 : decode cL_law 499 = .ok (.aload_n 0, 1) := by decide +kernel
theorem dL_law_500 : decode cL_law 500 = .ok (.iload 4, 2) := by decide +kernel
theorem dL_law_502 : decode cL_law 502 = .ok (.iconst 2, 1) := by decide +kernel
theorem dL_law_503 : decode cL_law 503 = .ok (.iadd, 1) := by decide +kernel
theorem dL_law_504 : decode cL_law 504 = .ok (.iaload, 1) := by decide +kernel
theorem dL_law_505 : decode cL_law 505 = .ok (.aload_n 3, 1) := by decide +kernel
theorem dL_law_506 : decode cL_law 506 = .ok (.invokestatic 207, 3) := by decide +kernel
theorem dL_law_509 : decode cL_law 509 = .ok (.istore 5, 2) := by decide +kernel
theorem dL_law_511 : decode cL_law 511 = .ok (.aload_n 2, 1) := by decide +kernel
theorem dL_law_512 : decode cL_law 512 = .ok (.aload_n 0, 1) := by decide +kernel
theorem dL_law_513 : decode cL_law 513 = .ok (.iload 4, 2) := by decide +kernel
theorem dL_law_515 : decode cL_law 515 = .ok (.iconst 1, 1) := by decide +kernel
theorem dL_law_516 : decode cL_law 516 = .ok (.iadd, 1) := by decide +kernel
theorem dL_law_517 : decode cL_law 517 = .ok (.iaload, 1) := by decide +kernel
theorem dL_law_518 : decode cL_law 518 = .ok (.aload_n 0, 1) := by decide +kernel
theorem dL_law_519 : decode cL_law 519 = .ok (.iload 4, 2) := by decide +kernel
theorem dL_law_521 : decode cL_law 521 = .ok (.iconst 2, 1) := by decide +kernel
theorem dL_law_522 : decode cL_law 522 = .ok (.iadd, 1) := by decide +kernel
theorem dL_law_523 : decode cL_law 523 = .ok (.iaload, 1) := by decide +kernel
theorem dL_law_524 : decode cL_law 524 = .ok (.invokevirtual 210, 3) := by decide +kernel
theorem dL_law_527 : decode cL_law 527 = .ok (.istore 6, 2) := by decide +kernel
theorem dL_law_529 : decode cL_law 529 = .ok (.goto 2026, 3) := by decide +kernel
theorem dL_law_532 : decode cL_law 532 = .ok (.aload_n 1, 1) := by decide +kernel
theorem dL_law_533 : decode cL_law 533 = .ok (.aload_n 0, 1) := by decide +kernel
theorem dL_law_534 : decode cL_law 534 = .ok (.iload 4, 2) := by decide +kernel
theorem dL_law_536 : decode cL_law 536 = .ok (.iconst 1, 1) := by decide +kernel
theorem dL_law_537 : decode cL_law 537 = .ok (.iadd, 1) := by decide +kernel
theorem dL_law_538 : decode cL_law 538 = .ok (.iaload, 1) := by decide +kernel
theorem dL_law_539 : decode cL_law 539 = .ok (.aload_n 0, 1) := by decide +kernel
theorem dL_law_540 : decode cL_law 540 = .ok (.iload 4, 2) := by decide +kernel
theorem dL_law_542 : decode cL_law 542 = .ok (.iconst 2, 1) := by decide +kernel
theorem dL_law_543 : decode cL_law 543 = .ok (.iadd, 1) := by decide +kernel
theorem dL_law_544 : decode cL_law 544 = .ok (.iaload, 1) := by decide +kernel
theorem dL_law_545 : decode cL_law 545 = .ok (.aload_n 0, 1) := by decide +kernel
theorem dL_law_546 : decode cL_law 546 = .ok (.iload 4, 2) := by decide +kernel
theorem dL_law_548 : decode cL_law 548 = .ok (.iconst 3, 1) := by decide +kernel
theorem dL_law_549 : decode cL_law 549 = .ok (.iadd, 1) := by decide +kernel
theorem dL_law_550 : decode cL_law 550 = .ok (.iaload, 1) := by decide +kernel
theorem dL_law_551 : decode cL_law 551 = .ok (.aload_n 3, 1) := by decide +kernel
theorem dL_law_552 : decode cL_law 552 = .ok (.invokestatic 211, 3) := by decide +kernel
theorem dL_law_555 : decode cL_law 555 = .ok (.istore 5, 2) := by decide +kernel
theorem dL_law_557 : decode cL_law 557 = .ok (.aload_n 2, 1) := by decide +kernel
theorem dL_law_558 : decode cL_law 558 = .ok (.aload_n 0, 1) := by decide +kernel
theorem dL_law_559 : decode cL_law 559 = .ok (.iload 4, 2) := by decide +kernel
theorem dL_law_561 : decode cL_law 561 = .ok (.iconst 1, 1) := by decide +kernel
theorem dL_law_562 : decode cL_law 562 = .ok (.iadd, 1) := by decide +kernel
theorem dL_law_563 : decode cL_law 563 = .ok (.iaload, 1) := by decide +kernel
theorem dL_law_564 : decode cL_law 564 = .ok (.aload_n 0, 1) := by decide +kernel
theorem dL_law_565 : decode cL_law 565 = .ok (.iload 4, 2) := by decide +kernel
theorem dL_law_567 : decode cL_law 567 = .ok (.iconst 2, 1) := by decide +kernel
theorem dL_law_568 : decode cL_law 568 = .ok (.iadd, 1) := by decide +kernel
theorem dL_law_569 : decode cL_law 569 = .ok (.iaload, 1) := by decide +kernel
theorem dL_law_570 : decode cL_law 570 = .ok (.aload_n 0, 1) := by decide +kernel
theorem dL_law_571 : decode cL_law 571 = .ok (.iload 4, 2) := by decide +kernel
theorem dL_law_573 : decode cL_law 573 = .ok (.iconst 3, 1) := by decide +kernel
theorem dL_law_574 : decode cL_law 574 = .ok (.iadd, 1) := by decide +kernel
theorem dL_law_575 : decode cL_law 575 = .ok (.iaload, 1) := by decide +kernel
theorem dL_law_576 : decode cL_law 576 = .ok (.invokevirtual 213, 3) := by decide +kernel
theorem dL_law_579 : decode cL_law 579 = .ok (.istore 6, 2) := by decide +kernel
theorem dL_law_581 : decode cL_law 581 = .ok (.goto 1974, 3) := by decide +kernel
theorem dL_law_584 : decode cL_law 584 = .ok (.aload_n 1, 1) := by decide +kernel
theorem dL_law_585 : decode cL_law 585 = .ok (.aload_n 0, 1) := by decide +kernel
theorem dL_law_586 : decode cL_law 586 = .ok (.iload 4, 2) := by decide +kernel
theorem dL_law_588 : decode cL_law 588 = .ok (.iconst 1, 1) := by decide +kernel
theorem dL_law_589 : decode cL_law 589 = .ok (.iadd, 1) := by decide +kernel
theorem dL_law_590 : decode cL_law 590 = .ok (.iaload, 1) := by decide +kernel
theorem dL_law_591 : decode cL_law 591 = .ok (.aload_n 0, 1) := by decide +kernel
theorem dL_law_592 : decode cL_law 592 = .ok (.iload 4, 2) := by decide +kernel
theorem dL_law_594 : decode cL_law 594 = .ok (.iconst 2, 1) := by decide +kernel
theorem dL_law_595 : decode cL_law 595 = .ok (.iadd, 1) := by decide +kernel
theorem dL_law_596 : decode cL_law 596 = .ok (.iaload, 1) := by decide +kernel
theorem dL_law_597 : decode cL_law 597 = .ok (.aload_n 0, 1) := by decide +kernel
theorem dL_law_598 : decode cL_law 598 = .ok (.iload 4, 2) := by decide +kernel
theorem dL_law_600 : decode cL_law 600 = .ok (.iconst 3, 1) := by decide +kernel
theorem dL_law_601 : decode cL_law 601 = .ok (.iadd, 1) := by decide +kernel
theorem dL_law_602 : decode cL_law 602 = .ok (.iaload, 1) := by decide +kernel
theorem dL_law_603 : decode cL_law 603 = .ok (.aload_n 3, 1) := by decide +kernel
theorem dL_law_604 : decode cL_law 604 = .ok (.invokestatic 214, 3) := by decide +kernel
theorem dL_law_607 : decode cL_law 607 = .ok (.istore 5, 2) := by decide +kernel
theorem dL_law_609 : decode cL_law 609 = .ok (.aload_n 2, 1) := by decide +kernel
theorem dL_law_610 : decode cL_law 610 = .ok (.aload_n 0, 1) := by decide +kernel
theorem dL_law_611 : decode cL_law 611 = .ok (.iload 4, 2) := by decide +kernel
theorem dL_law_613 : decode cL_law 613 = .ok (.iconst 1, 1) := by decide +kernel
theorem dL_law_614 : decode cL_law 614 = .ok (.iadd, 1) := by decide +kernel
theorem dL_law_615 : decode cL_law 615 = .ok (.iaload, 1) := by decide +kernel
theorem dL_law_616 : decode cL_law 616 = .ok (.aload_n 0, 1) := by decide +kernel
theorem dL_law_617 : decode cL_law 617 = .ok (.iload 4, 2) := by decide +kernel
theorem dL_law_619 : decode cL_law 619 = .ok (.iconst 2, 1) := by decide +kernel
theorem dL_law_620 : decode cL_law 620 = .ok (.iadd, 1) := by decide +kernel
theorem dL_law_621 : decode cL_law 621 = .ok (.iaload, 1) := by decide +kernel
theorem dL_law_622 : decode cL_law 622 = .ok (.aload_n 0, 1) := by decide +kernel
theorem dL_law_623 : decode cL_law 623 = .ok (.iload 4, 2) := by decide +kernel
theorem dL_law_625 : decode cL_law 625 = .ok (.iconst 3, 1) := by decide +kernel
theorem dL_law_626 : decode cL_law 626 = .ok (.iadd, 1) := by decide +kernel
theorem dL_law_627 : decode cL_law 627 = .ok (.iaload, 1) := by decide +kernel
theorem dL_law_628 : decode cL_law 628 = .ok (.invokevirtual 216, 3) := by decide +kernel
theorem dL_law_631 : decode cL_law 631 = .ok (.istore 6, 2) := by decide +kernel
theorem dL_law_633 : decode cL_law 633 = .ok (.goto 1922, 3) := by decide +kernel
theorem dL_law_636 : decode cL_law 636 = .ok (.aload_n 1, 1) := by decide +kernel
theorem dL_law_637 : decode cL_law 637 = .ok (.aload_n 0, 1) := by decide +kernel
theorem dL_law_638 : decode cL_law 638 = .ok (.iload 4, 2) := by decide +kernel
theorem dL_law_640 : decode cL_law 640 = .ok (.iconst 1, 1) := by decide +kernel
theorem dL_law_641 : decode cL_law 641 = .ok (.iadd, 1) := by decide +kernel
theorem dL_law_642 : decode cL_law 642 = .ok (.iaload, 1) := by decide +kernel
theorem dL_law_643 : decode cL_law 643 = .ok (.aload_n 0, 1) := by decide +kernel
theorem dL_law_644 : decode cL_law 644 = .ok (.iload 4, 2) := by decide +kernel
theorem dL_law_646 : decode cL_law 646 = .ok (.iconst 2, 1) := by decide +kernel
theorem dL_law_647 : decode cL_law 647 = .ok (.iadd, 1) := by decide +kernel
theorem dL_law_648 : decode cL_law 648 = .ok (.iaload, 1) := by decide +kernel
theorem dL_law_649 : decode cL_law 649 = .ok (.aload_n 3, 1) := by decide +kernel
theorem dL_law_650 : decode cL_law 650 = .ok (.invokestatic 217, 3) := by decide +kernel
theorem dL_law_653 : decode cL_law 653 = .ok (.istore 5, 2) := by decide +kernel
theorem dL_law_655 : decode cL_law 655 = .ok (.aload_n 2, 1) := by decide +kernel
theorem dL_law_656 : decode cL_law 656 = .ok (.aload_n 0, 1) := by decide +kernel
theorem dL_law_657 : decode cL_law 657 = .ok (.iload 4, 2) := by decide +kernel
theorem dL_law_659 : decode cL_law 659 = .ok (.iconst 1, 1) := by decide +kernel
theorem dL_law_660 : decode cL_law 660 = .ok (.iadd, 1) := by decide +kernel
theorem dL_law_661 : decode cL_law 661 = .ok (.iaload, 1) := by decide +kernel
theorem dL_law_662 : decode cL_law 662 = .ok (.aload_n 0, 1) := by decide +kernel
theorem dL_law_663 : decode cL_law 663 = .ok (.iload 4, 2) := by decide +kernel
theorem dL_law_665 : decode cL_law 665 = .ok (.iconst 2, 1) := by decide +kernel
theorem dL_law_666 : decode cL_law 666 = .ok (.iadd, 1) := by decide +kernel
theorem dL_law_667 : decode cL_law 667 = .ok (.iaload, 1) := by decide +kernel
theorem dL_law_668 : decode cL_law 668 = .ok (.invokevirtual 219, 3) := by decide +kernel
theorem dL_law_671 : decode cL_law 671 = .ok (.istore 6, 2) := by decide +kernel
theorem dL_law_673 : decode cL_law 673 = .ok (.goto 1882, 3) := by decide +kernel
theorem dL_law_676 : decode cL_law 676 = .ok (.aload_n 1, 1) := by decide +kernel
theorem dL_law_677 : decode cL_law 677 = .ok (.aload_n 0, 1) := by decide +kernel
theorem dL_law_678 : decode cL_law 678 = .ok (.iload 4, 2) := by decide +kernel
theorem dL_law_680 : decode cL_law 680 = .ok (.iconst 1, 1) := by decide +kernel
theorem dL_law_681 : decode cL_law 681 = .ok (.iadd, 1) := by decide +kernel
theorem dL_law_682 : decode cL_law 682 = .ok (.iaload, 1) := by decide +kernel
theorem dL_law_683 : decode cL_law 683 = .ok (.aload_n 0, 1) := by decide +kernel
theorem dL_law_684 : decode cL_law 684 = .ok (.iload 4, 2) := by decide +kernel
theorem dL_law_686 : decode cL_law 686 = .ok (.iconst 2, 1) := by decide +kernel
theorem dL_law_687 : decode cL_law 687 = .ok (.iadd, 1) := by decide +kernel
theorem dL_law_688 : decode cL_law 688 = .ok (.iaload, 1) := by decide +kernel
theorem dL_law_689 : decode cL_law 689 = .ok (.aload_n 3, 1) := by decide +kernel
theorem dL_law_690 : decode cL_law 690 = .ok (.invokestatic 220, 3) := by decide +kernel
theorem dL_law_693 : decode cL_law 693 = .ok (.istore 5, 2) := by decide +kernel
theorem dL_law_695 : decode cL_law 695 = .ok (.aload_n 2, 1) := by decide +kernel
theorem dL_law_696 : decode cL_law 696 = .ok (.aload_n 0, 1) := by decide +kernel
theorem dL_law_697 : decode cL_law 697 = .ok (.iload 4, 2) := by decide +kernel
theorem dL_law_699 : decode cL_law 699 = .ok (.iconst 1, 1) := by decide +kernel
theorem dL_law_700 : decode cL_law 700 = .ok (.iadd, 1) := by decide +kernel
theorem dL_law_701 : decode cL_law 701 = .ok (.iaload, 1) := by decide +kernel
theorem dL_law_702 : decode cL_law 702 = .ok (.aload_n 0, 1) := by decide +kernel
theorem dL_law_703 : decode cL_law 703 = .ok (.iload 4, 2) := by decide +kernel
theorem dL_law_705 : decode cL_law 705 = .ok (.iconst 2, 1) := by decide +kernel
theorem dL_law_706 : decode cL_law 706 = .ok (.iadd, 1) := by decide +kernel
theorem dL_law_707 : decode cL_law 707 = .ok (.iaload, 1) := by decide +kernel
theorem dL_law_708 : decode cL_law 708 = .ok (.invokevirtual 222, 3) := by decide +kernel
theorem dL_law_711 : decode cL_law 711 = .ok (.istore 6, 2) := by decide +kernel
theorem dL_law_713 : decode cL_law 713 = .ok (.goto 1842, 3) := by decide +kernel
theorem dL_law_716 : decode cL_law 716 = .ok (.aload_n 1, 1) := by decide +kernel
theorem dL_law_717 : decode cL_law 717 = .ok (.aload_n 0, 1) := by decide +kernel
theorem dL_law_718 : decode cL_law 718 = .ok (.iload 4, 2) := by decide +kernel
theorem dL_law_720 : decode cL_law 720 = .ok (.iconst 1, 1) := by decide +kernel
theorem dL_law_721 : decode cL_law 721 = .ok (.iadd, 1) := by decide +kernel
theorem dL_law_722 : decode cL_law 722 = .ok (.iaload, 1) := by decide +kernel
theorem dL_law_723 : decode cL_law 723 = .ok (.aload_n 0, 1) := by decide +kernel
theorem dL_law_724 : decode cL_law 724 = .ok (.iload 4, 2) := by decide +kernel
theorem dL_law_726 : decode cL_law 726 = .ok (.iconst 2, 1) := by decide +kernel
theorem dL_law_727 : decode cL_law 727 = .ok (.iadd, 1) := by decide +kernel
theorem dL_law_728 : decode cL_law 728 = .ok (.iaload, 1) := by decide +kernel
theorem dL_law_729 : decode cL_law 729 = .ok (.aload_n 3, 1) := by decide +kernel
theorem dL_law_730 : decode cL_law 730 = .ok (.invokestatic 223, 3) := by decide +kernel
theorem dL_law_733 : decode cL_law 733 = .ok (.istore 5, 2) := by decide +kernel
theorem dL_law_735 : decode cL_law 735 = .ok (.aload_n 2, 1) := by decide +kernel
theorem dL_law_736 : decode cL_law 736 = .ok (.aload_n 0, 1) := by decide +kernel
theorem dL_law_737 : decode cL_law 737 = .ok (.iload 4, 2) := by decide +kernel
theorem dL_law_739 : decode cL_law 739 = .ok (.iconst 1, 1) := by decide +kernel
theorem dL_law_740 : decode cL_law 740 = .ok (.iadd, 1) := by decide +kernel
theorem dL_law_741 : decode cL_law 741 = .ok (.iaload, 1) := by decide +kernel
theorem dL_law_742 : decode cL_law 742 = .ok (.aload_n 0, 1) := by decide +kernel
theorem dL_law_743 : decode cL_law 743 = .ok (.iload 4, 2) := by decide +kernel
theorem dL_law_745 : decode cL_law 745 = .ok (.iconst 2, 1) := by decide +kernel
theorem dL_law_746 : decode cL_law 746 = .ok (.iadd, 1) := by decide +kernel
theorem dL_law_747 : decode cL_law 747 = .ok (.iaload, 1) := by decide +kernel
theorem dL_law_748 : decode cL_law 748 = .ok (.invokevirtual 225, 3) := by decide +kernel
theorem dL_law_751 : decode cL_law 751 = .ok (.istore 6, 2) := by decide +kernel
theorem dL_law_753 : decode cL_law 753 = .ok (.goto 1802, 3) := by decide +kernel
theorem dL_law_756 : decode cL_law 756 = .ok (.aload_n 1, 1) := by decide +kernel
theorem dL_law_757 : decode cL_law 757 = .ok (.aload_n 0, 1) := by decide +kernel
theorem dL_law_758 : decode cL_law 758 = .ok (.iload 4, 2) := by decide +kernel
theorem dL_law_760 : decode cL_law 760 = .ok (.iconst 1, 1) := by decide +kernel
theorem dL_law_761 : decode cL_law 761 = .ok (.iadd, 1) := by decide +kernel
theorem dL_law_762 : decode cL_law 762 = .ok (.iaload, 1) := by decide +kernel
theorem dL_law_763 : decode cL_law 763 = .ok (.aload_n 0, 1) := by decide +kernel
theorem dL_law_764 : decode cL_law 764 = .ok (.iload 4, 2) := by decide +kernel
theorem dL_law_766 : decode cL_law 766 = .ok (.iconst 2, 1) := by decide +kernel
theorem dL_law_767 : decode cL_law 767 = .ok (.iadd, 1) := by decide +kernel
theorem dL_law_768 : decode cL_law 768 = .ok (.iaload, 1) := by decide +kernel
theorem dL_law_769 : decode cL_law 769 = .ok (.ifCond .eq 7, 3) := by decide +kernel
theorem dL_law_772 : decode cL_law 772 = .ok (.iconst 1, 1) := by decide +kernel
theorem dL_law_773 : decode cL_law 773 = .ok (.goto 4, 3) := by decide +kernel
theorem dL_law_776 : decode cL_law 776 = .ok (.iconst 0, 1) := by decide +kernel
theorem dL_law_777 : decode cL_law 777 = .ok (.aload_n 3, 1) := by decide +kernel
theorem dL_law_778 : decode cL_law 778 = .ok (.invokestatic 226, 3) := by decide +kernel
theorem dL_law_781 : decode cL_law 781 = .ok (.istore 5, 2) := by decide +kernel
theorem dL_law_783 : decode cL_law 783 = .ok (.aload_n 2, 1) := by decide +kernel
theorem dL_law_784 : decode cL_law 784 = .ok (.aload_n 0, 1) := by decide +kernel
theorem dL_law_785 : decode cL_law 785 = .ok (.iload 4, 2) := by decide +kernel
theorem dL_law_787 : decode cL_law 787 = .ok (.iconst 1, 1) := by decide +kernel
theorem dL_law_788 : decode cL_law 788 = .ok (.iadd, 1) := by decide +kernel
theorem dL_law_789 : decode cL_law 789 = .ok (.iaload, 1) := by decide +kernel
theorem dL_law_790 : decode cL_law 790 = .ok (.aload_n 0, 1) := by decide +kernel
theorem dL_law_791 : decode cL_law 791 = .ok (.iload 4, 2) := by decide +kernel
theorem dL_law_793 : decode cL_law 793 = .ok (.iconst 2, 1) := by decide +kernel
theorem dL_law_794 : decode cL_law 794 = .ok (.iadd, 1) := by decide +kernel
theorem dL_law_795 : decode cL_law 795 = .ok (.iaload, 1) := by decide +kernel
theorem dL_law_796 : decode cL_law 796 = .ok (.ifCond .eq 7, 3) := by decide +kernel
theorem dL_law_799 : decode cL_law 799 = .ok (.iconst 1, 1) := by decide +kernel
theorem dL_law_800 : decode cL_law 800 = .ok (.goto 4, 3) := by decide +kernel
theorem dL_law_803 : decode cL_law 803 = .ok (.iconst 0, 1) := by decide +kernel
theorem dL_law_804 : decode cL_law 804 = .ok (.invokevirtual 229, 3) := by decide +kernel
theorem dL_law_807 : decode cL_law 807 = .ok (.istore 6, 2) := by decide +kernel
theorem dL_law_809 : decode cL_law 809 = .ok (.goto 1746, 3) := by decide +kernel
theorem dL_law_812 : decode cL_law 812 = .ok (.aload_n 1, 1) := by decide +kernel
theorem dL_law_813 : decode cL_law 813 = .ok (.aload_n 0, 1) := by decide +kernel
theorem dL_law_814 : decode cL_law 814 = .ok (.iload 4, 2) := by decide +kernel
theorem dL_law_816 : decode cL_law 816 = .ok (.iconst 1, 1) := by decide +kernel
theorem dL_law_817 : decode cL_law 817 = .ok (.iadd, 1) := by decide +kernel
theorem dL_law_818 : decode cL_law 818 = .ok (.iaload, 1) := by decide +kernel
theorem dL_law_819 : decode cL_law 819 = .ok (.aload_n 0, 1) := by decide +kernel
theorem dL_law_820 : decode cL_law 820 = .ok (.iload 4, 2) := by decide +kernel
theorem dL_law_822 : decode cL_law 822 = .ok (.iconst 2, 1) := by decide +kernel
theorem dL_law_823 : decode cL_law 823 = .ok (.iadd, 1) := by decide +kernel
theorem dL_law_824 : decode cL_law 824 = .ok (.iaload, 1) := by decide +kernel
theorem dL_law_825 : decode cL_law 825 = .ok (.aload_n 3, 1) := by decide +kernel
theorem dL_law_826 : decode cL_law 826 = .ok (.invokestatic 230, 3) := by decide +kernel
theorem dL_law_829 : decode cL_law 829 = .ok (.istore 5, 2) := by decide +kernel
theorem dL_law_831 : decode cL_law 831 = .ok (.aload_n 2, 1) := by decide +kernel
theorem dL_law_832 : decode cL_law 832 = .ok (.aload_n 0, 1) := by decide +kernel
theorem dL_law_833 : decode cL_law 833 = .ok (.iload 4, 2) := by decide +kernel
theorem dL_law_835 : decode cL_law 835 = .ok (.iconst 1, 1) := by decide +kernel
theorem dL_law_836 : decode cL_law 836 = .ok (.iadd, 1) := by decide +kernel
theorem dL_law_837 : decode cL_law 837 = .ok (.iaload, 1) := by decide +kernel
theorem dL_law_838 : decode cL_law 838 = .ok (.aload_n 0, 1) := by decide +kernel
theorem dL_law_839 : decode cL_law 839 = .ok (.iload 4, 2) := by decide +kernel
theorem dL_law_841 : decode cL_law 841 = .ok (.iconst 2, 1) := by decide +kernel
theorem dL_law_842 : decode cL_law 842 = .ok (.iadd, 1) := by decide +kernel
theorem dL_law_843 : decode cL_law 843 = .ok (.iaload, 1) := by decide +kernel
theorem dL_law_844 : decode cL_law 844 = .ok (.invokevirtual 232, 3) := by decide +kernel
theorem dL_law_847 : decode cL_law 847 = .ok (.istore 6, 2) := by decide +kernel
theorem dL_law_849 : decode cL_law 849 = .ok (.goto 1706, 3) := by decide +kernel
theorem dL_law_852 : decode cL_law 852 = .ok (.aload_n 1, 1) := by decide +kernel
theorem dL_law_853 : decode cL_law 853 = .ok (.aload_n 0, 1) := by decide +kernel
theorem dL_law_854 : decode cL_law 854 = .ok (.iload 4, 2) := by decide +kernel
theorem dL_law_856 : decode cL_law 856 = .ok (.iconst 1, 1) := by decide +kernel
theorem dL_law_857 : decode cL_law 857 = .ok (.iadd, 1) := by decide +kernel
theorem dL_law_858 : decode cL_law 858 = .ok (.iaload, 1) := by decide +kernel
theorem dL_law_859 : decode cL_law 859 = .ok (.aload_n 0, 1) := by decide +kernel
theorem dL_law_860 : decode cL_law 860 = .ok (.iload 4, 2) := by decide +kernel
theorem dL_law_862 : decode cL_law 862 = .ok (.iconst 2, 1) := by decide +kernel
theorem dL_law_863 : decode cL_law 863 = .ok (.iadd, 1) := by decide +kernel
theorem dL_law_864 : decode cL_law 864 = .ok (.iaload, 1) := by decide +kernel
theorem dL_law_865 : decode cL_law 865 = .ok (.aload_n 3, 1) := by decide +kernel
theorem dL_law_866 : decode cL_law 866 = .ok (.invokestatic 233, 3) := by decide +kernel
theorem dL_law_869 : decode cL_law 869 = .ok (.istore 5, 2) := by decide +kernel
theorem dL_law_871 : decode cL_law 871 = .ok (.aload_n 2, 1) := by decide +kernel
theorem dL_law_872 : decode cL_law 872 = .ok (.aload_n 0, 1) := by decide +kernel
theorem dL_law_873 : decode cL_law 873 = .ok (.iload 4, 2) := by decide +kernel
theorem dL_law_875 : decode cL_law 875 = .ok (.iconst 1, 1) := by decide +kernel
theorem dL_law_876 : decode cL_law 876 = .ok (.iadd, 1) := by decide +kernel
theorem dL_law_877 : decode cL_law 877 = .ok (.iaload, 1) := by decide +kernel
theorem dL_law_878 : decode cL_law 878 = .ok (.aload_n 0, 1) := by decide +kernel
theorem dL_law_879 : decode cL_law 879 = .ok (.iload 4, 2) := by decide +kernel
theorem dL_law_881 : decode cL_law 881 = .ok (.iconst 2, 1) := by decide +kernel
theorem dL_law_882 : decode cL_law 882 = .ok (.iadd, 1) := by decide +kernel
theorem dL_law_883 : decode cL_law 883 = .ok (.iaload, 1) := by decide +kernel
theorem dL_law_884 : decode cL_law 884 = .ok (.invokevirtual 235, 3) := by decide +kernel
theorem dL_law_887 : decode cL_law 887 = .ok (.istore 6, 2) := by decide +kernel
theorem dL_law_889 : decode cL_law 889 = .ok (.goto 1666, 3) := by decide +kernel
theorem dL_law_892 : decode cL_law 892 = .ok (.aload_n 1, 1) := by decide +kernel
theorem dL_law_893 : decode cL_law 893 = .ok (.aload_n 0, 1) := by decide +kernel
theorem dL_law_894 : decode cL_law 894 = .ok (.iload 4, 2) := by decide +kernel
theorem dL_law_896 : decode cL_law 896 = .ok (.iconst 1, 1) := by decide +kernel
theorem dL_law_897 : decode cL_law 897 = .ok (.iadd, 1) := by decide +kernel
theorem dL_law_898 : decode cL_law 898 = .ok (.iaload, 1) := by decide +kernel
theorem dL_law_899 : decode cL_law 899 = .ok (.aload_n 0, 1) := by decide +kernel
theorem dL_law_900 : decode cL_law 900 = .ok (.iload 4, 2) := by decide +kernel
theorem dL_law_902 : decode cL_law 902 = .ok (.iconst 2, 1) := by decide +kernel
theorem dL_law_903 : decode cL_law 903 = .ok (.iadd, 1) := by decide +kernel
theorem dL_law_904 : decode cL_law 904 = .ok (.iaload, 1) := by decide +kernel
theorem dL_law_905 : decode cL_law 905 = .ok (.aload_n 3, 1) := by decide +kernel
theorem dL_law_906 : decode cL_law 906 = .ok (.invokestatic 236, 3) := by decide +kernel
theorem dL_law_909 : decode cL_law 909 = .ok (.istore 5, 2) := by decide +kernel
theorem dL_law_911 : decode cL_law 911 = .ok (.aload_n 2, 1) := by decide +kernel
theorem dL_law_912 : decode cL_law 912 = .ok (.aload_n 0, 1) := by decide +kernel
theorem dL_law_913 : decode cL_law 913 = .ok (.iload 4, 2) := by decide +kernel
theorem dL_law_915 : decode cL_law 915 = .ok (.iconst 1, 1) := by decide +kernel
theorem dL_law_916 : decode cL_law 916 = .ok (.iadd, 1) := by decide +kernel
theorem dL_law_917 : decode cL_law 917 = .ok (.iaload, 1) := by decide +kernel
theorem dL_law_918 : decode cL_law 918 = .ok (.aload_n 0, 1) := by decide +kernel
theorem dL_law_919 : decode cL_law 919 = .ok (.iload 4, 2) := by decide +kernel
theorem dL_law_921 : decode cL_law 921 = .ok (.iconst 2, 1) := by decide +kernel
theorem dL_law_922 : decode cL_law 922 = .ok (.iadd, 1) := by decide +kernel
theorem dL_law_923 : decode cL_law 923 = .ok (.iaload, 1) := by decide +kernel
theorem dL_law_924 : decode cL_law 924 = .ok (.invokevirtual 238, 3) := by decide +kernel
theorem dL_law_927 : decode cL_law 927 = .ok (.istore 6, 2) := by decide +kernel
theorem dL_law_929 : decode cL_law 929 = .ok (.goto 1626, 3) := by decide +kernel
theorem dL_law_932 : decode cL_law 932 = .ok (.aload_n 1, 1) := by decide +kernel
theorem dL_law_933 : decode cL_law 933 = .ok (.aload_n 0, 1) := by decide +kernel
theorem dL_law_934 : decode cL_law 934 = .ok (.iload 4, 2) := by decide +kernel
theorem dL_law_936 : decode cL_law 936 = .ok (.iconst 1, 1) := by decide +kernel
theorem dL_law_937 : decode cL_law 937 = .ok (.iadd, 1) := by decide +kernel
theorem dL_law_938 : decode cL_law 938 = .ok (.iaload, 1) := by decide +kernel
theorem dL_law_939 : decode cL_law 939 = .ok (.aload_n 3, 1) := by decide +kernel
theorem dL_law_940 : decode cL_law 940 = .ok (.invokestatic 239, 3) := by decide +kernel
theorem dL_law_943 : decode cL_law 943 = .ok (.istore 5, 2) := by decide +kernel
theorem dL_law_945 : decode cL_law 945 = .ok (.aload_n 2, 1) := by decide +kernel
theorem dL_law_946 : decode cL_law 946 = .ok (.aload_n 0, 1) := by decide +kernel
theorem dL_law_947 : decode cL_law 947 = .ok (.iload 4, 2) := by decide +kernel
theorem dL_law_949 : decode cL_law 949 = .ok (.iconst 1, 1) := by decide +kernel
theorem dL_law_950 : decode cL_law 950 = .ok (.iadd, 1) := by decide +kernel
theorem dL_law_951 : decode cL_law 951 = .ok (.iaload, 1) := by decide +kernel
theorem dL_law_952 : decode cL_law 952 = .ok (.invokevirtual 242, 3) := by decide +kernel
theorem dL_law_955 : decode cL_law 955 = .ok (.istore 6, 2) := by decide +kernel
theorem dL_law_957 : decode cL_law 957 = .ok (.goto 1598, 3) := by decide +kernel
theorem dL_law_960 : decode cL_law 960 = .ok (.aload_n 1, 1) := by decide +kernel
theorem dL_law_961 : decode cL_law 961 = .ok (.aload_n 0, 1) := by decide +kernel
theorem dL_law_962 : decode cL_law 962 = .ok (.iload 4, 2) := by decide +kernel
theorem dL_law_964 : decode cL_law 964 = .ok (.iconst 1, 1) := by decide +kernel
theorem dL_law_965 : decode cL_law 965 = .ok (.iadd, 1) := by decide +kernel
theorem dL_law_966 : decode cL_law 966 = .ok (.iaload, 1) := by decide +kernel
theorem dL_law_967 : decode cL_law 967 = .ok (.aload_n 0, 1) := by decide +kernel
theorem dL_law_968 : decode cL_law 968 = .ok (.iload 4, 2) := by decide +kernel
theorem dL_law_970 : decode cL_law 970 = .ok (.iconst 2, 1) := by decide +kernel
theorem dL_law_971 : decode cL_law 971 = .ok (.iadd, 1) := by decide +kernel
theorem dL_law_972 : decode cL_law 972 = .ok (.iaload, 1) := by decide +kernel
theorem dL_law_973 : decode cL_law 973 = .ok (.aload_n 3, 1) := by decide +kernel
theorem dL_law_974 : decode cL_law 974 = .ok (.invokestatic 243, 3) := by decide +kernel
theorem dL_law_977 : decode cL_law 977 = .ok (.istore 5, 2) := by decide +kernel
theorem dL_law_979 : decode cL_law 979 = .ok (.aload_n 2, 1) := by decide +kernel
theorem dL_law_980 : decode cL_law 980 = .ok (.aload_n 0, 1) := by decide +kernel
theorem dL_law_981 : decode cL_law 981 = .ok (.iload 4, 2) := by decide +kernel
theorem dL_law_983 : decode cL_law 983 = .ok (.iconst 1, 1) := by decide +kernel
theorem dL_law_984 : decode cL_law 984 = .ok (.iadd, 1) := by decide +kernel
theorem dL_law_985 : decode cL_law 985 = .ok (.iaload, 1) := by decide +kernel
theorem dL_law_986 : decode cL_law 986 = .ok (.aload_n 0, 1) := by decide +kernel
theorem dL_law_987 : decode cL_law 987 = .ok (.iload 4, 2) := by decide +kernel
theorem dL_law_989 : decode cL_law 989 = .ok (.iconst 2, 1) := by decide +kernel
theorem dL_law_990 : decode cL_law 990 = .ok (.iadd, 1) := by decide +kernel
theorem dL_law_991 : decode cL_law 991 = .ok (.iaload, 1) := by decide +kernel
theorem dL_law_992 : decode cL_law 992 = .ok (.invokevirtual 245, 3) := by decide +kernel
theorem dL_law_995 : decode cL_law 995 = .ok (.istore 6, 2) := by decide +kernel
theorem dL_law_997 : decode cL_law 997 = .ok (.goto 1558, 3) := by decide +kernel
theorem dL_law_1000 : decode cL_law 1000 = .ok (.aload_n 1, 1) := by decide +kernel
theorem dL_law_1001 : decode cL_law 1001 = .ok (.aload_n 0, 1) := by decide +kernel
theorem dL_law_1002 : decode cL_law 1002 = .ok (.iload 4, 2) := by decide +kernel
theorem dL_law_1004 : decode cL_law 1004 = .ok (.iconst 1, 1) := by decide +kernel
theorem dL_law_1005 : decode cL_law 1005 = .ok (.iadd, 1) := by decide +kernel
theorem dL_law_1006 : decode cL_law 1006 = .ok (.iaload, 1) := by decide +kernel
theorem dL_law_1007 : decode cL_law 1007 = .ok (.aload_n 0, 1) := by decide +kernel
theorem dL_law_1008 : decode cL_law 1008 = .ok (.iload 4, 2) := by decide +kernel
theorem dL_law_1010 : decode cL_law 1010 = .ok (.iconst 2, 1) := by decide +kernel
theorem dL_law_1011 : decode cL_law 1011 = .ok (.iadd, 1) := by decide +kernel
theorem dL_law_1012 : decode cL_law 1012 = .ok (.iaload, 1) := by decide +kernel
theorem dL_law_1013 : decode cL_law 1013 = .ok (.aload_n 3, 1) := by decide +kernel
theorem dL_law_1014 : decode cL_law 1014 = .ok (.invokestatic 246, 3) := by decide +kernel
theorem dL_law_1017 : decode cL_law 1017 = .ok (.istore 5, 2) := by decide +kernel
theorem dL_law_1019 : decode cL_law 1019 = .ok (.aload_n 2, 1) := by decide +kernel
theorem dL_law_1020 : decode cL_law 1020 = .ok (.aload_n 0, 1) := by decide +kernel
theorem dL_law_1021 : decode cL_law 1021 = .ok (.iload 4, 2) := by decide +kernel
theorem dL_law_1023 : decode cL_law 1023 = .ok (.iconst 1, 1) := by decide +kernel
theorem dL_law_1024 : decode cL_law 1024 = .ok (.iadd, 1) := by decide +kernel
theorem dL_law_1025 : decode cL_law 1025 = .ok (.iaload, 1) := by decide +kernel
theorem dL_law_1026 : decode cL_law 1026 = .ok (.aload_n 0, 1) := by decide +kernel
theorem dL_law_1027 : decode cL_law 1027 = .ok (.iload 4, 2) := by decide +kernel
theorem dL_law_1029 : decode cL_law 1029 = .ok (.iconst 2, 1) := by decide +kernel
theorem dL_law_1030 : decode cL_law 1030 = .ok (.iadd, 1) := by decide +kernel
theorem dL_law_1031 : decode cL_law 1031 = .ok (.iaload, 1) := by decide +kernel
theorem dL_law_1032 : decode cL_law 1032 = .ok (.invokevirtual 248, 3) := by decide +kernel
theorem dL_law_1035 : decode cL_law 1035 = .ok (.istore 6, 2) := by decide +kernel
theorem dL_law_1037 : decode cL_law 1037 = .ok (.goto 1518, 3) := by decide +kernel
theorem dL_law_1040 : decode cL_law 1040 = .ok (.aload_n 1, 1) := by decide +kernel
theorem dL_law_1041 : decode cL_law 1041 = .ok (.aload_n 0, 1) := by decide +kernel
theorem dL_law_1042 : decode cL_law 1042 = .ok (.iload 4, 2) := by decide +kernel
theorem dL_law_1044 : decode cL_law 1044 = .ok (.iconst 1, 1) := by decide +kernel
theorem dL_law_1045 : decode cL_law 1045 = .ok (.iadd, 1) := by decide +kernel
theorem dL_law_1046 : decode cL_law 1046 = .ok (.iaload, 1) := by decide +kernel
theorem dL_law_1047 : decode cL_law 1047 = .ok (.aload_n 0, 1) := by decide +kernel
theorem dL_law_1048 : decode cL_law 1048 = .ok (.iload 4, 2) := by decide +kernel
theorem dL_law_1050 : decode cL_law 1050 = .ok (.iconst 2, 1) := by decide +kernel
theorem dL_law_1051 : decode cL_law 1051 = .ok (.iadd, 1) := by decide +kernel
theorem dL_law_1052 : decode cL_law 1052 = .ok (.iaload, 1) := by decide +kernel
theorem dL_law_1053 : decode cL_law 1053 = .ok (.aload_n 0, 1) := by decide +kernel
theorem dL_law_1054 : decode cL_law 1054 = .ok (.iload 4, 2) := by decide +kernel
theorem dL_law_1056 : decode cL_law 1056 = .ok (.iconst 3, 1) := by decide +kernel
theorem dL_law_1057 : decode cL_law 1057 = .ok (.iadd, 1) := by decide +kernel
theorem dL_law_1058 : decode cL_law 1058 = .ok (.iaload, 1) := by decide +kernel
theorem dL_law_1059 : decode cL_law 1059 = .ok (.ifCond .eq 7, 3) := by decide +kernel
theorem dL_law_1062 : decode cL_law 1062 = .ok (.iconst 1, 1) := by decide +kernel
theorem dL_law_1063 : decode cL_law 1063 = .ok (.goto 4, 3) := by decide +kernel
theorem dL_law_1066 : decode cL_law 1066 = .ok (.iconst 0, 1) := by decide +kernel
theorem dL_law_1067 : decode cL_law 1067 = .ok (.aload_n 3, 1) := by decide +kernel
theorem dL_law_1068 : decode cL_law 1068 = .ok (.invokestatic 249, 3) := by decide +kernel
theorem dL_law_1071 : decode cL_law 1071 = .ok (.istore 5, 2) := by decide +kernel
theorem dL_law_1073 : decode cL_law 1073 = .ok (.aload_n 2, 1) := by decide +kernel
theorem dL_law_1074 : decode cL_law 1074 = .ok (.aload_n 0, 1) := by decide +kernel
theorem dL_law_1075 : decode cL_law 1075 = .ok (.iload 4, 2) := by decide +kernel
theorem dL_law_1077 : decode cL_law 1077 = .ok (.iconst 1, 1) := by decide +kernel
theorem dL_law_1078 : decode cL_law 1078 = .ok (.iadd, 1) := by decide +kernel
theorem dL_law_1079 : decode cL_law 1079 = .ok (.iaload, 1) := by decide +kernel
theorem dL_law_1080 : decode cL_law 1080 = .ok (.aload_n 0, 1) := by decide +kernel
theorem dL_law_1081 : decode cL_law 1081 = .ok (.iload 4, 2) := by decide +kernel
theorem dL_law_1083 : decode cL_law 1083 = .ok (.iconst 2, 1) := by decide +kernel
theorem dL_law_1084 : decode cL_law 1084 = .ok (.iadd, 1) := by decide +kernel
theorem dL_law_1085 : decode cL_law 1085 = .ok (.iaload, 1) := by decide +kernel
theorem dL_law_1086 : decode cL_law 1086 = .ok (.aload_n 0, 1) := by decide +kernel
theorem dL_law_1087 : decode cL_law 1087 = .ok (.iload 4, 2) := by decide +kernel
theorem dL_law_1089 : decode cL_law 1089 = .ok (.iconst 3, 1) := by decide +kernel
theorem dL_law_1090 : decode cL_law 1090 = .ok (.iadd, 1) := by decide +kernel
theorem dL_law_1091 : decode cL_law 1091 = .ok (.iaload, 1) := by decide +kernel
theorem dL_law_1092 : decode cL_law 1092 = .ok (.ifCond .eq 7, 3) := by decide +kernel
theorem dL_law_1095 : decode cL_law 1095 = .ok (.iconst 1, 1) := by decide +kernel
theorem dL_law_1096 : decode cL_law 1096 = .ok (.goto 4, 3) := by decide +kernel
theorem dL_law_1099 : decode cL_law 1099 = .ok (.iconst 0, 1) := by decide +kernel
theorem dL_law_1100 : decode cL_law 1100 = .ok (.invokevirtual 252, 3) := by decide +kernel
theorem dL_law_1103 : decode cL_law 1103 = .ok (.istore 6, 2) := by decide +kernel
theorem dL_law_1105 : decode cL_law 1105 = .ok (.goto 1450, 3) := by decide +kernel
theorem dL_law_1108 : decode cL_law 1108 = .ok (.aload_n 1, 1) := by decide +kernel
theorem dL_law_1109 : decode cL_law 1109 = .ok (.aload_n 0, 1) := by decide +kernel
theorem dL_law_1110 : decode cL_law 1110 = .ok (.iload 4, 2) := by decide +kernel
theorem dL_law_1112 : decode cL_law 1112 = .ok (.iconst 1, 1) := by decide +kernel
theorem dL_law_1113 : decode cL_law 1113 = .ok (.iadd, 1) := by decide +kernel
theorem dL_law_1114 : decode cL_law 1114 = .ok (.iaload, 1) := by decide +kernel
theorem dL_law_1115 : decode cL_law 1115 = .ok (.aload_n 0, 1) := by decide +kernel
theorem dL_law_1116 : decode cL_law 1116 = .ok (.iload 4, 2) := by decide +kernel
theorem dL_law_1118 : decode cL_law 1118 = .ok (.iconst 2, 1) := by decide +kernel
theorem dL_law_1119 : decode cL_law 1119 = .ok (.iadd, 1) := by decide +kernel
theorem dL_law_1120 : decode cL_law 1120 = .ok (.iaload, 1) := by decide +kernel
theorem dL_law_1121 : decode cL_law 1121 = .ok (.aload_n 0, 1) := by decide +kernel
theorem dL_law_1122 : decode cL_law 1122 = .ok (.iload 4, 2) := by decide +kernel
theorem dL_law_1124 : decode cL_law 1124 = .ok (.iconst 3, 1) := by decide +kernel
theorem dL_law_1125 : decode cL_law 1125 = .ok (.iadd, 1) := by decide +kernel
theorem dL_law_1126 : decode cL_law 1126 = .ok (.iaload, 1) := by decide +kernel
theorem dL_law_1127 : decode cL_law 1127 = .ok (.ifCond .eq 7, 3) := by decide +kernel
theorem dL_law_1130 : decode cL_law 1130 = .ok (.iconst 1, 1) := by decide +kernel
theorem dL_law_1131 : decode cL_law 1131 = .ok (.goto 4, 3) := by decide +kernel
theorem dL_law_1134 : decode cL_law 1134 = .ok (.iconst 0, 1) := by decide +kernel
theorem dL_law_1135 : decode cL_law 1135 = .ok (.aload_n 3, 1) := by decide +kernel
theorem dL_law_1136 : decode cL_law 1136 = .ok (.invokestatic 253, 3) := by decide +kernel
theorem dL_law_1139 : decode cL_law 1139 = .ok (.istore 5, 2) := by decide +kernel
theorem dL_law_1141 : decode cL_law 1141 = .ok (.aload_n 2, 1) := by decide +kernel
theorem dL_law_1142 : decode cL_law 1142 = .ok (.aload_n 0, 1) := by decide +kernel
theorem dL_law_1143 : decode cL_law 1143 = .ok (.iload 4, 2) := by decide +kernel
theorem dL_law_1145 : decode cL_law 1145 = .ok (.iconst 1, 1) := by decide +kernel
theorem dL_law_1146 : decode cL_law 1146 = .ok (.iadd, 1) := by decide +kernel
theorem dL_law_1147 : decode cL_law 1147 = .ok (.iaload, 1) := by decide +kernel
theorem dL_law_1148 : decode cL_law 1148 = .ok (.aload_n 0, 1) := by decide +kernel
theorem dL_law_1149 : decode cL_law 1149 = .ok (.iload 4, 2) := by decide +kernel
theorem dL_law_1151 : decode cL_law 1151 = .ok (.iconst 2, 1) := by decide +kernel
theorem dL_law_1152 : decode cL_law 1152 = .ok (.iadd, 1) := by decide +kernel
theorem dL_law_1153 : decode cL_law 1153 = .ok (.iaload, 1) := by decide +kernel
theorem dL_law_1154 : decode cL_law 1154 = .ok (.aload_n 0, 1) := by decide +kernel
theorem dL_law_1155 : decode cL_law 1155 = .ok (.iload 4, 2) := by decide +kernel
theorem dL_law_1157 : decode cL_law 1157 = .ok (.iconst 3, 1) := by decide +kernel
theorem dL_law_1158 : decode cL_law 1158 = .ok (.iadd, 1) := by decide +kernel
theorem dL_law_1159 : decode cL_law 1159 = .ok (.iaload, 1) := by decide +kernel
theorem dL_law_1160 : decode cL_law 1160 = .ok (.ifCond .eq 7, 3) := by decide +kernel
theorem dL_law_1163 : decode cL_law 1163 = .ok (.iconst 1, 1) := by decide +kernel
theorem dL_law_1164 : decode cL_law 1164 = .ok (.goto 4, 3) := by decide +kernel
theorem dL_law_1167 : decode cL_law 1167 = .ok (.iconst 0, 1) := by decide +kernel
theorem dL_law_1168 : decode cL_law 1168 = .ok (.invokevirtual 255, 3) := by decide +kernel
theorem dL_law_1171 : decode cL_law 1171 = .ok (.istore 6, 2) := by decide +kernel
theorem dL_law_1173 : decode cL_law 1173 = .ok (.goto 1382, 3) := by decide +kernel
theorem dL_law_1176 : decode cL_law 1176 = .ok (.aload_n 1, 1) := by decide +kernel
theorem dL_law_1177 : decode cL_law 1177 = .ok (.aload_n 0, 1) := by decide +kernel
theorem dL_law_1178 : decode cL_law 1178 = .ok (.iload 4, 2) := by decide +kernel
theorem dL_law_1180 : decode cL_law 1180 = .ok (.iconst 1, 1) := by decide +kernel
theorem dL_law_1181 : decode cL_law 1181 = .ok (.iadd, 1) := by decide +kernel
theorem dL_law_1182 : decode cL_law 1182 = .ok (.iaload, 1) := by decide +kernel
theorem dL_law_1183 : decode cL_law 1183 = .ok (.aload_n 0, 1) := by decide +kernel
theorem dL_law_1184 : decode cL_law 1184 = .ok (.iload 4, 2) := by decide +kernel
theorem dL_law_1186 : decode cL_law 1186 = .ok (.iconst 2, 1) := by decide +kernel
theorem dL_law_1187 : decode cL_law 1187 = .ok (.iadd, 1) := by decide +kernel
theorem dL_law_1188 : decode cL_law 1188 = .ok (.iaload, 1) := by decide +kernel
theorem dL_law_1189 : decode cL_law 1189 = .ok (.aload_n 0, 1) := by decide +kernel
theorem dL_law_1190 : decode cL_law 1190 = .ok (.iload 4, 2) := by decide +kernel
theorem dL_law_1192 : decode cL_law 1192 = .ok (.iconst 3, 1) := by decide +kernel
theorem dL_law_1193 : decode cL_law 1193 = .ok (.iadd, 1) := by decide +kernel
theorem dL_law_1194 : decode cL_law 1194 = .ok (.iaload, 1) := by decide +kernel
theorem dL_law_1195 : decode cL_law 1195 = .ok (.ifCond .eq 7, 3) := by decide +kernel
theorem dL_law_1198 : decode cL_law 1198 = .ok (.iconst 1, 1) := by decide +kernel
theorem dL_law_1199 : decode cL_law 1199 = .ok (.goto 4, 3) := by decide +kernel
theorem dL_law_1202 : decode cL_law 1202 = .ok (.iconst 0, 1) := by decide +kernel
theorem dL_law_1203 : decode cL_law 1203 = .ok (.aload_n 3, 1) := by decide +kernel
theorem dL_law_1204 : decode cL_law 1204 = .ok (.invokestatic 256, 3) := by decide +kernel
theorem dL_law_1207 : decode cL_law 1207 = .ok (.istore 5, 2) := by decide +kernel
theorem dL_law_1209 : decode cL_law 1209 = .ok (.aload_n 2, 1) := by decide +kernel
theorem dL_law_1210 : decode cL_law 1210 = .ok (.aload_n 0, 1) := by decide +kernel
theorem dL_law_1211 : decode cL_law 1211 = .ok (.iload 4, 2) := by decide +kernel
theorem dL_law_1213 : decode cL_law 1213 = .ok (.iconst 1, 1) := by decide +kernel
theorem dL_law_1214 : decode cL_law 1214 = .ok (.iadd, 1) := by decide +kernel
theorem dL_law_1215 : decode cL_law 1215 = .ok (.iaload, 1) := by decide +kernel
theorem dL_law_1216 : decode cL_law 1216 = .ok (.aload_n 0, 1) := by decide +kernel
theorem dL_law_1217 : decode cL_law 1217 = .ok (.iload 4, 2) := by decide +kernel
theorem dL_law_1219 : decode cL_law 1219 = .ok (.iconst 2, 1) := by decide +kernel
theorem dL_law_1220 : decode cL_law 1220 = .ok (.iadd, 1) := by decide +kernel
theorem dL_law_1221 : decode cL_law 1221 = .ok (.iaload, 1) := by decide +kernel
theorem dL_law_1222 : decode cL_law 1222 = .ok (.aload_n 0, 1) := by decide +kernel
theorem dL_law_1223 : decode cL_law 1223 = .ok (.iload 4, 2) := by decide +kernel
theorem dL_law_1225 : decode cL_law 1225 = .ok (.iconst 3, 1) := by decide +kernel
theorem dL_law_1226 : decode cL_law 1226 = .ok (.iadd, 1) := by decide +kernel
theorem dL_law_1227 : decode cL_law 1227 = .ok (.iaload, 1) := by decide +kernel
theorem dL_law_1228 : decode cL_law 1228 = .ok (.ifCond .eq 7, 3) := by decide +kernel
theorem dL_law_1231 : decode cL_law 1231 = .ok (.iconst 1, 1) := by decide +kernel
theorem dL_law_1232 : decode cL_law 1232 = .ok (.goto 4, 3) := by decide +kernel
theorem dL_law_1235 : decode cL_law 1235 = .ok (.iconst 0, 1) := by decide +kernel
theorem dL_law_1236 : decode cL_law 1236 = .ok (.invokevirtual 258, 3) := by decide +kernel
theorem dL_law_1239 : decode cL_law 1239 = .ok (.istore 6, 2) := by decide +kernel
theorem dL_law_1241 : decode cL_law 1241 = .ok (.goto 1314, 3) := by decide +kernel
theorem dL_law_1244 : decode cL_law 1244 = .ok (.aload_n 1, 1) := by decide +kernel
theorem dL_law_1245 : decode cL_law 1245 = .ok (.aload_n 0, 1) := by decide +kernel
theorem dL_law_1246 : decode cL_law 1246 = .ok (.iload 4, 2) := by decide +kernel
theorem dL_law_1248 : decode cL_law 1248 = .ok (.iconst 1, 1) := by decide +kernel
theorem dL_law_1249 : decode cL_law 1249 = .ok (.iadd, 1) := by decide +kernel
theorem dL_law_1250 : decode cL_law 1250 = .ok (.iaload, 1) := by decide +kernel
theorem dL_law_1251 : decode cL_law 1251 = .ok (.aload_n 0, 1) := by decide +kernel
theorem dL_law_1252 : decode cL_law 1252 = .ok (.iload 4, 2) := by decide +kernel
theorem dL_law_1254 : decode cL_law 1254 = .ok (.iconst 2, 1) := by decide +kernel
theorem dL_law_1255 : decode cL_law 1255 = .ok (.iadd, 1) := by decide +kernel
theorem dL_law_1256 : decode cL_law 1256 = .ok (.iaload, 1) := by decide +kernel
theorem dL_law_1257 : decode cL_law 1257 = .ok (.aload_n 0, 1) := by decide +kernel
theorem dL_law_1258 : decode cL_law 1258 = .ok (.iload 4, 2) := by decide +kernel
theorem dL_law_1260 : decode cL_law 1260 = .ok (.iconst 3, 1) := by decide +kernel
theorem dL_law_1261 : decode cL_law 1261 = .ok (.iadd, 1) := by decide +kernel
theorem dL_law_1262 : decode cL_law 1262 = .ok (.iaload, 1) := by decide +kernel
theorem dL_law_1263 : decode cL_law 1263 = .ok (.ifCond .eq 7, 3) := by decide +kernel
theorem dL_law_1266 : decode cL_law 1266 = .ok (.iconst 1, 1) := by decide +kernel
theorem dL_law_1267 : decode cL_law 1267 = .ok (.goto 4, 3) := by decide +kernel
theorem dL_law_1270 : decode cL_law 1270 = .ok (.iconst 0, 1) := by decide +kernel
theorem dL_law_1271 : decode cL_law 1271 = .ok (.aload_n 0, 1) := by decide +kernel
theorem dL_law_1272 : decode cL_law 1272 = .ok (.iload 4, 2) := by decide +kernel
theorem dL_law_1274 : decode cL_law 1274 = .ok (.iconst 4, 1) := by decide +kernel
theorem dL_law_1275 : decode cL_law 1275 = .ok (.iadd, 1) := by decide +kernel
theorem dL_law_1276 : decode cL_law 1276 = .ok (.iaload, 1) := by decide +kernel
theorem dL_law_1277 : decode cL_law 1277 = .ok (.aload_n 0, 1) := by decide +kernel
theorem dL_law_1278 : decode cL_law 1278 = .ok (.iload 4, 2) := by decide +kernel
theorem dL_law_1280 : decode cL_law 1280 = .ok (.iconst 5, 1) := by decide +kernel
theorem dL_law_1281 : decode cL_law 1281 = .ok (.iadd, 1) := by decide +kernel
theorem dL_law_1282 : decode cL_law 1282 = .ok (.iaload, 1) := by decide +kernel
theorem dL_law_1283 : decode cL_law 1283 = .ok (.ifCond .eq 7, 3) := by decide +kernel
theorem dL_law_1286 : decode cL_law 1286 = .ok (.iconst 1, 1) := by decide +kernel
theorem dL_law_1287 : decode cL_law 1287 = .ok (.goto 4, 3) := by decide +kernel
theorem dL_law_1290 : decode cL_law 1290 = .ok (.iconst 0, 1) := by decide +kernel
theorem dL_law_1291 : decode cL_law 1291 = .ok (.aload_n 3, 1) := by decide +kernel
theorem dL_law_1292 : decode cL_law 1292 = .ok (.invokestatic 259, 3) := by decide +kernel
theorem dL_law_1295 : decode cL_law 1295 = .ok (.istore 5, 2) := by decide +kernel
theorem dL_law_1297 : decode cL_law 1297 = .ok (.aload_n 2, 1) := by decide +kernel
theorem dL_law_1298 : decode cL_law 1298 = .ok (.aload_n 0, 1) := by decide +kernel
theorem dL_law_1299 : decode cL_law 1299 = .ok (.iload 4, 2) := by decide +kernel
theorem dL_law_1301 : decode cL_law 1301 = .ok (.iconst 1, 1) := by decide +kernel
theorem dL_law_1302 : decode cL_law 1302 = .ok (.iadd, 1) := by decide +kernel
theorem dL_law_1303 : decode cL_law 1303 = .ok (.iaload, 1) := by decide +kernel
theorem dL_law_1304 : decode cL_law 1304 = .ok (.aload_n 0, 1) := by decide +kernel
theorem dL_law_1305 : decode cL_law 1305 = .ok (.iload 4, 2) := by decide +kernel
theorem dL_law_1307 : decode cL_law 1307 = .ok (.iconst 2, 1) := by decide +kernel
theorem dL_law_1308 : decode cL_law 1308 = .ok (.iadd, 1) := by decide +kernel
theorem dL_law_1309 : decode cL_law 1309 = .ok (.iaload, 1) := by decide +kernel
theorem dL_law_1310 : decode cL_law 1310 = .ok (.aload_n 0, 1) := by decide +kernel
theorem dL_law_1311 : decode cL_law 1311 = .ok (.iload 4, 2) := by decide +kernel
theorem dL_law_1313 : decode cL_law 1313 = .ok (.iconst 3, 1) := by decide +kernel
theorem dL_law_1314 : decode cL_law 1314 = .ok (.iadd, 1) := by decide +kernel
theorem dL_law_1315 : decode cL_law 1315 = .ok (.iaload, 1) := by decide +kernel
theorem dL_law_1316 : decode cL_law 1316 = .ok (.ifCond .eq 7, 3) := by decide +kernel
theorem dL_law_1319 : decode cL_law 1319 = .ok (.iconst 1, 1) := by decide +kernel
theorem dL_law_1320 : decode cL_law 1320 = .ok (.goto 4, 3) := by decide +kernel
theorem dL_law_1323 : decode cL_law 1323 = .ok (.iconst 0, 1) := by decide +kernel
theorem dL_law_1324 : decode cL_law 1324 = .ok (.aload_n 0, 1) := by decide +kernel
theorem dL_law_1325 : decode cL_law 1325 = .ok (.iload 4, 2) := by decide +kernel
theorem dL_law_1327 : decode cL_law 1327 = .ok (.iconst 4, 1) := by decide +kernel
theorem dL_law_1328 : decode cL_law 1328 = .ok (.iadd, 1) := by decide +kernel
theorem dL_law_1329 : decode cL_law 1329 = .ok (.iaload, 1) := by decide +kernel
theorem dL_law_1330 : decode cL_law 1330 = .ok (.aload_n 0, 1) := by decide +kernel
theorem dL_law_1331 : decode cL_law 1331 = .ok (.iload 4, 2) := by decide +kernel
theorem dL_law_1333 : decode cL_law 1333 = .ok (.iconst 5, 1) := by decide +kernel
theorem dL_law_1334 : decode cL_law 1334 = .ok (.iadd, 1) := by decide +kernel
theorem dL_law_1335 : decode cL_law 1335 = .ok (.iaload, 1) := by decide +kernel
theorem dL_law_1336 : decode cL_law 1336 = .ok (.ifCond .eq 7, 3) := by decide +kernel
theorem dL_law_1339 : decode cL_law 1339 = .ok (.iconst 1, 1) := by decide +kernel
theorem dL_law_1340 : decode cL_law 1340 = .ok (.goto 4, 3) := by decide +kernel
theorem dL_law_1343 : decode cL_law 1343 = .ok (.iconst 0, 1) := by decide +kernel
theorem dL_law_1344 : decode cL_law 1344 = .ok (.invokevirtual 262, 3) := by decide +kernel
theorem dL_law_1347 : decode cL_law 1347 = .ok (.istore 6, 2) := by decide +kernel
theorem dL_law_1349 : decode cL_law 1349 = .ok (.goto 1206, 3) := by decide +kernel
theorem dL_law_1352 : decode cL_law 1352 = .ok (.aload_n 1, 1) := by decide +kernel
theorem dL_law_1353 : decode cL_law 1353 = .ok (.aload_n 0, 1) := by decide +kernel
theorem dL_law_1354 : decode cL_law 1354 = .ok (.iload 4, 2) := by decide +kernel
theorem dL_law_1356 : decode cL_law 1356 = .ok (.iconst 1, 1) := by decide +kernel
theorem dL_law_1357 : decode cL_law 1357 = .ok (.iadd, 1) := by decide +kernel
theorem dL_law_1358 : decode cL_law 1358 = .ok (.iaload, 1) := by decide +kernel
theorem dL_law_1359 : decode cL_law 1359 = .ok (.aload_n 0, 1) := by decide +kernel
theorem dL_law_1360 : decode cL_law 1360 = .ok (.iload 4, 2) := by decide +kernel
theorem dL_law_1362 : decode cL_law 1362 = .ok (.iconst 2, 1) := by decide +kernel
theorem dL_law_1363 : decode cL_law 1363 = .ok (.iadd, 1) := by decide +kernel
theorem dL_law_1364 : decode cL_law 1364 = .ok (.iaload, 1) := by decide +kernel
theorem dL_law_1365 : decode cL_law 1365 = .ok (.aload_n 0, 1) := by decide +kernel
theorem dL_law_1366 : decode cL_law 1366 = .ok (.iload 4, 2) := by decide +kernel
theorem dL_law_1368 : decode cL_law 1368 = .ok (.iconst 3, 1) := by decide +kernel
theorem dL_law_1369 : decode cL_law 1369 = .ok (.iadd, 1) := by decide +kernel
theorem dL_law_1370 : decode cL_law 1370 = .ok (.iaload, 1) := by decide +kernel
theorem dL_law_1371 : decode cL_law 1371 = .ok (.ifCond .eq 7, 3) := by decide +kernel
theorem dL_law_1374 : decode cL_law 1374 = .ok (.iconst 1, 1) := by decide +kernel
theorem dL_law_1375 : decode cL_law 1375 = .ok (.goto 4, 3) := by decide +kernel
theorem dL_law_1378 : decode cL_law 1378 = .ok (.iconst 0, 1) := by decide +kernel
theorem dL_law_1379 : decode cL_law 1379 = .ok (.aload_n 0, 1) := by decide +kernel
theorem dL_law_1380 : decode cL_law 1380 = .ok (.iload 4, 2) := by decide +kernel
theorem dL_law_1382 : decode cL_law 1382 = .ok (.iconst 4, 1) := by decide +kernel
theorem dL_law_1383 : decode cL_law 1383 = .ok (.iadd, 1) := by decide +kernel
theorem dL_law_1384 : decode cL_law 1384 = .ok (.iaload, 1) := by decide +kernel
theorem dL_law_1385 : decode cL_law 1385 = .ok (.aload_n 0, 1) := by decide +kernel
theorem dL_law_1386 : decode cL_law 1386 = .ok (.iload 4, 2) := by decide +kernel
theorem dL_law_1388 : decode cL_law 1388 = .ok (.iconst 5, 1) := by decide +kernel
theorem dL_law_1389 : decode cL_law 1389 = .ok (.iadd, 1) := by decide +kernel
theorem dL_law_1390 : decode cL_law 1390 = .ok (.iaload, 1) := by decide +kernel
theorem dL_law_1391 : decode cL_law 1391 = .ok (.ifCond .eq 7, 3) := by decide +kernel
theorem dL_law_1394 : decode cL_law 1394 = .ok (.iconst 1, 1) := by decide +kernel
theorem dL_law_1395 : decode cL_law 1395 = .ok (.goto 4, 3) := by decide +kernel
theorem dL_law_1398 : decode cL_law 1398 = .ok (.iconst 0, 1) := by decide +kernel
theorem dL_law_1399 : decode cL_law 1399 = .ok (.aload_n 3, 1) := by decide +kernel
theorem dL_law_1400 : decode cL_law 1400 = .ok (.invokestatic 263, 3) := by decide +kernel
theorem dL_law_1403 : decode cL_law 1403 = .ok (.istore 5, 2) := by decide +kernel
theorem dL_law_1405 : decode cL_law 1405 = .ok (.aload_n 2, 1) := by decide +kernel
theorem dL_law_1406 : decode cL_law 1406 = .ok (.aload_n 0, 1) := by decide +kernel
theorem dL_law_1407 : decode cL_law 1407 = .ok (.iload 4, 2) := by decide +kernel
theorem dL_law_1409 : decode cL_law 1409 = .ok (.iconst 1, 1) := by decide +kernel
theorem dL_law_1410 : decode cL_law 1410 = .ok (.iadd, 1) := by decide +kernel
theorem dL_law_1411 : decode cL_law 1411 = .ok (.iaload, 1) := by decide +kernel
theorem dL_law_1412 : decode cL_law 1412 = .ok (.aload_n 0, 1) := by decide +kernel
theorem dL_law_1413 : decode cL_law 1413 = .ok (.iload 4, 2) := by decide +kernel
theorem dL_law_1415 : decode cL_law 1415 = .ok (.iconst 2, 1) := by decide +kernel
theorem dL_law_1416 : decode cL_law 1416 = .ok (.iadd, 1) := by decide +kernel
theorem dL_law_1417 : decode cL_law 1417 = .ok (.iaload, 1) := by decide +kernel
theorem dL_law_1418 : decode cL_law 1418 = .ok (.aload_n 0, 1) := by decide +kernel
theorem dL_law_1419 : decode cL_law 1419 = .ok (.iload 4, 2) := by decide +kernel
theorem dL_law_1421 : decode cL_law 1421 = .ok (.iconst 3, 1) := by decide +kernel
theorem dL_law_1422 : decode cL_law 1422 = .ok (.iadd, 1) := by decide +kernel
theorem dL_law_1423 : decode cL_law 1423 = .ok (.iaload, 1) := by decide +kernel
theorem dL_law_1424 : decode cL_law 1424 = .ok (.ifCond .eq 7, 3) := by decide +kernel
theorem dL_law_1427 : decode cL_law 1427 = .ok (.iconst 1, 1) := by decide +kernel
theorem dL_law_1428 : decode cL_law 1428 = .ok (.goto 4, 3) := by decide +kernel
theorem dL_law_1431 : decode cL_law 1431 = .ok (.iconst 0, 1) := by decide +kernel
theorem dL_law_1432 : decode cL_law 1432 = .ok (.aload_n 0, 1) := by decide +kernel
theorem dL_law_1433 : decode cL_law 1433 = .ok (.iload 4, 2) := by decide +kernel
theorem dL_law_1435 : decode cL_law 1435 = .ok (.iconst 4, 1) := by decide +kernel
theorem dL_law_1436 : decode cL_law 1436 = .ok (.iadd, 1) := by decide +kernel
theorem dL_law_1437 : decode cL_law 1437 = .ok (.iaload, 1) := by decide +kernel
theorem dL_law_1438 : decode cL_law 1438 = .ok (.aload_n 0, 1) := by decide +kernel
theorem dL_law_1439 : decode cL_law 1439 = .ok (.iload 4, 2) := by decide +kernel
theorem dL_law_1441 : decode cL_law 1441 = .ok (.iconst 5, 1) := by decide +kernel
theorem dL_law_1442 : decode cL_law 1442 = .ok (.iadd, 1) := by decide +kernel
theorem dL_law_1443 : decode cL_law 1443 = .ok (.iaload, 1) := by decide +kernel
theorem dL_law_1444 : decode cL_law 1444 = .ok (.ifCond .eq 7, 3) := by decide +kernel
theorem dL_law_1447 : decode cL_law 1447 = .ok (.iconst 1, 1) := by decide +kernel
theorem dL_law_1448 : decode cL_law 1448 = .ok (.goto 4, 3) := by decide +kernel
theorem dL_law_1451 : decode cL_law 1451 = .ok (.iconst 0, 1) := by decide +kernel
theorem dL_law_1452 : decode cL_law 1452 = .ok (.invokevirtual 265, 3) := by decide +kernel
theorem dL_law_1455 : decode cL_law 1455 = .ok (.istore 6, 2) := by decide +kernel
theorem dL_law_1457 : decode cL_law 1457 = .ok (.goto 1098, 3) := by decide +kernel
theorem dL_law_1460 : decode cL_law 1460 = .ok (.aload_n 1, 1) := by decide +kernel
theorem dL_law_1461 : decode cL_law 1461 = .ok (.aload_n 0, 1) := by decide +kernel
theorem dL_law_1462 : decode cL_law 1462 = .ok (.iload 4, 2) := by decide +kernel
theorem dL_law_1464 : decode cL_law 1464 = .ok (.iconst 1, 1) := by decide +kernel
theorem dL_law_1465 : decode cL_law 1465 = .ok (.iadd, 1) := by decide +kernel
theorem dL_law_1466 : decode cL_law 1466 = .ok (.iaload, 1) := by decide +kernel
theorem dL_law_1467 : decode cL_law 1467 = .ok (.aload_n 3, 1) := by decide +kernel
theorem dL_law_1468 : decode cL_law 1468 = .ok (.invokestatic 266, 3) := by decide +kernel
theorem dL_law_1471 : decode cL_law 1471 = .ok (.istore 5, 2) := by decide +kernel
theorem dL_law_1473 : decode cL_law 1473 = .ok (.aload_n 2, 1) := by decide +kernel
theorem dL_law_1474 : decode cL_law 1474 = .ok (.aload_n 0, 1) := by decide +kernel
theorem dL_law_1475 : decode cL_law 1475 = .ok (.iload 4, 2) := by decide +kernel
theorem dL_law_1477 : decode cL_law 1477 = .ok (.iconst 1, 1) := by decide +kernel
theorem dL_law_1478 : decode cL_law 1478 = .ok (.iadd, 1) := by decide +kernel
theorem dL_law_1479 : decode cL_law 1479 = .ok (.iaload, 1) := by decide +kernel
theorem dL_law_1480 : decode cL_law 1480 = .ok (.invokevirtual 268, 3) := by decide +kernel
theorem dL_law_1483 : decode cL_law 1483 = .ok (.istore 6, 2) := by decide +kernel
theorem dL_law_1485 : decode cL_law 1485 = .ok (.goto 1070, 3) := by decide +kernel
theorem dL_law_1488 : decode cL_law 1488 = .ok (.aload_n 1, 1) := by decide +kernel
theorem dL_law_1489 : decode cL_law 1489 = .ok (.aload_n 0, 1) := by decide +kernel
theorem dL_law_1490 : decode cL_law 1490 = .ok (.iload 4, 2) := by decide +kernel
theorem dL_law_1492 : decode cL_law 1492 = .ok (.iconst 1, 1) := by decide +kernel
theorem dL_law_1493 : decode cL_law 1493 = .ok (.iadd, 1) := by decide +kernel
theorem dL_law_1494 : decode cL_law 1494 = .ok (.iaload, 1) := by decide +kernel
theorem dL_law_1495 : decode cL_law 1495 = .ok (.aload_n 0, 1) := by decide +kernel
theorem dL_law_1496 : decode cL_law 1496 = .ok (.iload 4, 2) := by decide +kernel
theorem dL_law_1498 : decode cL_law 1498 = .ok (.iconst 2, 1) := by decide +kernel
theorem dL_law_1499 : decode cL_law 1499 = .ok (.iadd, 1) := by decide +kernel
theorem dL_law_1500 : decode cL_law 1500 = .ok (.iaload, 1) := by decide +kernel
theorem dL_law_1501 : decode cL_law 1501 = .ok (.aload_n 0, 1) := by decide +kernel
theorem dL_law_1502 : decode cL_law 1502 = .ok (.iload 4, 2) := by decide +kernel
theorem dL_law_1504 : decode cL_law 1504 = .ok (.iconst 3, 1) := by decide +kernel
theorem dL_law_1505 : decode cL_law 1505 = .ok (.iadd, 1) := by decide +kernel
theorem dL_law_1506 : decode cL_law 1506 = .ok (.iaload, 1) := by decide +kernel
theorem dL_law_1507 : decode cL_law 1507 = .ok (.aload_n 3, 1) := by decide +kernel
theorem dL_law_1508 : decode cL_law 1508 = .ok (.invokestatic 269, 3) := by decide +kernel
theorem dL_law_1511 : decode cL_law 1511 = .ok (.istore 5, 2) := by decide +kernel
theorem dL_law_1513 : decode cL_law 1513 = .ok (.aload_n 2, 1) := by decide +kernel
theorem dL_law_1514 : decode cL_law 1514 = .ok (.aload_n 0, 1) := by decide +kernel
theorem dL_law_1515 : decode cL_law 1515 = .ok (.iload 4, 2) := by decide +kernel
theorem dL_law_1517 : decode cL_law 1517 = .ok (.iconst 1, 1) := by decide +kernel
theorem dL_law_1518 : decode cL_law 1518 = .ok (.iadd, 1) := by decide +kernel
theorem dL_law_1519 : decode cL_law 1519 = .ok (.iaload, 1) := by decide +kernel
theorem dL_law_1520 : decode cL_law 1520 = .ok (.aload_n 0, 1) := by decide +kernel
theorem dL_law_1521 : decode cL_law 1521 = .ok (.iload 4, 2) := by decide +kernel
theorem dL_law_1523 : decode cL_law 1523 = .ok (.iconst 2, 1) := by decide +kernel
theorem dL_law_1524 : decode cL_law 1524 = .ok (.iadd, 1) := by decide +kernel
theorem dL_law_1525 : decode cL_law 1525 = .ok (.iaload, 1) := by decide +kernel
theorem dL_law_1526 : decode cL_law 1526 = .ok (.aload_n 0, 1) := by decide +kernel
theorem dL_law_1527 : decode cL_law 1527 = .ok (.iload 4, 2) := by decide +kernel
theorem dL_law_1529 : decode cL_law 1529 = .ok (.iconst 3, 1) := by decide +kernel
theorem dL_law_1530 : decode cL_law 1530 = .ok (.iadd, 1) := by decide +kernel
theorem dL_law_1531 : decode cL_law 1531 = .ok (.iaload, 1) := by decide +kernel
theorem dL_law_1532 : decode cL_law 1532 = .ok (.invokevirtual 271, 3) := by decide +kernel
theorem dL_law_1535 : decode cL_law 1535 = .ok (.istore 6, 2) := by decide +kernel
theorem dL_law_1537 : decode cL_law 1537 = .ok (.goto 1018, 3) := by decide +kernel
theorem dL_law_1540 : decode cL_law 1540 = .ok (.aload_n 1, 1) := by decide +kernel
theorem dL_law_1541 : decode cL_law 1541 = .ok (.aload_n 0, 1) := by decide +kernel
theorem dL_law_1542 : decode cL_law 1542 = .ok (.iload 4, 2) := by decide +kernel
theorem dL_law_1544 : decode cL_law 1544 = .ok (.iconst 1, 1) := by decide +kernel
theorem dL_law_1545 : decode cL_law 1545 = .ok (.iadd, 1) := by decide +kernel
theorem dL_law_1546 : decode cL_law 1546 = .ok (.iaload, 1) := by decide +kernel
theorem dL_law_1547 : decode cL_law 1547 = .ok (.aload_n 0, 1) := by decide +kernel
theorem dL_law_1548 : decode cL_law 1548 = .ok (.iload 4, 2) := by decide +kernel
theorem dL_law_1550 : decode cL_law 1550 = .ok (.iconst 2, 1) := by decide +kernel
theorem dL_law_1551 : decode cL_law 1551 = .ok (.iadd, 1) := by decide +kernel
theorem dL_law_1552 : decode cL_law 1552 = .ok (.iaload, 1) := by decide +kernel
theorem dL_law_1553 : decode cL_law 1553 = .ok (.aload_n 3, 1) := by decide +kernel
theorem dL_law_1554 : decode cL_law 1554 = .ok (.invokestatic 272, 3) := by decide +kernel
theorem dL_law_1557 : decode cL_law 1557 = .ok (.istore 5, 2) := by decide +kernel
theorem dL_law_1559 : decode cL_law 1559 = .ok (.aload_n 2, 1) := by decide +kernel
theorem dL_law_1560 : decode cL_law 1560 = .ok (.aload_n 0, 1) := by decide +kernel
theorem dL_law_1561 : decode cL_law 1561 = .ok (.iload 4, 2) := by decide +kernel
theorem dL_law_1563 : decode cL_law 1563 = .ok (.iconst 1, 1) := by decide +kernel
theorem dL_law_1564 : decode cL_law 1564 = .ok (.iadd, 1) := by decide +kernel
theorem dL_law_1565 : decode cL_law 1565 = .ok (.iaload, 1) := by decide +kernel
theorem dL_law_1566 : decode cL_law 1566 = .ok (.aload_n 0, 1) := by decide +kernel
theorem dL_law_1567 : decode cL_law 1567 = .ok (.iload 4, 2) := by decide +kernel
theorem dL_law_1569 : decode cL_law 1569 = .ok (.iconst 2, 1) := by decide +kernel
theorem dL_law_1570 : decode cL_law 1570 = .ok (.iadd, 1) := by decide +kernel
theorem dL_law_1571 : decode cL_law 1571 = .ok (.iaload, 1) := by decide +kernel
theorem dL_law_1572 : decode cL_law 1572 = .ok (.invokevirtual 274, 3) := by decide +kernel
theorem dL_law_1575 : decode cL_law 1575 = .ok (.istore 6, 2) := by decide +kernel
theorem dL_law_1577 : decode cL_law 1577 = .ok (.goto 978, 3) := by decide +kernel
theorem dL_law_1580 : decode cL_law 1580 = .ok (.aload_n 1, 1) := by decide +kernel
theorem dL_law_1581 : decode cL_law 1581 = .ok (.aload_n 0, 1) := by decide +kernel
theorem dL_law_1582 : decode cL_law 1582 = .ok (.iload 4, 2) := by decide +kernel
theorem dL_law_1584 : decode cL_law 1584 = .ok (.iconst 1, 1) := by decide +kernel
theorem dL_law_1585 : decode cL_law 1585 = .ok (.iadd, 1) := by decide +kernel
theorem dL_law_1586 : decode cL_law 1586 = .ok (.iaload, 1) := by decide +kernel
theorem dL_law_1587 : decode cL_law 1587 = .ok (.aload_n 0, 1) := by decide +kernel
theorem dL_law_1588 : decode cL_law 1588 = .ok (.iload 4, 2) := by decide +kernel
theorem dL_law_1590 : decode cL_law 1590 = .ok (.iconst 2, 1) := by decide +kernel
theorem dL_law_1591 : decode cL_law 1591 = .ok (.iadd, 1) := by decide +kernel
theorem dL_law_1592 : decode cL_law 1592 = .ok (.iaload, 1) := by decide +kernel
theorem dL_law_1593 : decode cL_law 1593 = .ok (.aload_n 0, 1) := by decide +kernel
theorem dL_law_1594 : decode cL_law 1594 = .ok (.iload 4, 2) := by decide +kernel
theorem dL_law_1596 : decode cL_law 1596 = .ok (.iconst 3, 1) := by decide +kernel
theorem dL_law_1597 : decode cL_law 1597 = .ok (.iadd, 1) := by decide +kernel
theorem dL_law_1598 : decode cL_law 1598 = .ok (.iaload, 1) := by decide +kernel
theorem dL_law_1599 : decode cL_law 1599 = .ok (.aload_n 3, 1) := by decide +kernel
theorem dL_law_1600 : decode cL_law 1600 = .ok (.invokestatic 275, 3) := by decide +kernel
theorem dL_law_1603 : decode cL_law 1603 = .ok (.istore 5, 2) := by decide +kernel
theorem dL_law_1605 : decode cL_law 1605 = .ok (.aload_n 2, 1) := by decide +kernel
theorem dL_law_1606 : decode cL_law 1606 = .ok (.aload_n 0, 1) := by decide +kernel
theorem dL_law_1607 : decode cL_law 1607 = .ok (.iload 4, 2) := by decide +kernel
theorem dL_law_1609 : decode cL_law 1609 = .ok (.iconst 1, 1) := by decide +kernel
theorem dL_law_1610 : decode cL_law 1610 = .ok (.iadd, 1) := by decide +kernel
theorem dL_law_1611 : decode cL_law 1611 = .ok (.iaload, 1) := by decide +kernel
theorem dL_law_1612 : decode cL_law 1612 = .ok (.aload_n 0, 1) := by decide +kernel
theorem dL_law_1613 : decode cL_law 1613 = .ok (.iload 4, 2) := by decide +kernel
theorem dL_law_1615 : decode cL_law 1615 = .ok (.iconst 2, 1) := by decide +kernel
theorem dL_law_1616 : decode cL_law 1616 = .ok (.iadd, 1) := by decide +kernel
theorem dL_law_1617 : decode cL_law 1617 = .ok (.iaload, 1) := by decide +kernel
theorem dL_law_1618 : decode cL_law 1618 = .ok (.aload_n 0, 1) := by decide +kernel
theorem dL_law_1619 : decode cL_law 1619 = .ok (.iload 4, 2) := by decide +kernel
theorem dL_law_1621 : decode cL_law 1621 = .ok (.iconst 3, 1) := by decide +kernel
theorem dL_law_1622 : decode cL_law 1622 = .ok (.iadd, 1) := by decide +kernel
theorem dL_law_1623 : decode cL_law 1623 = .ok (.iaload, 1) := by decide +kernel
theorem dL_law_1624 : decode cL_law 1624 = .ok (.invokevirtual 277, 3) := by decide +kernel
theorem dL_law_1627 : decode cL_law 1627 = .ok (.istore 6, 2) := by decide +kernel
theorem dL_law_1629 : decode cL_law 1629 = .ok (.goto 926, 3) := by decide +kernel
theorem dL_law_1632 : decode cL_law 1632 = .ok (.aload_n 1, 1) := by decide +kernel
theorem dL_law_1633 : decode cL_law 1633 = .ok (.aload_n 0, 1) := by decide +kernel
theorem dL_law_1634 : decode cL_law 1634 = .ok (.iload 4, 2) := by decide +kernel
theorem dL_law_1636 : decode cL_law 1636 = .ok (.iconst 1, 1) := by decide +kernel
theorem dL_law_1637 : decode cL_law 1637 = .ok (.iadd, 1) := by decide +kernel
theorem dL_law_1638 : decode cL_law 1638 = .ok (.iaload, 1) := by decide +kernel
theorem dL_law_1639 : decode cL_law 1639 = .ok (.aload_n 0, 1) := by decide +kernel
theorem dL_law_1640 : decode cL_law 1640 = .ok (.iload 4, 2) := by decide +kernel
theorem dL_law_1642 : decode cL_law 1642 = .ok (.iconst 2, 1) := by decide +kernel
theorem dL_law_1643 : decode cL_law 1643 = .ok (.iadd, 1) := by decide +kernel
theorem dL_law_1644 : decode cL_law 1644 = .ok (.iaload, 1) := by decide +kernel
theorem dL_law_1645 : decode cL_law 1645 = .ok (.ifCond .eq 7, 3) := by decide +kernel
theorem dL_law_1648 : decode cL_law 1648 = .ok (.iconst 1, 1) := by decide +kernel
theorem dL_law_1649 : decode cL_law 1649 = .ok (.goto 4, 3) := by decide +kernel
theorem dL_law_1652 : decode cL_law 1652 = .ok (.iconst 0, 1) := by decide +kernel
theorem dL_law_1653 : decode cL_law 1653 = .ok (.aload_n 3, 1) := by decide +kernel
theorem dL_law_1654 : decode cL_law 1654 = .ok (.invokestatic 278, 3) := by decide +kernel
theorem dL_law_1657 : decode cL_law 1657 = .ok (.istore 5, 2) := by decide +kernel
theorem dL_law_1659 : decode cL_law 1659 = .ok (.aload_n 2, 1) := by decide +kernel
theorem dL_law_1660 : decode cL_law 1660 = .ok (.aload_n 0, 1) := by decide +kernel
theorem dL_law_1661 : decode cL_law 1661 = .ok (.iload 4, 2) := by decide +kernel
theorem dL_law_1663 : decode cL_law 1663 = .ok (.iconst 1, 1) := by decide +kernel
theorem dL_law_1664 : decode cL_law 1664 = .ok (.iadd, 1) := by decide +kernel
theorem dL_law_1665 : decode cL_law 1665 = .ok (.iaload, 1) := by decide +kernel
theorem dL_law_1666 : decode cL_law 1666 = .ok (.aload_n 0, 1) := by decide +kernel
theorem dL_law_1667 : decode cL_law 1667 = .ok (.iload 4, 2) := by decide +kernel
theorem dL_law_1669 : decode cL_law 1669 = .ok (.iconst 2, 1) := by decide +kernel
theorem dL_law_1670 : decode cL_law 1670 = .ok (.iadd, 1) := by decide +kernel
theorem dL_law_1671 : decode cL_law 1671 = .ok (.iaload, 1) := by decide +kernel
theorem dL_law_1672 : decode cL_law 1672 = .ok (.ifCond .eq 7, 3) := by decide +kernel
theorem dL_law_1675 : decode cL_law 1675 = .ok (.iconst 1, 1) := by decide +kernel
theorem dL_law_1676 : decode cL_law 1676 = .ok (.goto 4, 3) := by decide +kernel
theorem dL_law_1679 : decode cL_law 1679 = .ok (.iconst 0, 1) := by decide +kernel
theorem dL_law_1680 : decode cL_law 1680 = .ok (.invokevirtual 280, 3) := by decide +kernel
theorem dL_law_1683 : decode cL_law 1683 = .ok (.istore 6, 2) := by decide +kernel
theorem dL_law_1685 : decode cL_law 1685 = .ok (.goto 870, 3) := by decide +kernel
theorem dL_law_1688 : decode cL_law 1688 = .ok (.aload_n 1, 1) := by decide +kernel
theorem dL_law_1689 : decode cL_law 1689 = .ok (.aload_n 0, 1) := by decide +kernel
theorem dL_law_1690 : decode cL_law 1690 = .ok (.iload 4, 2) := by decide +kernel
theorem dL_law_1692 : decode cL_law 1692 = .ok (.iconst 1, 1) := by decide +kernel
theorem dL_law_1693 : decode cL_law 1693 = .ok (.iadd, 1) := by decide +kernel
theorem dL_law_1694 : decode cL_law 1694 = .ok (.iaload, 1) := by decide +kernel
theorem dL_law_1695 : decode cL_law 1695 = .ok (.aload_n 3, 1) := by decide +kernel
theorem dL_law_1696 : decode cL_law 1696 = .ok (.invokestatic 281, 3) := by decide +kernel
theorem dL_law_1699 : decode cL_law 1699 = .ok (.istore 5, 2) := by decide +kernel
theorem dL_law_1701 : decode cL_law 1701 = .ok (.aload_n 2, 1) := by decide +kernel
theorem dL_law_1702 : decode cL_law 1702 = .ok (.aload_n 0, 1) := by decide +kernel
theorem dL_law_1703 : decode cL_law 1703 = .ok (.iload 4, 2) := by decide +kernel
theorem dL_law_1705 : decode cL_law 1705 = .ok (.iconst 1, 1) := by decide +kernel
theorem dL_law_1706 : decode cL_law 1706 = .ok (.iadd, 1) := by decide +kernel
theorem dL_law_1707 : decode cL_law 1707 = .ok (.iaload, 1) := by decide +kernel
theorem dL_law_1708 : decode cL_law 1708 = .ok (.invokevirtual 283, 3) := by decide +kernel
theorem dL_law_1711 : decode cL_law 1711 = .ok (.istore 6, 2) := by decide +kernel
theorem dL_law_1713 : decode cL_law 1713 = .ok (.goto 842, 3) := by decide +kernel
theorem dL_law_1716 : decode cL_law 1716 = .ok (.aload_n 1, 1) := by decide +kernel
theorem dL_law_1717 : decode cL_law 1717 = .ok (.aload_n 0, 1) := by decide +kernel
theorem dL_law_1718 : decode cL_law 1718 = .ok (.iload 4, 2) := by decide +kernel
theorem dL_law_1720 : decode cL_law 1720 = .ok (.iconst 1, 1) := by decide +kernel
theorem dL_law_1721 : decode cL_law 1721 = .ok (.iadd, 1) := by decide +kernel
theorem dL_law_1722 : decode cL_law 1722 = .ok (.iaload, 1) := by decide +kernel
theorem dL_law_1723 : decode cL_law 1723 = .ok (.aload_n 3, 1) := by decide +kernel
theorem dL_law_1724 : decode cL_law 1724 = .ok (.invokestatic 284, 3) := by decide +kernel
theorem dL_law_1727 : decode cL_law 1727 = .ok (.istore 5, 2) := by decide +kernel
theorem dL_law_1729 : decode cL_law 1729 = .ok (.aload_n 2, 1) := by decide +kernel
theorem dL_law_1730 : decode cL_law 1730 = .ok (.aload_n 0, 1) := by decide +kernel
theorem dL_law_1731 : decode cL_law 1731 = .ok (.iload 4, 2) := by decide +kernel
theorem dL_law_1733 : decode cL_law 1733 = .ok (.iconst 1, 1) := by decide +kernel
theorem dL_law_1734 : decode cL_law 1734 = .ok (.iadd, 1) := by decide +kernel
theorem dL_law_1735 : decode cL_law 1735 = .ok (.iaload, 1) := by decide +kernel
theorem dL_law_1736 : decode cL_law 1736 = .ok (.invokevirtual 286, 3) := by decide +kernel
theorem dL_law_1739 : decode cL_law 1739 = .ok (.istore 6, 2) := by decide +kernel
theorem dL_law_1741 : decode cL_law 1741 = .ok (.goto 814, 3) := by decide +kernel
theorem dL_law_1744 : decode cL_law 1744 = .ok (.aload_n 1, 1) := by decide +kernel
theorem dL_law_1745 : decode cL_law 1745 = .ok (.aload_n 0, 1) := by decide +kernel
theorem dL_law_1746 : decode cL_law 1746 = .ok (.iload 4, 2) := by decide +kernel
theorem dL_law_1748 : decode cL_law 1748 = .ok (.iconst 1, 1) := by decide +kernel
theorem dL_law_1749 : decode cL_law 1749 = .ok (.iadd, 1) := by decide +kernel
theorem dL_law_1750 : decode cL_law 1750 = .ok (.iaload, 1) := by decide +kernel
theorem dL_law_1751 : decode cL_law 1751 = .ok (.aload_n 3, 1) := by decide +kernel
theorem dL_law_1752 : decode cL_law 1752 = .ok (.invokestatic 287, 3) := by decide +kernel
theorem dL_law_1755 : decode cL_law 1755 = .ok (.istore 5, 2) := by decide +kernel
theorem dL_law_1757 : decode cL_law 1757 = .ok (.aload_n 2, 1) := by decide +kernel
theorem dL_law_1758 : decode cL_law 1758 = .ok (.aload_n 0, 1) := by decide +kernel
theorem dL_law_1759 : decode cL_law 1759 = .ok (.iload 4, 2) := by decide +kernel
theorem dL_law_1761 : decode cL_law 1761 = .ok (.iconst 1, 1) := by decide +kernel
theorem dL_law_1762 : decode cL_law 1762 = .ok (.iadd, 1) := by decide +kernel
theorem dL_law_1763 : decode cL_law 1763 = .ok (.iaload, 1) := by decide +kernel
theorem dL_law_1764 : decode cL_law 1764 = .ok (.invokevirtual 289, 3) := by decide +kernel
theorem dL_law_1767 : decode cL_law 1767 = .ok (.istore 6, 2) := by decide +kernel
theorem dL_law_1769 : decode cL_law 1769 = .ok (.goto 786, 3) := by decide +kernel
theorem dL_law_1772 : decode cL_law 1772 = .ok (.aload_n 1, 1) := by decide +kernel
theorem dL_law_1773 : decode cL_law 1773 = .ok (.aload_n 3, 1) := by decide +kernel
theorem dL_law_1774 : decode cL_law 1774 = .ok (.invokestatic 290, 3) := by decide +kernel
theorem dL_law_1777 : decode cL_law 1777 = .ok (.istore 5, 2) := by decide +kernel
theorem dL_law_1779 : decode cL_law 1779 = .ok (.aload_n 2, 1) := by decide +kernel
theorem dL_law_1780 : decode cL_law 1780 = .ok (.invokevirtual 293, 3) := by decide +kernel
theorem dL_law_1783 : decode cL_law 1783 = .ok (.istore 6, 2) := by decide +kernel
theorem dL_law_1785 : decode cL_law 1785 = .ok (.goto 770, 3) := by decide +kernel
theorem dL_law_1788 : decode cL_law 1788 = .ok (.aload_n 1, 1) := by decide +kernel
theorem dL_law_1789 : decode cL_law 1789 = .ok (.aload_n 0, 1) := by decide +kernel
theorem dL_law_1790 : decode cL_law 1790 = .ok (.iload 4, 2) := by decide +kernel
theorem dL_law_1792 : decode cL_law 1792 = .ok (.iconst 1, 1) := by decide +kernel
theorem dL_law_1793 : decode cL_law 1793 = .ok (.iadd, 1) := by decide +kernel
theorem dL_law_1794 : decode cL_law 1794 = .ok (.iaload, 1) := by decide +kernel
theorem dL_law_1795 : decode cL_law 1795 = .ok (.aload_n 3, 1) := by decide +kernel
theorem dL_law_1796 : decode cL_law 1796 = .ok (.invokestatic 294, 3) := by decide +kernel
theorem dL_law_1799 : decode cL_law 1799 = .ok (.istore 5, 2) := by decide +kernel
theorem dL_law_1801 : decode cL_law 1801 = .ok (.aload_n 2, 1) := by decide +kernel
theorem dL_law_1802 : decode cL_law 1802 = .ok (.aload_n 0, 1) := by decide +kernel
theorem dL_law_1803 : decode cL_law 1803 = .ok (.iload 4, 2) := by decide +kernel
theorem dL_law_1805 : decode cL_law 1805 = .ok (.iconst 1, 1) := by decide +kernel
theorem dL_law_1806 : decode cL_law 1806 = .ok (.iadd, 1) := by decide +kernel
theorem dL_law_1807 : decode cL_law 1807 = .ok (.iaload, 1) := by decide +kernel
theorem dL_law_1808 : decode cL_law 1808 = .ok (.invokevirtual 296, 3) := by decide +kernel
theorem dL_law_1811 : decode cL_law 1811 = .ok (.istore 6, 2) := by decide +kernel
theorem dL_law_1813 : decode cL_law 1813 = .ok (.goto 742, 3) := by decide +kernel
theorem dL_law_1816 : decode cL_law 1816 = .ok (.aload_n 1, 1) := by decide +kernel
theorem dL_law_1817 : decode cL_law 1817 = .ok (.aload_n 3, 1) := by decide +kernel
theorem dL_law_1818 : decode cL_law 1818 = .ok (.invokestatic 297, 3) := by decide +kernel
theorem dL_law_1821 : decode cL_law 1821 = .ok (.istore 5, 2) := by decide +kernel
theorem dL_law_1823 : decode cL_law 1823 = .ok (.aload_n 2, 1) := by decide +kernel
theorem dL_law_1824 : decode cL_law 1824 = .ok (.invokevirtual 299, 3) := by decide +kernel
theorem dL_law_1827 : decode cL_law 1827 = .ok (.istore 6, 2) := by decide +kernel
theorem dL_law_1829 : decode cL_law 1829 = .ok (.goto 726, 3) := by decide +kernel
theorem dL_law_1832 : decode cL_law 1832 = .ok (.aload_n 1, 1) := by decide +kernel
theorem dL_law_1833 : decode cL_law 1833 = .ok (.aload_n 0, 1) := by decide +kernel
theorem dL_law_1834 : decode cL_law 1834 = .ok (.iload 4, 2) := by decide +kernel
theorem dL_law_1836 : decode cL_law 1836 = .ok (.iconst 1, 1) := by decide +kernel
theorem dL_law_1837 : decode cL_law 1837 = .ok (.iadd, 1) := by decide +kernel
theorem dL_law_1838 : decode cL_law 1838 = .ok (.iaload, 1) := by decide +kernel
theorem dL_law_1839 : decode cL_law 1839 = .ok (.aload_n 0, 1) := by decide +kernel
theorem dL_law_1840 : decode cL_law 1840 = .ok (.iload 4, 2) := by decide +kernel
theorem dL_law_1842 : decode cL_law 1842 = .ok (.iconst 2, 1) := by decide +kernel
theorem dL_law_1843 : decode cL_law 1843 = .ok (.iadd, 1) := by decide +kernel
theorem dL_law_1844 : decode cL_law 1844 = .ok (.iaload, 1) := by decide +kernel
theorem dL_law_1845 : decode cL_law 1845 = .ok (.ifCond .eq 7, 3) := by decide +kernel
theorem dL_law_1848 : decode cL_law 1848 = .ok (.iconst 1, 1) := by decide +kernel
theorem dL_law_1849 : decode cL_law 1849 = .ok (.goto 4, 3) := by decide +kernel
theorem dL_law_1852 : decode cL_law 1852 = .ok (.iconst 0, 1) := by decide +kernel
theorem dL_law_1853 : decode cL_law 1853 = .ok (.aload_n 3, 1) := by decide +kernel
theorem dL_law_1854 : decode cL_law 1854 = .ok (.invokestatic 300, 3) := by decide +kernel
theorem dL_law_1857 : decode cL_law 1857 = .ok (.istore 5, 2) := by decide +kernel
theorem dL_law_1859 : decode cL_law 1859 = .ok (.aload_n 2, 1) := by decide +kernel
theorem dL_law_1860 : decode cL_law 1860 = .ok (.aload_n 0, 1) := by decide +kernel
theorem dL_law_1861 : decode cL_law 1861 = .ok (.iload 4, 2) := by decide +kernel
theorem dL_law_1863 : decode cL_law 1863 = .ok (.iconst 1, 1) := by decide +kernel
theorem dL_law_1864 : decode cL_law 1864 = .ok (.iadd, 1) := by decide +kernel
theorem dL_law_1865 : decode cL_law 1865 = .ok (.iaload, 1) := by decide +kernel
theorem dL_law_1866 : decode cL_law 1866 = .ok (.aload_n 0, 1) := by decide +kernel
theorem dL_law_1867 : decode cL_law 1867 = .ok (.iload 4, 2) := by decide +kernel
theorem dL_law_1869 : decode cL_law 1869 = .ok (.iconst 2, 1) := by decide +kernel
theorem dL_law_1870 : decode cL_law 1870 = .ok (.iadd, 1) := by decide +kernel
theorem dL_law_1871 : decode cL_law 1871 = .ok (.iaload, 1) := by decide +kernel
theorem dL_law_1872 : decode cL_law 1872 = .ok (.ifCond .eq 7, 3) := by decide +kernel
theorem dL_law_1875 : decode cL_law 1875 = .ok (.iconst 1, 1) := by decide +kernel
theorem dL_law_1876 : decode cL_law 1876 = .ok (.goto 4, 3) := by decide +kernel
theorem dL_law_1879 : decode cL_law 1879 = .ok (.iconst 0, 1) := by decide +kernel
theorem dL_law_1880 : decode cL_law 1880 = .ok (.invokevirtual 302, 3) := by decide +kernel
theorem dL_law_1883 : decode cL_law 1883 = .ok (.istore 6, 2) := by decide +kernel
theorem dL_law_1885 : decode cL_law 1885 = .ok (.goto 670, 3) := by decide +kernel
theorem dL_law_1888 : decode cL_law 1888 = .ok (.aload_n 1, 1) := by decide +kernel
theorem dL_law_1889 : decode cL_law 1889 = .ok (.aload_n 0, 1) := by decide +kernel
theorem dL_law_1890 : decode cL_law 1890 = .ok (.iload 4, 2) := by decide +kernel
theorem dL_law_1892 : decode cL_law 1892 = .ok (.iconst 1, 1) := by decide +kernel
theorem dL_law_1893 : decode cL_law 1893 = .ok (.iadd, 1) := by decide +kernel
theorem dL_law_1894 : decode cL_law 1894 = .ok (.iaload, 1) := by decide +kernel
theorem dL_law_1895 : decode cL_law 1895 = .ok (.aload_n 3, 1) := by decide +kernel
theorem dL_law_1896 : decode cL_law 1896 = .ok (.invokestatic 303, 3) := by decide +kernel
theorem dL_law_1899 : decode cL_law 1899 = .ok (.istore 5, 2) := by decide +kernel
theorem dL_law_1901 : decode cL_law 1901 = .ok (.aload_n 2, 1) := by decide +kernel
theorem dL_law_1902 : decode cL_law 1902 = .ok (.aload_n 0, 1) := by decide +kernel
theorem dL_law_1903 : decode cL_law 1903 = .ok (.iload 4, 2) := by decide +kernel
theorem dL_law_1905 : decode cL_law 1905 = .ok (.iconst 1, 1) := by decide +kernel
theorem dL_law_1906 : decode cL_law 1906 = .ok (.iadd, 1) := by decide +kernel
theorem dL_law_1907 : decode cL_law 1907 = .ok (.iaload, 1) := by decide +kernel
theorem dL_law_1908 : decode cL_law 1908 = .ok (.invokevirtual 305, 3) := by decide +kernel
theorem dL_law_1911 : decode cL_law 1911 = .ok (.istore 6, 2) := by decide +kernel
theorem dL_law_1913 : decode cL_law 1913 = .ok (.goto 642, 3) := by decide +kernel
theorem dL_law_1916 : decode cL_law 1916 = .ok (.aload_n 1, 1) := by decide +kernel
theorem dL_law_1917 : decode cL_law 1917 = .ok (.invokevirtual 306, 3) := by decide +kernel
theorem dL_law_1920 : decode cL_law 1920 = .ok (.aload_n 2, 1) := by decide +kernel
theorem dL_law_1921 : decode cL_law 1921 = .ok (.invokevirtual 309, 3) := by decide +kernel
theorem dL_law_1924 : decode cL_law 1924 = .ok (.if_icmp .eq 631, 3) := by decide +kernel
theorem dL_law_1927 : decode cL_law 1927 = .ok (.iconst 0, 1) := by decide +kernel
theorem dL_law_1928 : decode cL_law 1928 = .ok (.ireturn, 1) := by decide +kernel
theorem dL_law_1929 : decode cL_law 1929 = .ok (.aload_n 1, 1) := by decide +kernel
theorem dL_law_1930 : decode cL_law 1930 = .ok (.aload_n 0, 1) := by decide +kernel
theorem dL_law_1931 : decode cL_law 1931 = .ok (.iload 4, 2) := by decide +kernel
theorem dL_law_1933 : decode cL_law 1933 = .ok (.iconst 1, 1) := by decide +kernel
theorem dL_law_1934 : decode cL_law 1934 = .ok (.iadd, 1) := by decide +kernel
theorem dL_law_1935 : decode cL_law 1935 = .ok (.iaload, 1) := by decide +kernel
theorem dL_law_1936 : decode cL_law 1936 = .ok (.aload_n 0, 1) := by decide +kernel
theorem dL_law_1937 : decode cL_law 1937 = .ok (.iload 4, 2) := by decide +kernel
theorem dL_law_1939 : decode cL_law 1939 = .ok (.iconst 2, 1) := by decide +kernel
theorem dL_law_1940 : decode cL_law 1940 = .ok (.iadd, 1) := by decide +kernel
theorem dL_law_1941 : decode cL_law 1941 = .ok (.iaload, 1) := by decide +kernel
theorem dL_law_1942 : decode cL_law 1942 = .ok (.aload_n 3, 1) := by decide +kernel
theorem dL_law_1943 : decode cL_law 1943 = .ok (.invokestatic 310, 3) := by decide +kernel
theorem dL_law_1946 : decode cL_law 1946 = .ok (.istore 5, 2) := by decide +kernel
theorem dL_law_1948 : decode cL_law 1948 = .ok (.aload_n 2, 1) := by decide +kernel
theorem dL_law_1949 : decode cL_law 1949 = .ok (.aload_n 0, 1) := by decide +kernel
theorem dL_law_1950 : decode cL_law 1950 = .ok (.iload 4, 2) := by decide +kernel
theorem dL_law_1952 : decode cL_law 1952 = .ok (.iconst 1, 1) := by decide +kernel
theorem dL_law_1953 : decode cL_law 1953 = .ok (.iadd, 1) := by decide +kernel
theorem dL_law_1954 : decode cL_law 1954 = .ok (.iaload, 1) := by decide +kernel
theorem dL_law_1955 : decode cL_law 1955 = .ok (.aload_n 0, 1) := by decide +kernel
theorem dL_law_1956 : decode cL_law 1956 = .ok (.iload 4, 2) := by decide +kernel
theorem dL_law_1958 : decode cL_law 1958 = .ok (.iconst 2, 1) := by decide +kernel
theorem dL_law_1959 : decode cL_law 1959 = .ok (.iadd, 1) := by decide +kernel
theorem dL_law_1960 : decode cL_law 1960 = .ok (.iaload, 1) := by decide +kernel
theorem dL_law_1961 : decode cL_law 1961 = .ok (.invokevirtual 312, 3) := by decide +kernel
theorem dL_law_1964 : decode cL_law 1964 = .ok (.istore 6, 2) := by decide +kernel
theorem dL_law_1966 : decode cL_law 1966 = .ok (.goto 589, 3) := by decide +kernel
theorem dL_law_1969 : decode cL_law 1969 = .ok (.aload_n 1, 1) := by decide +kernel
theorem dL_law_1970 : decode cL_law 1970 = .ok (.aload_n 0, 1) := by decide +kernel
theorem dL_law_1971 : decode cL_law 1971 = .ok (.iload 4, 2) := by decide +kernel
theorem dL_law_1973 : decode cL_law 1973 = .ok (.iconst 1, 1) := by decide +kernel
theorem dL_law_1974 : decode cL_law 1974 = .ok (.iadd, 1) := by decide +kernel
theorem dL_law_1975 : decode cL_law 1975 = .ok (.iaload, 1) := by decide +kernel
theorem dL_law_1976 : decode cL_law 1976 = .ok (.aload_n 0, 1) := by decide +kernel
theorem dL_law_1977 : decode cL_law 1977 = .ok (.iload 4, 2) := by decide +kernel
theorem dL_law_1979 : decode cL_law 1979 = .ok (.iconst 2, 1) := by decide +kernel
theorem dL_law_1980 : decode cL_law 1980 = .ok (.iadd, 1) := by decide +kernel
theorem dL_law_1981 : decode cL_law 1981 = .ok (.iaload, 1) := by decide +kernel
theorem dL_law_1982 : decode cL_law 1982 = .ok (.aload_n 0, 1) := by decide +kernel
theorem dL_law_1983 : decode cL_law 1983 = .ok (.iload 4, 2) := by decide +kernel
theorem dL_law_1985 : decode cL_law 1985 = .ok (.iconst 3, 1) := by decide +kernel
theorem dL_law_1986 : decode cL_law 1986 = .ok (.iadd, 1) := by decide +kernel
theorem dL_law_1987 : decode cL_law 1987 = .ok (.iaload, 1) := by decide +kernel
theorem dL_law_1988 : decode cL_law 1988 = .ok (.aload_n 3, 1) := by decide +kernel
theorem dL_law_1989 : decode cL_law 1989 = .ok (.invokestatic 313, 3) := by decide +kernel
theorem dL_law_1992 : decode cL_law 1992 = .ok (.istore 5, 2) := by decide +kernel
theorem dL_law_1994 : decode cL_law 1994 = .ok (.aload_n 2, 1) := by decide +kernel
theorem dL_law_1995 : decode cL_law 1995 = .ok (.aload_n 0, 1) := by decide +kernel
theorem dL_law_1996 : decode cL_law 1996 = .ok (.iload 4, 2) := by decide +kernel
theorem dL_law_1998 : decode cL_law 1998 = .ok (.iconst 1, 1) := by decide +kernel
theorem dL_law_1999 : decode cL_law 1999 = .ok (.iadd, 1) := by decide +kernel
theorem dL_law_2000 : decode cL_law 2000 = .ok (.iaload, 1) := by decide +kernel
theorem dL_law_2001 : decode cL_law 2001 = .ok (.aload_n 0, 1) := by decide +kernel
theorem dL_law_2002 : decode cL_law 2002 = .ok (.iload 4, 2) := by decide +kernel
theorem dL_law_2004 : decode cL_law 2004 = .ok (.iconst 2, 1) := by decide +kernel
theorem dL_law_2005 : decode cL_law 2005 = .ok (.iadd, 1) := by decide +kernel
theorem dL_law_2006 : decode cL_law 2006 = .ok (.iaload, 1) := by decide +kernel
theorem dL_law_2007 : decode cL_law 2007 = .ok (.aload_n 0, 1) := by decide +kernel
theorem dL_law_2008 : decode cL_law 2008 = .ok (.iload 4, 2) := by decide +kernel
theorem dL_law_2010 : decode cL_law 2010 = .ok (.iconst 3, 1) := by decide +kernel
theorem dL_law_2011 : decode cL_law 2011 = .ok (.iadd, 1) := by decide +kernel
theorem dL_law_2012 : decode cL_law 2012 = .ok (.iaload, 1) := by decide +kernel
theorem dL_law_2013 : decode cL_law 2013 = .ok (.invokevirtual 315, 3) := by decide +kernel
theorem dL_law_2016 : decode cL_law 2016 = .ok (.istore 6, 2) := by decide +kernel
theorem dL_law_2018 : decode cL_law 2018 = .ok (.goto 537, 3) := by decide +kernel
theorem dL_law_2021 : decode cL_law 2021 = .ok (.aload_n 1, 1) := by decide +kernel
theorem dL_law_2022 : decode cL_law 2022 = .ok (.aload_n 0, 1) := by decide +kernel
theorem dL_law_2023 : decode cL_law 2023 = .ok (.iload 4, 2) := by decide +kernel
theorem dL_law_2025 : decode cL_law 2025 = .ok (.iconst 1, 1) := by decide +kernel
theorem dL_law_2026 : decode cL_law 2026 = .ok (.iadd, 1) := by decide +kernel
theorem dL_law_2027 : decode cL_law 2027 = .ok (.iaload, 1) := by decide +kernel
theorem dL_law_2028 : decode cL_law 2028 = .ok (.aload_n 0, 1) := by decide +kernel
theorem dL_law_2029 : decode cL_law 2029 = .ok (.iload 4, 2) := by decide +kernel
theorem dL_law_2031 : decode cL_law 2031 = .ok (.iconst 2, 1) := by decide +kernel
theorem dL_law_2032 : decode cL_law 2032 = .ok (.iadd, 1) := by decide +kernel
theorem dL_law_2033 : decode cL_law 2033 = .ok (.iaload, 1) := by decide +kernel
theorem dL_law_2034 : decode cL_law 2034 = .ok (.aload_n 3, 1) := by decide +kernel
theorem dL_law_2035 : decode cL_law 2035 = .ok (.invokestatic 316, 3) := by decide +kernel
theorem dL_law_2038 : decode cL_law 2038 = .ok (.istore 5, 2) := by decide +kernel
theorem dL_law_2040 : decode cL_law 2040 = .ok (.aload_n 2, 1) := by decide +kernel
theorem dL_law_2041 : decode cL_law 2041 = .ok (.aload_n 0, 1) := by decide +kernel
theorem dL_law_2042 : decode cL_law 2042 = .ok (.iload 4, 2) := by decide +kernel
theorem dL_law_2044 : decode cL_law 2044 = .ok (.iconst 1, 1) := by decide +kernel
theorem dL_law_2045 : decode cL_law 2045 = .ok (.iadd, 1) := by decide +kernel
theorem dL_law_2046 : decode cL_law 2046 = .ok (.iaload, 1) := by decide +kernel
theorem dL_law_2047 : decode cL_law 2047 = .ok (.aload_n 0, 1) := by decide +kernel
theorem dL_law_2048 : decode cL_law 2048 = .ok (.iload 4, 2) := by decide +kernel
theorem dL_law_2050 : decode cL_law 2050 = .ok (.iconst 2, 1) := by decide +kernel
theorem dL_law_2051 : decode cL_law 2051 = .ok (.iadd, 1) := by decide +kernel
theorem dL_law_2052 : decode cL_law 2052 = .ok (.iaload, 1) := by decide +kernel
theorem dL_law_2053 : decode cL_law 2053 = .ok (.invokevirtual 318, 3) := by decide +kernel
theorem dL_law_2056 : decode cL_law 2056 = .ok (.istore 6, 2) := by decide +kernel
theorem dL_law_2058 : decode cL_law 2058 = .ok (.goto 497, 3) := by decide +kernel
theorem dL_law_2061 : decode cL_law 2061 = .ok (.aload_n 1, 1) := by decide +kernel
theorem dL_law_2062 : decode cL_law 2062 = .ok (.aload_n 0, 1) := by decide +kernel
theorem dL_law_2063 : decode cL_law 2063 = .ok (.iload 4, 2) := by decide +kernel
theorem dL_law_2065 : decode cL_law 2065 = .ok (.iconst 1, 1) := by decide +kernel
theorem dL_law_2066 : decode cL_law 2066 = .ok (.iadd, 1) := by decide +kernel
theorem dL_law_2067 : decode cL_law 2067 = .ok (.iaload, 1) := by decide +kernel
theorem dL_law_2068 : decode cL_law 2068 = .ok (.aload_n 0, 1) := by decide +kernel
theorem dL_law_2069 : decode cL_law 2069 = .ok (.iload 4, 2) := by decide +kernel
theorem dL_law_2071 : decode cL_law 2071 = .ok (.iconst 2, 1) := by decide +kernel
theorem dL_law_2072 : decode cL_law 2072 = .ok (.iadd, 1) := by decide +kernel
theorem dL_law_2073 : decode cL_law 2073 = .ok (.iaload, 1) := by decide +kernel
theorem dL_law_2074 : decode cL_law 2074 = .ok (.aload_n 3, 1) := by decide +kernel
theorem dL_law_2075 : decode cL_law 2075 = .ok (.invokestatic 319, 3) := by decide +kernel
theorem dL_law_2078 : decode cL_law 2078 = .ok (.istore 5, 2) := by decide +kernel
theorem dL_law_2080 : decode cL_law 2080 = .ok (.aload_n 2, 1) := by decide +kernel
theorem dL_law_2081 : decode cL_law 2081 = .ok (.aload_n 0, 1) := by decide +kernel
theorem dL_law_2082 : decode cL_law 2082 = .ok (.iload 4, 2) := by decide +kernel
theorem dL_law_2084 : decode cL_law 2084 = .ok (.iconst 1, 1) := by decide +kernel
theorem dL_law_2085 : decode cL_law 2085 = .ok (.iadd, 1) := by decide +kernel
theorem dL_law_2086 : decode cL_law 2086 = .ok (.iaload, 1) := by decide +kernel
theorem dL_law_2087 : decode cL_law 2087 = .ok (.aload_n 0, 1) := by decide +kernel
theorem dL_law_2088 : decode cL_law 2088 = .ok (.iload 4, 2) := by decide +kernel
theorem dL_law_2090 : decode cL_law 2090 = .ok (.iconst 2, 1) := by decide +kernel
theorem dL_law_2091 : decode cL_law 2091 = .ok (.iadd, 1) := by decide +kernel
theorem dL_law_2092 : decode cL_law 2092 = .ok (.iaload, 1) := by decide +kernel
theorem dL_law_2093 : decode cL_law 2093 = .ok (.invokevirtual 321, 3) := by decide +kernel
theorem dL_law_2096 : decode cL_law 2096 = .ok (.istore 6, 2) := by decide +kernel
theorem dL_law_2098 : decode cL_law 2098 = .ok (.goto 457, 3) := by decide +kernel
theorem dL_law_2101 : decode cL_law 2101 = .ok (.aload_n 1, 1) := by decide +kernel
theorem dL_law_2102 : decode cL_law 2102 = .ok (.aload_n 0, 1) := by decide +kernel
theorem dL_law_2103 : decode cL_law 2103 = .ok (.iload 4, 2) := by decide +kernel
theorem dL_law_2105 : decode cL_law 2105 = .ok (.iconst 1, 1) := by decide +kernel
theorem dL_law_2106 : decode cL_law 2106 = .ok (.iadd, 1) := by decide +kernel
theorem dL_law_2107 : decode cL_law 2107 = .ok (.iaload, 1) := by decide +kernel
theorem dL_law_2108 : decode cL_law 2108 = .ok (.aload_n 0, 1) := by decide +kernel
theorem dL_law_2109 : decode cL_law 2109 = .ok (.iload 4, 2) := by decide +kernel
theorem dL_law_2111 : decode cL_law 2111 = .ok (.iconst 2, 1) := by decide +kernel
theorem dL_law_2112 : decode cL_law 2112 = .ok (.iadd, 1) := by decide +kernel
theorem dL_law_2113 : decode cL_law 2113 = .ok (.iaload, 1) := by decide +kernel
theorem dL_law_2114 : decode cL_law 2114 = .ok (.aload_n 3, 1) := by decide +kernel
theorem dL_law_2115 : decode cL_law 2115 = .ok (.invokestatic 322, 3) := by decide +kernel
theorem dL_law_2118 : decode cL_law 2118 = .ok (.istore 5, 2) := by decide +kernel
theorem dL_law_2120 : decode cL_law 2120 = .ok (.aload_n 2, 1) := by decide +kernel
theorem dL_law_2121 : decode cL_law 2121 = .ok (.aload_n 0, 1) := by decide +kernel
theorem dL_law_2122 : decode cL_law 2122 = .ok (.iload 4, 2) := by decide +kernel
theorem dL_law_2124 : decode cL_law 2124 = .ok (.iconst 1, 1) := by decide +kernel
theorem dL_law_2125 : decode cL_law 2125 = .ok (.iadd, 1) := by decide +kernel
theorem dL_law_2126 : decode cL_law 2126 = .ok (.iaload, 1) := by decide +kernel
theorem dL_law_2127 : decode cL_law 2127 = .ok (.aload_n 0, 1) := by decide +kernel
theorem dL_law_2128 : decode cL_law 2128 = .ok (.iload 4, 2) := by decide +kernel
theorem dL_law_2130 : decode cL_law 2130 = .ok (.iconst 2, 1) := by decide +kernel
theorem dL_law_2131 : decode cL_law 2131 = .ok (.iadd, 1) := by decide +kernel
theorem dL_law_2132 : decode cL_law 2132 = .ok (.iaload, 1) := by decide +kernel
theorem dL_law_2133 : decode cL_law 2133 = .ok (.invokevirtual 324, 3) := by decide +kernel
theorem dL_law_2136 : decode cL_law 2136 = .ok (.istore 6, 2) := by decide +kernel
theorem dL_law_2138 : decode cL_law 2138 = .ok (.goto 417, 3) := by decide +kernel
theorem dL_law_2141 : decode cL_law 2141 = .ok (.aload_n 1, 1) := by decide +kernel
theorem dL_law_2142 : decode cL_law 2142 = .ok (.aload_n 0, 1) := by decide +kernel
theorem dL_law_2143 : decode cL_law 2143 = .ok (.iload 4, 2) := by decide +kernel
theorem dL_law_2145 : decode cL_law 2145 = .ok (.iconst 1, 1) := by decide +kernel
theorem dL_law_2146 : decode cL_law 2146 = .ok (.iadd, 1) := by decide +kernel
theorem dL_law_2147 : decode cL_law 2147 = .ok (.iaload, 1) := by decide +kernel
theorem dL_law_2148 : decode cL_law 2148 = .ok (.aload_n 0, 1) := by decide +kernel
theorem dL_law_2149 : decode cL_law 2149 = .ok (.iload 4, 2) := by decide +kernel
theorem dL_law_2151 : decode cL_law 2151 = .ok (.iconst 2, 1) := by decide +kernel
theorem dL_law_2152 : decode cL_law 2152 = .ok (.iadd, 1) := by decide +kernel
theorem dL_law_2153 : decode cL_law 2153 = .ok (.iaload, 1) := by decide +kernel
theorem dL_law_2154 : decode cL_law 2154 = .ok (.aload_n 0, 1) := by decide +kernel
theorem dL_law_2155 : decode cL_law 2155 = .ok (.iload 4, 2) := by decide +kernel
theorem dL_law_2157 : decode cL_law 2157 = .ok (.iconst 3, 1) := by decide +kernel
theorem dL_law_2158 : decode cL_law 2158 = .ok (.iadd, 1) := by decide +kernel
theorem dL_law_2159 : decode cL_law 2159 = .ok (.iaload, 1) := by decide +kernel
theorem dL_law_2160 : decode cL_law 2160 = .ok (.aload_n 3, 1) := by decide +kernel
theorem dL_law_2161 : decode cL_law 2161 = .ok (.invokestatic 325, 3) := by decide +kernel
theorem dL_law_2164 : decode cL_law 2164 = .ok (.istore 5, 2) := by decide +kernel
theorem dL_law_2166 : decode cL_law 2166 = .ok (.aload_n 2, 1) := by decide +kernel
theorem dL_law_2167 : decode cL_law 2167 = .ok (.aload_n 0, 1) := by decide +kernel
theorem dL_law_2168 : decode cL_law 2168 = .ok (.iload 4, 2) := by decide +kernel
theorem dL_law_2170 : decode cL_law 2170 = .ok (.iconst 1, 1) := by decide +kernel
theorem dL_law_2171 : decode cL_law 2171 = .ok (.iadd, 1) := by decide +kernel
theorem dL_law_2172 : decode cL_law 2172 = .ok (.iaload, 1) := by decide +kernel
theorem dL_law_2173 : decode cL_law 2173 = .ok (.aload_n 0, 1) := by decide +kernel
theorem dL_law_2174 : decode cL_law 2174 = .ok (.iload 4, 2) := by decide +kernel
theorem dL_law_2176 : decode cL_law 2176 = .ok (.iconst 2, 1) := by decide +kernel
theorem dL_law_2177 : decode cL_law 2177 = .ok (.iadd, 1) := by decide +kernel
theorem dL_law_2178 : decode cL_law 2178 = .ok (.iaload, 1) := by decide +kernel
theorem dL_law_2179 : decode cL_law 2179 = .ok (.aload_n 0, 1) := by decide +kernel
theorem dL_law_2180 : decode cL_law 2180 = .ok (.iload 4, 2) := by decide +kernel
theorem dL_law_2182 : decode cL_law 2182 = .ok (.iconst 3, 1) := by decide +kernel
theorem dL_law_2183 : decode cL_law 2183 = .ok (.iadd, 1) := by decide +kernel
theorem dL_law_2184 : decode cL_law 2184 = .ok (.iaload, 1) := by decide +kernel
theorem dL_law_2185 : decode cL_law 2185 = .ok (.invokevirtual 327, 3) := by decide +kernel
theorem dL_law_2188 : decode cL_law 2188 = .ok (.istore 6, 2) := by decide +kernel
theorem dL_law_2190 : decode cL_law 2190 = .ok (.goto 365, 3) := by decide +kernel
theorem dL_law_2193 : decode cL_law 2193 = .ok (.aload_n 1, 1) := by decide +kernel
theorem dL_law_2194 : decode cL_law 2194 = .ok (.aload_n 0, 1) := by decide +kernel
theorem dL_law_2195 : decode cL_law 2195 = .ok (.iload 4, 2) := by decide +kernel
theorem dL_law_2197 : decode cL_law 2197 = .ok (.iconst 1, 1) := by decide +kernel
theorem dL_law_2198 : decode cL_law 2198 = .ok (.iadd, 1) := by decide +kernel
theorem dL_law_2199 : decode cL_law 2199 = .ok (.iaload, 1) := by decide +kernel
theorem dL_law_2200 : decode cL_law 2200 = .ok (.aload_n 0, 1) := by decide +kernel
theorem dL_law_2201 : decode cL_law 2201 = .ok (.iload 4, 2) := by decide +kernel
theorem dL_law_2203 : decode cL_law 2203 = .ok (.iconst 2, 1) := by decide +kernel
theorem dL_law_2204 : decode cL_law 2204 = .ok (.iadd, 1) := by decide +kernel
theorem dL_law_2205 : decode cL_law 2205 = .ok (.iaload, 1) := by decide +kernel
theorem dL_law_2206 : decode cL_law 2206 = .ok (.aload_n 3, 1) := by decide +kernel
theorem dL_law_2207 : decode cL_law 2207 = .ok (.invokestatic 328, 3) := by decide +kernel
theorem dL_law_2210 : decode cL_law 2210 = .ok (.istore 5, 2) := by decide +kernel
theorem dL_law_2212 : decode cL_law 2212 = .ok (.aload_n 2, 1) := by decide +kernel
theorem dL_law_2213 : decode cL_law 2213 = .ok (.aload_n 0, 1) := by decide +kernel
theorem dL_law_2214 : decode cL_law 2214 = .ok (.iload 4, 2) := by decide +kernel
theorem dL_law_2216 : decode cL_law 2216 = .ok (.iconst 1, 1) := by decide +kernel
theorem dL_law_2217 : decode cL_law 2217 = .ok (.iadd, 1) := by decide +kernel
theorem dL_law_2218 : decode cL_law 2218 = .ok (.iaload, 1) := by decide +kernel
theorem dL_law_2219 : decode cL_law 2219 = .ok (.aload_n 0, 1) := by decide +kernel
theorem dL_law_2220 : decode cL_law 2220 = .ok (.iload 4, 2) := by decide +kernel
theorem dL_law_2222 : decode cL_law 2222 = .ok (.iconst 2, 1) := by decide +kernel
theorem dL_law_2223 : decode cL_law 2223 = .ok (.iadd, 1) := by decide +kernel
theorem dL_law_2224 : decode cL_law 2224 = .ok (.iaload, 1) := by decide +kernel
theorem dL_law_2225 : decode cL_law 2225 = .ok (.invokevirtual 330, 3) := by decide +kernel
theorem dL_law_2228 : decode cL_law 2228 = .ok (.istore 6, 2) := by decide +kernel
theorem dL_law_2230 : decode cL_law 2230 = .ok (.goto 325, 3) := by decide +kernel
theorem dL_law_2233 : decode cL_law 2233 = .ok (.aload_n 1, 1) := by decide +kernel
theorem dL_law_2234 : decode cL_law 2234 = .ok (.aload_n 0, 1) := by decide +kernel
theorem dL_law_2235 : decode cL_law 2235 = .ok (.iload 4, 2) := by decide +kernel
theorem dL_law_2237 : decode cL_law 2237 = .ok (.iconst 1, 1) := by decide +kernel
theorem dL_law_2238 : decode cL_law 2238 = .ok (.iadd, 1) := by decide +kernel
theorem dL_law_2239 : decode cL_law 2239 = .ok (.iaload, 1) := by decide +kernel
theorem dL_law_2240 : decode cL_law 2240 = .ok (.aload_n 0, 1) := by decide +kernel
theorem dL_law_2241 : decode cL_law 2241 = .ok (.iload 4, 2) := by decide +kernel
theorem dL_law_2243 : decode cL_law 2243 = .ok (.iconst 2, 1) := by decide +kernel
theorem dL_law_2244 : decode cL_law 2244 = .ok (.iadd, 1) := by decide +kernel
theorem dL_law_2245 : decode cL_law 2245 = .ok (.iaload, 1) := by decide +kernel
theorem dL_law_2246 : decode cL_law 2246 = .ok (.aload_n 3, 1) := by decide +kernel
theorem dL_law_2247 : decode cL_law 2247 = .ok (.invokestatic 331, 3) := by decide +kernel
theorem dL_law_2250 : decode cL_law 2250 = .ok (.istore 5, 2) := by decide +kernel
theorem dL_law_2252 : decode cL_law 2252 = .ok (.aload_n 2, 1) := by decide +kernel
theorem dL_law_2253 : decode cL_law 2253 = .ok (.aload_n 0, 1) := by decide +kernel
theorem dL_law_2254 : decode cL_law 2254 = .ok (.iload 4, 2) := by decide +kernel
theorem dL_law_2256 : decode cL_law 2256 = .ok (.iconst 1, 1) := by decide +kernel
theorem dL_law_2257 : decode cL_law 2257 = .ok (.iadd, 1) := by decide +kernel
theorem dL_law_2258 : decode cL_law 2258 = .ok (.iaload, 1) := by decide +kernel
theorem dL_law_2259 : decode cL_law 2259 = .ok (.aload_n 0, 1) := by decide +kernel
theorem dL_law_2260 : decode cL_law 2260 = .ok (.iload 4, 2) := by decide +kernel
theorem dL_law_2262 : decode cL_law 2262 = .ok (.iconst 2, 1) := by decide +kernel
theorem dL_law_2263 : decode cL_law 2263 = .ok (.iadd, 1) := by decide +kernel
theorem dL_law_2264 : decode cL_law 2264 = .ok (.iaload, 1) := by decide +kernel
theorem dL_law_2265 : decode cL_law 2265 = .ok (.invokevirtual 333, 3) := by decide +kernel
theorem dL_law_2268 : decode cL_law 2268 = .ok (.istore 6, 2) := by decide +kernel
theorem dL_law_2270 : decode cL_law 2270 = .ok (.goto 285, 3) := by decide +kernel
theorem dL_law_2273 : decode cL_law 2273 = .ok (.aload_n 1, 1) := by decide +kernel
theorem dL_law_2274 : decode cL_law 2274 = .ok (.aload_n 0, 1) := by decide +kernel
theorem dL_law_2275 : decode cL_law 2275 = .ok (.iload 4, 2) := by decide +kernel
theorem dL_law_2277 : decode cL_law 2277 = .ok (.iconst 1, 1) := by decide +kernel
theorem dL_law_2278 : decode cL_law 2278 = .ok (.iadd, 1) := by decide +kernel
theorem dL_law_2279 : decode cL_law 2279 = .ok (.iaload, 1) := by decide +kernel
theorem dL_law_2280 : decode cL_law 2280 = .ok (.aload_n 3, 1) := by decide +kernel
theorem dL_law_2281 : decode cL_law 2281 = .ok (.invokestatic 334, 3) := by decide +kernel
theorem dL_law_2284 : decode cL_law 2284 = .ok (.istore 5, 2) := by decide +kernel
theorem dL_law_2286 : decode cL_law 2286 = .ok (.aload_n 2, 1) := by decide +kernel
theorem dL_law_2287 : decode cL_law 2287 = .ok (.aload_n 0, 1) := by decide +kernel
theorem dL_law_2288 : decode cL_law 2288 = .ok (.iload 4, 2) := by decide +kernel
theorem dL_law_2290 : decode cL_law 2290 = .ok (.iconst 1, 1) := by decide +kernel
theorem dL_law_2291 : decode cL_law 2291 = .ok (.iadd, 1) := by decide +kernel
theorem dL_law_2292 : decode cL_law 2292 = .ok (.iaload, 1) := by decide +kernel
theorem dL_law_2293 : decode cL_law 2293 = .ok (.invokevirtual 336, 3) := by decide +kernel
theorem dL_law_2296 : decode cL_law 2296 = .ok (.astore 6, 2) := by decide +kernel
theorem dL_law_2298 : decode cL_law 2298 = .ok (.goto 257, 3) := by decide +kernel
theorem dL_law_2301 : decode cL_law 2301 = .ok (.aload_n 1, 1) := by decide +kernel
theorem dL_law_2302 : decode cL_law 2302 = .ok (.aload_n 0, 1) := by decide +kernel
theorem dL_law_2303 : decode cL_law 2303 = .ok (.iload 4, 2) := by decide +kernel
theorem dL_law_2305 : decode cL_law 2305 = .ok (.iconst 1, 1) := by decide +kernel
theorem dL_law_2306 : decode cL_law 2306 = .ok (.iadd, 1) := by decide +kernel
theorem dL_law_2307 : decode cL_law 2307 = .ok (.iaload, 1) := by decide +kernel
theorem dL_law_2308 : decode cL_law 2308 = .ok (.aload_n 0, 1) := by decide +kernel
theorem dL_law_2309 : decode cL_law 2309 = .ok (.iload 4, 2) := by decide +kernel
theorem dL_law_2311 : decode cL_law 2311 = .ok (.iconst 2, 1) := by decide +kernel
theorem dL_law_2312 : decode cL_law 2312 = .ok (.iadd, 1) := by decide +kernel
theorem dL_law_2313 : decode cL_law 2313 = .ok (.iaload, 1) := by decide +kernel
theorem dL_law_2314 : decode cL_law 2314 = .ok (.aload_n 3, 1) := by decide +kernel
theorem dL_law_2315 : decode cL_law 2315 = .ok (.invokestatic 337, 3) := by decide +kernel
theorem dL_law_2318 : decode cL_law 2318 = .ok (.istore 5, 2) := by decide +kernel
theorem dL_law_2320 : decode cL_law 2320 = .ok (.aload_n 2, 1) := by decide +kernel
theorem dL_law_2321 : decode cL_law 2321 = .ok (.aload_n 0, 1) := by decide +kernel
theorem dL_law_2322 : decode cL_law 2322 = .ok (.iload 4, 2) := by decide +kernel
theorem dL_law_2324 : decode cL_law 2324 = .ok (.iconst 1, 1) := by decide +kernel
theorem dL_law_2325 : decode cL_law 2325 = .ok (.iadd, 1) := by decide +kernel
theorem dL_law_2326 : decode cL_law 2326 = .ok (.iaload, 1) := by decide +kernel
theorem dL_law_2327 : decode cL_law 2327 = .ok (.aload_n 0, 1) := by decide +kernel
theorem dL_law_2328 : decode cL_law 2328 = .ok (.iload 4, 2) := by decide +kernel
theorem dL_law_2330 : decode cL_law 2330 = .ok (.iconst 2, 1) := by decide +kernel
theorem dL_law_2331 : decode cL_law 2331 = .ok (.iadd, 1) := by decide +kernel
theorem dL_law_2332 : decode cL_law 2332 = .ok (.iaload, 1) := by decide +kernel
theorem dL_law_2333 : decode cL_law 2333 = .ok (.invokevirtual 339, 3) := by decide +kernel
theorem dL_law_2336 : decode cL_law 2336 = .ok (.istore 6, 2) := by decide +kernel
theorem dL_law_2338 : decode cL_law 2338 = .ok (.goto 217, 3) := by decide +kernel
theorem dL_law_2341 : decode cL_law 2341 = .ok (.aload_n 1, 1) := by decide +kernel
theorem dL_law_2342 : decode cL_law 2342 = .ok (.aload_n 0, 1) := by decide +kernel
theorem dL_law_2343 : decode cL_law 2343 = .ok (.iload 4, 2) := by decide +kernel
theorem dL_law_2345 : decode cL_law 2345 = .ok (.iconst 1, 1) := by decide +kernel
theorem dL_law_2346 : decode cL_law 2346 = .ok (.iadd, 1) := by decide +kernel
theorem dL_law_2347 : decode cL_law 2347 = .ok (.iaload, 1) := by decide +kernel
theorem dL_law_2348 : decode cL_law 2348 = .ok (.aload_n 0, 1) := by decide +kernel
theorem dL_law_2349 : decode cL_law 2349 = .ok (.iload 4, 2) := by decide +kernel
theorem dL_law_2351 : decode cL_law 2351 = .ok (.iconst 2, 1) := by decide +kernel
theorem dL_law_2352 : decode cL_law 2352 = .ok (.iadd, 1) := by decide +kernel
theorem dL_law_2353 : decode cL_law 2353 = .ok (.iaload, 1) := by decide +kernel
theorem dL_law_2354 : decode cL_law 2354 = .ok (.aload_n 3, 1) := by decide +kernel
theorem dL_law_2355 : decode cL_law 2355 = .ok (.invokestatic 340, 3) := by decide +kernel
theorem dL_law_2358 : decode cL_law 2358 = .ok (.istore 5, 2) := by decide +kernel
theorem dL_law_2360 : decode cL_law 2360 = .ok (.aload_n 2, 1) := by decide +kernel
theorem dL_law_2361 : decode cL_law 2361 = .ok (.aload_n 0, 1) := by decide +kernel
theorem dL_law_2362 : decode cL_law 2362 = .ok (.iload 4, 2) := by decide +kernel
theorem dL_law_2364 : decode cL_law 2364 = .ok (.iconst 1, 1) := by decide +kernel
theorem dL_law_2365 : decode cL_law 2365 = .ok (.iadd, 1) := by decide +kernel
theorem dL_law_2366 : decode cL_law 2366 = .ok (.iaload, 1) := by decide +kernel
theorem dL_law_2367 : decode cL_law 2367 = .ok (.aload_n 0, 1) := by decide +kernel
theorem dL_law_2368 : decode cL_law 2368 = .ok (.iload 4, 2) := by decide +kernel
theorem dL_law_2370 : decode cL_law 2370 = .ok (.iconst 2, 1) := by decide +kernel
theorem dL_law_2371 : decode cL_law 2371 = .ok (.iadd, 1) := by decide +kernel
theorem dL_law_2372 : decode cL_law 2372 = .ok (.iaload, 1) := by decide +kernel
theorem dL_law_2373 : decode cL_law 2373 = .ok (.invokevirtual 342, 3) := by decide +kernel
theorem dL_law_2376 : decode cL_law 2376 = .ok (.istore 6, 2) := by decide +kernel
theorem dL_law_2378 : decode cL_law 2378 = .ok (.goto 177, 3) := by decide +kernel
theorem dL_law_2381 : decode cL_law 2381 = .ok (.aload_n 1, 1) := by decide +kernel
theorem dL_law_2382 : decode cL_law 2382 = .ok (.aload_n 0, 1) := by decide +kernel
theorem dL_law_2383 : decode cL_law 2383 = .ok (.iload 4, 2) := by decide +kernel
theorem dL_law_2385 : decode cL_law 2385 = .ok (.iconst 1, 1) := by decide +kernel
theorem dL_law_2386 : decode cL_law 2386 = .ok (.iadd, 1) := by decide +kernel
theorem dL_law_2387 : decode cL_law 2387 = .ok (.iaload, 1) := by decide +kernel
theorem dL_law_2388 : decode cL_law 2388 = .ok (.aload_n 0, 1) := by decide +kernel
theorem dL_law_2389 : decode cL_law 2389 = .ok (.iload 4, 2) := by decide +kernel
theorem dL_law_2391 : decode cL_law 2391 = .ok (.iconst 2, 1) := by decide +kernel
theorem dL_law_2392 : decode cL_law 2392 = .ok (.iadd, 1) := by decide +kernel
theorem dL_law_2393 : decode cL_law 2393 = .ok (.iaload, 1) := by decide +kernel
theorem dL_law_2394 : decode cL_law 2394 = .ok (.aload_n 3, 1) := by decide +kernel
theorem dL_law_2395 : decode cL_law 2395 = .ok (.invokestatic 343, 3) := by decide +kernel
theorem dL_law_2398 : decode cL_law 2398 = .ok (.istore 5, 2) := by decide +kernel
theorem dL_law_2400 : decode cL_law 2400 = .ok (.aload_n 2, 1) := by decide +kernel
theorem dL_law_2401 : decode cL_law 2401 = .ok (.aload_n 0, 1) := by decide +kernel
theorem dL_law_2402 : decode cL_law 2402 = .ok (.iload 4, 2) := by decide +kernel
theorem dL_law_2404 : decode cL_law 2404 = .ok (.iconst 1, 1) := by decide +kernel
theorem dL_law_2405 : decode cL_law 2405 = .ok (.iadd, 1) := by decide +kernel
theorem dL_law_2406 : decode cL_law 2406 = .ok (.iaload, 1) := by decide +kernel
theorem dL_law_2407 : decode cL_law 2407 = .ok (.aload_n 0, 1) := by decide +kernel
theorem dL_law_2408 : decode cL_law 2408 = .ok (.iload 4, 2) := by decide +kernel
theorem dL_law_2410 : decode cL_law 2410 = .ok (.iconst 2, 1) := by decide +kernel
theorem dL_law_2411 : decode cL_law 2411 = .ok (.iadd, 1) := by decide +kernel
theorem dL_law_2412 : decode cL_law 2412 = .ok (.iaload, 1) := by decide +kernel
theorem dL_law_2413 : decode cL_law 2413 = .ok (.invokevirtual 345, 3) := by decide +kernel
theorem dL_law_2416 : decode cL_law 2416 = .ok (.istore 6, 2) := by decide +kernel
theorem dL_law_2418 : decode cL_law 2418 = .ok (.goto 137, 3) := by decide +kernel
theorem dL_law_2421 : decode cL_law 2421 = .ok (.aload_n 1, 1) := by decide +kernel
theorem dL_law_2422 : decode cL_law 2422 = .ok (.aload_n 0, 1) := by decide +kernel
theorem dL_law_2423 : decode cL_law 2423 = .ok (.iload 4, 2) := by decide +kernel
theorem dL_law_2425 : decode cL_law 2425 = .ok (.iconst 1, 1) := by decide +kernel
theorem dL_law_2426 : decode cL_law 2426 = .ok (.iadd, 1) := by decide +kernel
theorem dL_law_2427 : decode cL_law 2427 = .ok (.iaload, 1) := by decide +kernel
theorem dL_law_2428 : decode cL_law 2428 = .ok (.aload_n 0, 1) := by decide +kernel
theorem dL_law_2429 : decode cL_law 2429 = .ok (.iload 4, 2) := by decide +kernel
theorem dL_law_2431 : decode cL_law 2431 = .ok (.iconst 2, 1) := by decide +kernel
theorem dL_law_2432 : decode cL_law 2432 = .ok (.iadd, 1) := by decide +kernel
theorem dL_law_2433 : decode cL_law 2433 = .ok (.iaload, 1) := by decide +kernel
theorem dL_law_2434 : decode cL_law 2434 = .ok (.aload_n 0, 1) := by decide +kernel
theorem dL_law_2435 : decode cL_law 2435 = .ok (.iload 4, 2) := by decide +kernel
theorem dL_law_2437 : decode cL_law 2437 = .ok (.iconst 3, 1) := by decide +kernel
theorem dL_law_2438 : decode cL_law 2438 = .ok (.iadd, 1) := by decide +kernel
theorem dL_law_2439 : decode cL_law 2439 = .ok (.iaload, 1) := by decide +kernel
theorem dL_law_2440 : decode cL_law 2440 = .ok (.aload_n 3, 1) := by decide +kernel
theorem dL_law_2441 : decode cL_law 2441 = .ok (.invokestatic 346, 3) := by decide +kernel
theorem dL_law_2444 : decode cL_law 2444 = .ok (.istore 5, 2) := by decide +kernel
theorem dL_law_2446 : decode cL_law 2446 = .ok (.aload_n 2, 1) := by decide +kernel
theorem dL_law_2447 : decode cL_law 2447 = .ok (.aload_n 0, 1) := by decide +kernel
theorem dL_law_2448 : decode cL_law 2448 = .ok (.iload 4, 2) := by decide +kernel
theorem dL_law_2450 : decode cL_law 2450 = .ok (.iconst 1, 1) := by decide +kernel
theorem dL_law_2451 : decode cL_law 2451 = .ok (.iadd, 1) := by decide +kernel
theorem dL_law_2452 : decode cL_law 2452 = .ok (.iaload, 1) := by decide +kernel
theorem dL_law_2453 : decode cL_law 2453 = .ok (.aload_n 0, 1) := by decide +kernel
theorem dL_law_2454 : decode cL_law 2454 = .ok (.iload 4, 2) := by decide +kernel
theorem dL_law_2456 : decode cL_law 2456 = .ok (.iconst 2, 1) := by decide +kernel
theorem dL_law_2457 : decode cL_law 2457 = .ok (.iadd, 1) := by decide +kernel
theorem dL_law_2458 : decode cL_law 2458 = .ok (.iaload, 1) := by decide +kernel
theorem dL_law_2459 : decode cL_law 2459 = .ok (.aload_n 0, 1) := by decide +kernel
theorem dL_law_2460 : decode cL_law 2460 = .ok (.iload 4, 2) := by decide +kernel
theorem dL_law_2462 : decode cL_law 2462 = .ok (.iconst 3, 1) := by decide +kernel
theorem dL_law_2463 : decode cL_law 2463 = .ok (.iadd, 1) := by decide +kernel
theorem dL_law_2464 : decode cL_law 2464 = .ok (.iaload, 1) := by decide +kernel
theorem dL_law_2465 : decode cL_law 2465 = .ok (.invokevirtual 348, 3) := by decide +kernel
theorem dL_law_2468 : decode cL_law 2468 = .ok (.istore 6, 2) := by decide +kernel
theorem dL_law_2470 : decode cL_law 2470 = .ok (.goto 85, 3) := by decide +kernel
theorem dL_law_2473 : decode cL_law 2473 = .ok (.aload_n 1, 1) := by decide +kernel
theorem dL_law_2474 : decode cL_law 2474 = .ok (.aload_n 0, 1) := by decide +kernel
theorem dL_law_2475 : decode cL_law 2475 = .ok (.iload 4, 2) := by decide +kernel
theorem dL_law_2477 : decode cL_law 2477 = .ok (.iconst 1, 1) := by decide +kernel
theorem dL_law_2478 : decode cL_law 2478 = .ok (.iadd, 1) := by decide +kernel
theorem dL_law_2479 : decode cL_law 2479 = .ok (.iaload, 1) := by decide +kernel
theorem dL_law_2480 : decode cL_law 2480 = .ok (.aload_n 3, 1) := by decide +kernel
theorem dL_law_2481 : decode cL_law 2481 = .ok (.invokestatic 349, 3) := by decide +kernel
theorem dL_law_2484 : decode cL_law 2484 = .ok (.istore 5, 2) := by decide +kernel
theorem dL_law_2486 : decode cL_law 2486 = .ok (.aload_n 2, 1) := by decide +kernel
theorem dL_law_2487 : decode cL_law 2487 = .ok (.aload_n 0, 1) := by decide +kernel
theorem dL_law_2488 : decode cL_law 2488 = .ok (.iload 4, 2) := by decide +kernel
theorem dL_law_2490 : decode cL_law 2490 = .ok (.iconst 1, 1) := by decide +kernel
theorem dL_law_2491 : decode cL_law 2491 = .ok (.iadd, 1) := by decide +kernel
theorem dL_law_2492 : decode cL_law 2492 = .ok (.iaload, 1) := by decide +kernel
theorem dL_law_2493 : decode cL_law 2493 = .ok (.invokevirtual 351, 3) := by decide +kernel
theorem dL_law_2496 : decode cL_law 2496 = .ok (.astore 6, 2) := by decide +kernel
theorem dL_law_2498 : decode cL_law 2498 = .ok (.goto 57, 3) := by decide +kernel
theorem dL_law_2501 : decode cL_law 2501 = .ok (.aload_n 1, 1) := by decide +kernel
theorem dL_law_2502 : decode cL_law 2502 = .ok (.aload_n 0, 1) := by decide +kernel
theorem dL_law_2503 : decode cL_law 2503 = .ok (.iload 4, 2) := by decide +kernel
theorem dL_law_2505 : decode cL_law 2505 = .ok (.iconst 1, 1) := by decide +kernel
theorem dL_law_2506 : decode cL_law 2506 = .ok (.iadd, 1) := by decide +kernel
theorem dL_law_2507 : decode cL_law 2507 = .ok (.iaload, 1) := by decide +kernel
theorem dL_law_2508 : decode cL_law 2508 = .ok (.aload_n 3, 1) := by decide +kernel
theorem dL_law_2509 : decode cL_law 2509 = .ok (.invokestatic 352, 3) := by decide +kernel
theorem dL_law_2512 : decode cL_law 2512 = .ok (.istore 5, 2) := by decide +kernel
theorem dL_law_2514 : decode cL_law 2514 = .ok (.aload_n 2, 1) := by decide +kernel
theorem dL_law_2515 : decode cL_law 2515 = .ok (.aload_n 0, 1) := by decide +kernel
theorem dL_law_2516 : decode cL_law 2516 = .ok (.iload 4, 2) := by decide +kernel
theorem dL_law_2518 : decode cL_law 2518 = .ok (.iconst 1, 1) := by decide +kernel
theorem dL_law_2519 : decode cL_law 2519 = .ok (.iadd, 1) := by decide +kernel
theorem dL_law_2520 : decode cL_law 2520 = .ok (.iaload, 1) := by decide +kernel
theorem dL_law_2521 : decode cL_law 2521 = .ok (.invokevirtual 354, 3) := by decide +kernel
theorem dL_law_2524 : decode cL_law 2524 = .ok (.istore 6, 2) := by decide +kernel
theorem dL_law_2526 : decode cL_law 2526 = .ok (.goto 29, 3) := by decide +kernel
theorem dL_law_2529 : decode cL_law 2529 = .ok (.aload_n 1, 1) := by decide +kernel
theorem dL_law_2530 : decode cL_law 2530 = .ok (.invokevirtual 355, 3) := by decide +kernel
theorem dL_law_2533 : decode cL_law 2533 = .ok (.pop, 1) := by decide +kernel
theorem dL_law_2534 : decode cL_law 2534 = .ok (.aload_n 2, 1) := by decide +kernel
theorem dL_law_2535 : decode cL_law 2535 = .ok (.invokevirtual 359, 3) := by decide +kernel
theorem dL_law_2538 : decode cL_law 2538 = .ok (.pop, 1) := by decide +kernel
theorem dL_law_2539 : decode cL_law 2539 = .ok (.goto 16, 3) := by decide +kernel
theorem dL_law_2542 : decode cL_law 2542 = .ok (.aload_n 1, 1) := by decide +kernel
theorem dL_law_2543 : decode cL_law 2543 = .ok (.invokevirtual 360, 3) := by decide +kernel
theorem dL_law_2546 : decode cL_law 2546 = .ok (.pop2, 1) := by decide +kernel
theorem dL_law_2547 : decode cL_law 2547 = .ok (.aload_n 2, 1) := by decide +kernel
theorem dL_law_2548 : decode cL_law 2548 = .ok (.invokevirtual 364, 3) := by decide +kernel
theorem dL_law_2551 : decode cL_law 2551 = .ok (.pop2, 1) := by decide +kernel
theorem dL_law_2552 : decode cL_law 2552 = .ok (.goto 3, 3) := by decide +kernel
theorem dL_law_2555 : decode cL_law 2555 = .ok (.iinc 4 6, 3) := by decide +kernel
theorem dL_law_2558 : decode cL_law 2558 = .ok (.goto (-2531), 3) := by decide +kernel
theorem dL_law_2561 : decode cL_law 2561 = .ok (.iconst 1, 1) := by decide +kernel
theorem dL_law_2562 : decode cL_law 2562 = .ok (.ireturn, 1) := by decide +kernel
