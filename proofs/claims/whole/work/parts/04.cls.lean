theorem ms_k62 : (Jvm.Cond.lays "java/lang/StringBuilder" "java/lang/AbstractStringBuilder" "value" "[B") ∈ ms_tb := ms_i1 62 (by decide +kernel) (by decide +kernel)
theorem ms_k64 : (Jvm.Cond.lays "java/lang/StringBuilder" "java/lang/AbstractStringBuilder" "coder" "B") ∈ ms_tb := ms_i1 64 (by decide +kernel) (by decide +kernel)
theorem ms_k66 : (Jvm.Cond.lays "java/lang/StringBuilder" "java/lang/AbstractStringBuilder" "maybeLatin1" "Z") ∈ ms_tb := ms_i1 66 (by decide +kernel) (by decide +kernel)
theorem ms_k68 : (Jvm.Cond.lays "java/lang/StringBuilder" "java/lang/AbstractStringBuilder" "count" "I") ∈ ms_tb := ms_i1 68 (by decide +kernel) (by decide +kernel)
theorem ms_k92 : (Jvm.Cond.laysFinal "MarkupStore$Tree" "MarkupStore$Tree" "made" "[LMarkupStore$Node;") ∈ ms_tb := ms_i1 92 (by decide +kernel) (by decide +kernel)
theorem ms_k94 : (Jvm.Cond.lays "MarkupStore$Tree" "MarkupStore$Tree" "madeSize" "I") ∈ ms_tb := ms_i1 94 (by decide +kernel) (by decide +kernel)
theorem ms_k96 : (Jvm.Cond.laysFinal "MarkupStore$Tree" "MarkupStore$Tree" "order" "[LMarkupStore$Node;") ∈ ms_tb := ms_i1 96 (by decide +kernel) (by decide +kernel)
theorem ms_k98 : (Jvm.Cond.lays "MarkupStore$Tree" "MarkupStore$Tree" "size" "I") ∈ ms_tb := ms_i1 98 (by decide +kernel) (by decide +kernel)
theorem ms_k100 : (Jvm.Cond.laysFinal "MarkupStore$Tree" "MarkupStore$Tree" "kept" "[LMarkupStore$Node;") ∈ ms_tb := ms_i1 100 (by decide +kernel) (by decide +kernel)
theorem ms_k102 : (Jvm.Cond.lays "MarkupStore$Tree" "MarkupStore$Tree" "keptSize" "I") ∈ ms_tb := ms_i1 102 (by decide +kernel) (by decide +kernel)
theorem ms_k111 : (Jvm.Cond.laysFinal "MarkupStore" "MarkupStore" "buffer" "Ljava/lang/StringBuilder;") ∈ ms_tb := ms_i1 111 (by decide +kernel) (by decide +kernel)
theorem ms_k113 : (Jvm.Cond.laysFinal "MarkupStore" "MarkupStore" "scratch" "Ljava/lang/StringBuilder;") ∈ ms_tb := ms_i1 113 (by decide +kernel) (by decide +kernel)
theorem ms_k115 : (Jvm.Cond.laysFinal "MarkupStore" "MarkupStore" "tree" "LMarkupStore$Tree;") ∈ ms_tb := ms_i1 115 (by decide +kernel) (by decide +kernel)
theorem ms_k117 : (Jvm.Cond.laysFinal "MarkupStore" "MarkupStore" "found" "[I") ∈ ms_tb := ms_i1 117 (by decide +kernel) (by decide +kernel)
theorem ms_k119 : (Jvm.Cond.lays "MarkupStore" "MarkupStore" "foundSize" "I") ∈ ms_tb := ms_i1 119 (by decide +kernel) (by decide +kernel)
theorem ms_k121 : (Jvm.Cond.lays "MarkupStore" "MarkupStore" "changes" "I") ∈ ms_tb := ms_i1 121 (by decide +kernel) (by decide +kernel)
theorem ms_k286 : (Jvm.Cond.laysFinal "java/lang/String" "java/lang/String" "value" "[B") ∈ ms_tb := ms_i2 46 (by decide +kernel) (by decide +kernel)
theorem ms_k288 : (Jvm.Cond.laysFinal "java/lang/String" "java/lang/String" "coder" "B") ∈ ms_tb := ms_i2 48 (by decide +kernel) (by decide +kernel)
theorem ms_k290 : (Jvm.Cond.lays "java/lang/String" "java/lang/String" "hash" "I") ∈ ms_tb := ms_i2 50 (by decide +kernel) (by decide +kernel)
theorem ms_k292 : (Jvm.Cond.lays "java/lang/String" "java/lang/String" "hashIsZero" "Z") ∈ ms_tb := ms_i2 52 (by decide +kernel) (by decide +kernel)
theorem ms_k341 : (Jvm.Cond.lays "java/util/ArrayList" "java/util/ArrayList" "elementData" "[Ljava/lang/Object;") ∈ ms_tb := ms_i2 101 (by decide +kernel) (by decide +kernel)
theorem ms_k343 : (Jvm.Cond.lays "java/util/ArrayList" "java/util/ArrayList" "size" "I") ∈ ms_tb := ms_i2 103 (by decide +kernel) (by decide +kernel)
theorem ms_k345 : (Jvm.Cond.lays "java/util/ArrayList" "java/util/AbstractList" "modCount" "I") ∈ ms_tb := ms_i2 105 (by decide +kernel) (by decide +kernel)
theorem ms_k367 : (Jvm.Cond.laysFinal "MarkupStore$MarkupReader" "MarkupStore$MarkupReader" "read" "Ljava/util/ArrayList;") ∈ ms_tb := ms_i2 127 (by decide +kernel) (by decide +kernel)
theorem ms_k369 : (Jvm.Cond.laysFinal "MarkupStore$MarkupReader" "MarkupStore$MarkupReader" "scratch" "Ljava/lang/StringBuilder;") ∈ ms_tb := ms_i2 129 (by decide +kernel) (by decide +kernel)
theorem ms_k371 : (Jvm.Cond.lays "MarkupStore$MarkupReader" "MarkupStore$MarkupReader" "tooMuch" "Z") ∈ ms_tb := ms_i2 131 (by decide +kernel) (by decide +kernel)
theorem ms_k373 : (Jvm.Cond.laysFinal "MarkupStore$MarkupReader" "MarkupStore$TextReader" "text" "Ljava/lang/String;") ∈ ms_tb := ms_i2 133 (by decide +kernel) (by decide +kernel)
theorem ms_k375 : (Jvm.Cond.lays "MarkupStore$MarkupReader" "MarkupStore$TextReader" "at" "I") ∈ ms_tb := ms_i2 135 (by decide +kernel) (by decide +kernel)
theorem ms_k377 : (Jvm.Cond.lays "MarkupStore$MarkupReader" "MarkupStore$TextReader" "wrong" "I") ∈ ms_tb := ms_i2 137 (by decide +kernel) (by decide +kernel)
theorem ms_k475 : (Jvm.Cond.laysFinal "MarkupStore$Node" "MarkupStore$Node" "kind" "I") ∈ ms_tb := ms_i2 235 (by decide +kernel) (by decide +kernel)
theorem ms_k477 : (Jvm.Cond.laysFinal "MarkupStore$Node" "MarkupStore$Node" "parent" "LMarkupStore$Node;") ∈ ms_tb := ms_i2 237 (by decide +kernel) (by decide +kernel)
theorem ms_k479 : (Jvm.Cond.laysFinal "MarkupStore$Node" "MarkupStore$Node" "depth" "I") ∈ ms_tb := ms_i2 239 (by decide +kernel) (by decide +kernel)
theorem ms_k481 : (Jvm.Cond.laysFinal "MarkupStore$Node" "MarkupStore$Node" "label" "[I") ∈ ms_tb := ms_i3 1 (by decide +kernel) (by decide +kernel)
theorem ms_k483 : (Jvm.Cond.laysFinal "MarkupStore$Node" "MarkupStore$Node" "attributes" "Ljava/util/ArrayList;") ∈ ms_tb := ms_i3 3 (by decide +kernel) (by decide +kernel)
theorem ms_k485 : (Jvm.Cond.lays "MarkupStore$Node" "MarkupStore$Node" "number" "I") ∈ ms_tb := ms_i3 5 (by decide +kernel) (by decide +kernel)
theorem ms_k487 : (Jvm.Cond.lays "MarkupStore$Node" "MarkupStore$Node" "place" "I") ∈ ms_tb := ms_i3 7 (by decide +kernel) (by decide +kernel)
theorem ms_k489 : (Jvm.Cond.lays "MarkupStore$Node" "MarkupStore$Node" "text" "Ljava/lang/String;") ∈ ms_tb := ms_i3 9 (by decide +kernel) (by decide +kernel)
theorem ms_k491 : (Jvm.Cond.lays "MarkupStore$Node" "MarkupStore$Node" "keptText" "Ljava/lang/String;") ∈ ms_tb := ms_i3 11 (by decide +kernel) (by decide +kernel)
theorem ms_k664 : (Jvm.Cond.laysFinal "MarkupStore$Attribute" "MarkupStore$Attribute" "name" "Ljava/lang/String;") ∈ ms_tb := ms_i3 184 (by decide +kernel) (by decide +kernel)
theorem ms_k666 : (Jvm.Cond.laysFinal "MarkupStore$Attribute" "MarkupStore$Attribute" "value" "Ljava/lang/String;") ∈ ms_tb := ms_i3 186 (by decide +kernel) (by decide +kernel)
theorem ms_k876 : (Jvm.Cond.laysFinal "MarkupStore$PathReader" "MarkupStore$TextReader" "text" "Ljava/lang/String;") ∈ ms_tb := ms_i4 156 (by decide +kernel) (by decide +kernel)
theorem ms_k877 : (Jvm.Cond.lays "MarkupStore$PathReader" "MarkupStore$TextReader" "at" "I") ∈ ms_tb := ms_i4 157 (by decide +kernel) (by decide +kernel)
theorem ms_k878 : (Jvm.Cond.lays "MarkupStore$PathReader" "MarkupStore$TextReader" "wrong" "I") ∈ ms_tb := ms_i4 158 (by decide +kernel) (by decide +kernel)
theorem ms_k905 : (Jvm.Cond.laysFinal "MarkupStore$Path" "MarkupStore$Path" "fromDocument" "Z") ∈ ms_tb := ms_i4 185 (by decide +kernel) (by decide +kernel)
theorem ms_k907 : (Jvm.Cond.laysFinal "MarkupStore$Path" "MarkupStore$Path" "steps" "Ljava/util/ArrayList;") ∈ ms_tb := ms_i4 187 (by decide +kernel) (by decide +kernel)
theorem ms_k935 : (Jvm.Cond.lays "MarkupStore$Step" "MarkupStore$Step" "axis" "C") ∈ ms_tb := ms_i4 215 (by decide +kernel) (by decide +kernel)
theorem ms_k937 : (Jvm.Cond.lays "MarkupStore$Step" "MarkupStore$Step" "sort" "C") ∈ ms_tb := ms_i4 217 (by decide +kernel) (by decide +kernel)
theorem ms_k939 : (Jvm.Cond.lays "MarkupStore$Step" "MarkupStore$Step" "name" "Ljava/lang/String;") ∈ ms_tb := ms_i4 219 (by decide +kernel) (by decide +kernel)
theorem ms_k941 : (Jvm.Cond.laysFinal "MarkupStore$Step" "MarkupStore$Step" "predicates" "Ljava/util/ArrayList;") ∈ ms_tb := ms_i4 221 (by decide +kernel) (by decide +kernel)
theorem ms_k943 : (Jvm.Cond.lays "MarkupStore$Step" "MarkupStore$Step" "ofKind" "J") ∈ ms_tb := ms_i4 223 (by decide +kernel) (by decide +kernel)
theorem ms_k1043 : (Jvm.Cond.lays "MarkupStore$Predicate" "MarkupStore$Predicate" "sort" "C") ∈ ms_tb := ms_i5 83 (by decide +kernel) (by decide +kernel)
theorem ms_k1045 : (Jvm.Cond.lays "MarkupStore$Predicate" "MarkupStore$Predicate" "negated" "Z") ∈ ms_tb := ms_i5 85 (by decide +kernel) (by decide +kernel)
theorem ms_k1047 : (Jvm.Cond.lays "MarkupStore$Predicate" "MarkupStore$Predicate" "position" "I") ∈ ms_tb := ms_i5 87 (by decide +kernel) (by decide +kernel)
theorem ms_k1049 : (Jvm.Cond.lays "MarkupStore$Predicate" "MarkupStore$Predicate" "name" "Ljava/lang/String;") ∈ ms_tb := ms_i5 89 (by decide +kernel) (by decide +kernel)
theorem ms_k1051 : (Jvm.Cond.lays "MarkupStore$Predicate" "MarkupStore$Predicate" "path" "LMarkupStore$Path;") ∈ ms_tb := ms_i5 91 (by decide +kernel) (by decide +kernel)
theorem ms_k1053 : (Jvm.Cond.lays "MarkupStore$Predicate" "MarkupStore$Predicate" "comparison" "C") ∈ ms_tb := ms_i5 93 (by decide +kernel) (by decide +kernel)
theorem ms_k1055 : (Jvm.Cond.lays "MarkupStore$Predicate" "MarkupStore$Predicate" "string" "Ljava/lang/String;") ∈ ms_tb := ms_i5 95 (by decide +kernel) (by decide +kernel)
theorem ms_k1057 : (Jvm.Cond.lays "MarkupStore$Predicate" "MarkupStore$Predicate" "holds" "J") ∈ ms_tb := ms_i5 97 (by decide +kernel) (by decide +kernel)
theorem ms_k1089 : (Jvm.Cond.laysFinal "MarkupStore$Walker" "MarkupStore$Walker" "tree" "LMarkupStore$Tree;") ∈ ms_tb := ms_i5 129 (by decide +kernel) (by decide +kernel)
theorem ms_k1257 : (Jvm.Cond.laysFinal "MarkupStore$Scribe" "MarkupStore$Scribe" "wanted" "I") ∈ ms_tb := ms_i6 57 (by decide +kernel) (by decide +kernel)
theorem ms_k1259 : (Jvm.Cond.lays "MarkupStore$Scribe" "MarkupStore$Scribe" "count" "I") ∈ ms_tb := ms_i6 59 (by decide +kernel) (by decide +kernel)
theorem ms_k1261 : (Jvm.Cond.lays "MarkupStore$Scribe" "MarkupStore$Scribe" "seen" "I") ∈ ms_tb := ms_i6 61 (by decide +kernel) (by decide +kernel)
theorem ms_k1376 : (Jvm.Cond.laysFinal "MarkupStoreModel" "MarkupStoreModel" "t" "[I") ∈ ms_tb := ms_i6 176 (by decide +kernel) (by decide +kernel)
theorem ms_k1378 : (Jvm.Cond.laysFinal "MarkupStoreModel" "MarkupStoreModel" "saved" "[I") ∈ ms_tb := ms_i6 178 (by decide +kernel) (by decide +kernel)
theorem ms_k1380 : (Jvm.Cond.laysFinal "MarkupStoreModel" "MarkupStoreModel" "w" "[I") ∈ ms_tb := ms_i6 180 (by decide +kernel) (by decide +kernel)
theorem ms_k1382 : (Jvm.Cond.laysFinal "MarkupStoreModel" "MarkupStoreModel" "slots" "[I") ∈ ms_tb := ms_i6 182 (by decide +kernel) (by decide +kernel)
theorem ms_k1384 : (Jvm.Cond.lays "MarkupStoreModel" "MarkupStoreModel" "made" "I") ∈ ms_tb := ms_i6 184 (by decide +kernel) (by decide +kernel)
theorem ms_k1386 : (Jvm.Cond.lays "MarkupStoreModel" "MarkupStoreModel" "changes" "I") ∈ ms_tb := ms_i6 186 (by decide +kernel) (by decide +kernel)
theorem ms_k1388 : (Jvm.Cond.laysFinal "MarkupStoreModel" "MarkupStoreModel" "buffer" "[C") ∈ ms_tb := ms_i6 188 (by decide +kernel) (by decide +kernel)
theorem ms_k1390 : (Jvm.Cond.lays "MarkupStoreModel" "MarkupStoreModel" "size" "I") ∈ ms_tb := ms_i6 190 (by decide +kernel) (by decide +kernel)
theorem ms_k1392 : (Jvm.Cond.lays "MarkupStoreModel" "MarkupStoreModel" "p" "I") ∈ ms_tb := ms_i6 192 (by decide +kernel) (by decide +kernel)
theorem ms_k1394 : (Jvm.Cond.lays "MarkupStoreModel" "MarkupStoreModel" "wrong" "I") ∈ ms_tb := ms_i6 194 (by decide +kernel) (by decide +kernel)
theorem ms_k1396 : (Jvm.Cond.lays "MarkupStoreModel" "MarkupStoreModel" "many" "I") ∈ ms_tb := ms_i6 196 (by decide +kernel) (by decide +kernel)
theorem ms_k1398 : (Jvm.Cond.lays "MarkupStoreModel" "MarkupStoreModel" "over" "Z") ∈ ms_tb := ms_i6 198 (by decide +kernel) (by decide +kernel)
theorem ms_k1400 : (Jvm.Cond.lays "MarkupStoreModel" "MarkupStoreModel" "text" "I") ∈ ms_tb := ms_i6 200 (by decide +kernel) (by decide +kernel)
theorem ms_k1402 : (Jvm.Cond.lays "MarkupStoreModel" "MarkupStoreModel" "base" "I") ∈ ms_tb := ms_i6 202 (by decide +kernel) (by decide +kernel)
theorem ms_k1404 : (Jvm.Cond.lays "MarkupStoreModel" "MarkupStoreModel" "opens" "I") ∈ ms_tb := ms_i6 204 (by decide +kernel) (by decide +kernel)
theorem ms_k1406 : (Jvm.Cond.laysFinal "MarkupStoreModel" "MarkupStoreModel" "openAt" "[I") ∈ ms_tb := ms_i6 206 (by decide +kernel) (by decide +kernel)
theorem ms_k1408 : (Jvm.Cond.laysFinal "MarkupStoreModel" "MarkupStoreModel" "openFrom" "[I") ∈ ms_tb := ms_i6 208 (by decide +kernel) (by decide +kernel)
theorem ms_k1410 : (Jvm.Cond.laysFinal "MarkupStoreModel" "MarkupStoreModel" "openSize" "[I") ∈ ms_tb := ms_i6 210 (by decide +kernel) (by decide +kernel)
theorem ms_k1412 : (Jvm.Cond.lays "MarkupStoreModel" "MarkupStoreModel" "entity" "I") ∈ ms_tb := ms_i6 212 (by decide +kernel) (by decide +kernel)
theorem ms_k1414 : (Jvm.Cond.lays "MarkupStoreModel" "MarkupStoreModel" "entityLength" "I") ∈ ms_tb := ms_i6 214 (by decide +kernel) (by decide +kernel)
theorem ms_k1416 : (Jvm.Cond.laysFinal "MarkupStoreModel" "MarkupStoreModel" "nameFrom" "[I") ∈ ms_tb := ms_i6 216 (by decide +kernel) (by decide +kernel)
theorem ms_k1418 : (Jvm.Cond.laysFinal "MarkupStoreModel" "MarkupStoreModel" "nameSize" "[I") ∈ ms_tb := ms_i6 218 (by decide +kernel) (by decide +kernel)
theorem ms_k1420 : (Jvm.Cond.laysFinal "MarkupStoreModel" "MarkupStoreModel" "tail" "[I") ∈ ms_tb := ms_i6 220 (by decide +kernel) (by decide +kernel)
theorem ms_k1422 : (Jvm.Cond.lays "MarkupStoreModel" "MarkupStoreModel" "tails" "I") ∈ ms_tb := ms_i6 222 (by decide +kernel) (by decide +kernel)
theorem ms_k1424 : (Jvm.Cond.lays "MarkupStoreModel" "MarkupStoreModel" "steps" "I") ∈ ms_tb := ms_i6 224 (by decide +kernel) (by decide +kernel)
theorem ms_k1426 : (Jvm.Cond.laysFinal "MarkupStoreModel" "MarkupStoreModel" "axis" "[I") ∈ ms_tb := ms_i6 226 (by decide +kernel) (by decide +kernel)
theorem ms_k1428 : (Jvm.Cond.laysFinal "MarkupStoreModel" "MarkupStoreModel" "stepKind" "[I") ∈ ms_tb := ms_i6 228 (by decide +kernel) (by decide +kernel)
theorem ms_k1430 : (Jvm.Cond.laysFinal "MarkupStoreModel" "MarkupStoreModel" "stepFrom" "[I") ∈ ms_tb := ms_i6 230 (by decide +kernel) (by decide +kernel)
theorem ms_k1432 : (Jvm.Cond.laysFinal "MarkupStoreModel" "MarkupStoreModel" "stepSize" "[I") ∈ ms_tb := ms_i6 232 (by decide +kernel) (by decide +kernel)
theorem ms_k1434 : (Jvm.Cond.laysFinal "MarkupStoreModel" "MarkupStoreModel" "stepPredicate" "[I") ∈ ms_tb := ms_i6 234 (by decide +kernel) (by decide +kernel)
theorem ms_k1436 : (Jvm.Cond.laysFinal "MarkupStoreModel" "MarkupStoreModel" "stepNext" "[I") ∈ ms_tb := ms_i6 236 (by decide +kernel) (by decide +kernel)
theorem ms_k1438 : (Jvm.Cond.lays "MarkupStoreModel" "MarkupStoreModel" "predicates" "I") ∈ ms_tb := ms_i6 238 (by decide +kernel) (by decide +kernel)
theorem ms_k1440 : (Jvm.Cond.laysFinal "MarkupStoreModel" "MarkupStoreModel" "what" "[I") ∈ ms_tb := ms_i7 0 (by decide +kernel) (by decide +kernel)
theorem ms_k1442 : (Jvm.Cond.laysFinal "MarkupStoreModel" "MarkupStoreModel" "position" "[I") ∈ ms_tb := ms_i7 2 (by decide +kernel) (by decide +kernel)
theorem ms_k1444 : (Jvm.Cond.laysFinal "MarkupStoreModel" "MarkupStoreModel" "attrFrom" "[I") ∈ ms_tb := ms_i7 4 (by decide +kernel) (by decide +kernel)
theorem ms_k1446 : (Jvm.Cond.laysFinal "MarkupStoreModel" "MarkupStoreModel" "attrSize" "[I") ∈ ms_tb := ms_i7 6 (by decide +kernel) (by decide +kernel)
theorem ms_k1448 : (Jvm.Cond.laysFinal "MarkupStoreModel" "MarkupStoreModel" "textFrom" "[I") ∈ ms_tb := ms_i7 8 (by decide +kernel) (by decide +kernel)
theorem ms_k1450 : (Jvm.Cond.laysFinal "MarkupStoreModel" "MarkupStoreModel" "textSize" "[I") ∈ ms_tb := ms_i7 10 (by decide +kernel) (by decide +kernel)
theorem ms_k1452 : (Jvm.Cond.laysFinal "MarkupStoreModel" "MarkupStoreModel" "pathStep" "[I") ∈ ms_tb := ms_i7 12 (by decide +kernel) (by decide +kernel)
theorem ms_k1454 : (Jvm.Cond.laysFinal "MarkupStoreModel" "MarkupStoreModel" "predicateNext" "[I") ∈ ms_tb := ms_i7 14 (by decide +kernel) (by decide +kernel)
theorem ms_k1456 : (Jvm.Cond.laysFinal "MarkupStoreModel" "MarkupStoreModel" "not" "[Z") ∈ ms_tb := ms_i7 16 (by decide +kernel) (by decide +kernel)
theorem ms_k1458 : (Jvm.Cond.laysFinal "MarkupStoreModel" "MarkupStoreModel" "pathAbsolute" "[Z") ∈ ms_tb := ms_i7 18 (by decide +kernel) (by decide +kernel)
theorem ms_k1460 : (Jvm.Cond.laysFinal "MarkupStoreModel" "MarkupStoreModel" "mask" "[J") ∈ ms_tb := ms_i7 20 (by decide +kernel) (by decide +kernel)
theorem ms_k1462 : (Jvm.Cond.lays "MarkupStoreModel" "MarkupStoreModel" "ended" "I") ∈ ms_tb := ms_i7 22 (by decide +kernel) (by decide +kernel)
theorem ms_k1464 : (Jvm.Cond.laysFinal "MarkupStoreModel" "MarkupStoreModel" "endedPath" "[I") ∈ ms_tb := ms_i7 24 (by decide +kernel) (by decide +kernel)
theorem ms_k1466 : (Jvm.Cond.lays "MarkupStoreModel" "MarkupStoreModel" "level" "I") ∈ ms_tb := ms_i7 26 (by decide +kernel) (by decide +kernel)
theorem ms_k1468 : (Jvm.Cond.lays "MarkupStoreModel" "MarkupStoreModel" "nesting" "I") ∈ ms_tb := ms_i7 28 (by decide +kernel) (by decide +kernel)
theorem ms_k1470 : (Jvm.Cond.lays "MarkupStoreModel" "MarkupStoreModel" "state" "I") ∈ ms_tb := ms_i7 30 (by decide +kernel) (by decide +kernel)
theorem ms_k1472 : (Jvm.Cond.lays "MarkupStoreModel" "MarkupStoreModel" "topStep" "I") ∈ ms_tb := ms_i7 32 (by decide +kernel) (by decide +kernel)
theorem ms_k1474 : (Jvm.Cond.lays "MarkupStoreModel" "MarkupStoreModel" "topAbsolute" "Z") ∈ ms_tb := ms_i7 34 (by decide +kernel) (by decide +kernel)
theorem ms_k1476 : (Jvm.Cond.laysFinal "MarkupStoreModel" "MarkupStoreModel" "owner" "[I") ∈ ms_tb := ms_i7 36 (by decide +kernel) (by decide +kernel)
theorem ms_k1478 : (Jvm.Cond.laysFinal "MarkupStoreModel" "MarkupStoreModel" "lastStep" "[I") ∈ ms_tb := ms_i7 38 (by decide +kernel) (by decide +kernel)
theorem ms_k1480 : (Jvm.Cond.laysFinal "MarkupStoreModel" "MarkupStoreModel" "lastPredicate" "[I") ∈ ms_tb := ms_i7 40 (by decide +kernel) (by decide +kernel)
theorem ms_k1482 : (Jvm.Cond.lays "MarkupStoreModel" "MarkupStoreModel" "listed" "I") ∈ ms_tb := ms_i7 42 (by decide +kernel) (by decide +kernel)
theorem ms_k1484 : (Jvm.Cond.laysFinal "MarkupStoreModel" "MarkupStoreModel" "list" "[I") ∈ ms_tb := ms_i7 44 (by decide +kernel) (by decide +kernel)
theorem ms_k1486 : (Jvm.Cond.lays "MarkupStoreModel" "MarkupStoreModel" "results" "I") ∈ ms_tb := ms_i7 46 (by decide +kernel) (by decide +kernel)
theorem ms_k1488 : (Jvm.Cond.laysFinal "MarkupStoreModel" "MarkupStoreModel" "result" "[I") ∈ ms_tb := ms_i7 48 (by decide +kernel) (by decide +kernel)
theorem ms_k1490 : (Jvm.Cond.lays "MarkupStoreModel" "MarkupStoreModel" "total" "I") ∈ ms_tb := ms_i7 50 (by decide +kernel) (by decide +kernel)
theorem ms_k1492 : (Jvm.Cond.lays "MarkupStoreModel" "MarkupStoreModel" "wanted" "I") ∈ ms_tb := ms_i7 52 (by decide +kernel) (by decide +kernel)
theorem ms_k1494 : (Jvm.Cond.lays "MarkupStoreModel" "MarkupStoreModel" "found" "I") ∈ ms_tb := ms_i7 54 (by decide +kernel) (by decide +kernel)
theorem kn0 : ∀ a, a < 6 → ∀ b, b < 6 → a ≠ b → (kT0 a).2.1 ≠ (kT0 b).2.1 := by decide +kernel
theorem kp0 : ∀ k, k < 6 → parseFieldDescriptor (kT0 k).2.2.1 = some (kt0 k) := by decide +kernel
theorem ku0 : ∀ w ∈ u_ws kR0 kT0 6, w ∈ ms_tb := List.forall_mem_cons.mpr ⟨ms_k111, List.forall_mem_cons.mpr ⟨ms_k113, List.forall_mem_cons.mpr ⟨ms_k115, List.forall_mem_cons.mpr ⟨ms_k117, List.forall_mem_cons.mpr ⟨ms_k119, List.forall_mem_cons.mpr ⟨ms_k121, fun _ h => absurd h List.not_mem_nil⟩⟩⟩⟩⟩⟩
theorem kz0 : ∀ j, j < 6 → defaultValue (kt0 j) = vp_V [.null, .null, .null, .null, .int 0, .int 0] j := by
  intro j hj
  rcases (show j = 0 ∨ j = 1 ∨ j = 2 ∨ j = 3 ∨ j = 4 ∨ j = 5 by omega) with rfl | rfl | rfl | rfl | rfl | rfl <;> rfl
theorem kn1 : ∀ a, a < 6 → ∀ b, b < 6 → a ≠ b → (kT1 a).2.1 ≠ (kT1 b).2.1 := by decide +kernel
theorem kp1 : ∀ k, k < 6 → parseFieldDescriptor (kT1 k).2.2.1 = some (kt1 k) := by decide +kernel
theorem ku1 : ∀ w ∈ u_ws kR1 kT1 6, w ∈ ms_tb := List.forall_mem_cons.mpr ⟨ms_k92, List.forall_mem_cons.mpr ⟨ms_k94, List.forall_mem_cons.mpr ⟨ms_k96, List.forall_mem_cons.mpr ⟨ms_k98, List.forall_mem_cons.mpr ⟨ms_k100, List.forall_mem_cons.mpr ⟨ms_k102, fun _ h => absurd h List.not_mem_nil⟩⟩⟩⟩⟩⟩
theorem kz1 : ∀ j, j < 6 → defaultValue (kt1 j) = vp_V [.null, .int 0, .null, .int 0, .null, .int 0] j := by
  intro j hj
  rcases (show j = 0 ∨ j = 1 ∨ j = 2 ∨ j = 3 ∨ j = 4 ∨ j = 5 by omega) with rfl | rfl | rfl | rfl | rfl | rfl <;> rfl
theorem kn2 : ∀ a, a < 60 → ∀ b, b < 60 → a ≠ b → (kT2 a).2.1 ≠ (kT2 b).2.1 := by decide +kernel
theorem kp2 : ∀ k, k < 60 → parseFieldDescriptor (kT2 k).2.2.1 = some (kt2 k) := by decide +kernel
theorem ku2 : ∀ w ∈ u_ws kR2 kT2 60, w ∈ ms_tb := List.forall_mem_cons.mpr ⟨ms_k1376, List.forall_mem_cons.mpr ⟨ms_k1378, List.forall_mem_cons.mpr ⟨ms_k1380, List.forall_mem_cons.mpr ⟨ms_k1382, List.forall_mem_cons.mpr ⟨ms_k1384, List.forall_mem_cons.mpr ⟨ms_k1386, List.forall_mem_cons.mpr ⟨ms_k1388, List.forall_mem_cons.mpr ⟨ms_k1390, List.forall_mem_cons.mpr ⟨ms_k1392, List.forall_mem_cons.mpr ⟨ms_k1394, List.forall_mem_cons.mpr ⟨ms_k1396, List.forall_mem_cons.mpr ⟨ms_k1398, List.forall_mem_cons.mpr ⟨ms_k1400, List.forall_mem_cons.mpr ⟨ms_k1402, List.forall_mem_cons.mpr ⟨ms_k1404, List.forall_mem_cons.mpr ⟨ms_k1406, List.forall_mem_cons.mpr ⟨ms_k1408, List.forall_mem_cons.mpr ⟨ms_k1410, List.forall_mem_cons.mpr ⟨ms_k1412, List.forall_mem_cons.mpr ⟨ms_k1414, List.forall_mem_cons.mpr ⟨ms_k1416, List.forall_mem_cons.mpr ⟨ms_k1418, List.forall_mem_cons.mpr ⟨ms_k1420, List.forall_mem_cons.mpr ⟨ms_k1422, List.forall_mem_cons.mpr ⟨ms_k1424, List.forall_mem_cons.mpr ⟨ms_k1426, List.forall_mem_cons.mpr ⟨ms_k1428, List.forall_mem_cons.mpr ⟨ms_k1430, List.forall_mem_cons.mpr ⟨ms_k1432, List.forall_mem_cons.mpr ⟨ms_k1434, List.forall_mem_cons.mpr ⟨ms_k1436, List.forall_mem_cons.mpr ⟨ms_k1438, List.forall_mem_cons.mpr ⟨ms_k1440, List.forall_mem_cons.mpr ⟨ms_k1442, List.forall_mem_cons.mpr ⟨ms_k1444, List.forall_mem_cons.mpr ⟨ms_k1446, List.forall_mem_cons.mpr ⟨ms_k1448, List.forall_mem_cons.mpr ⟨ms_k1450, List.forall_mem_cons.mpr ⟨ms_k1452, List.forall_mem_cons.mpr ⟨ms_k1454, List.forall_mem_cons.mpr ⟨ms_k1456, List.forall_mem_cons.mpr ⟨ms_k1458, List.forall_mem_cons.mpr ⟨ms_k1460, List.forall_mem_cons.mpr ⟨ms_k1462, List.forall_mem_cons.mpr ⟨ms_k1464, List.forall_mem_cons.mpr ⟨ms_k1466, List.forall_mem_cons.mpr ⟨ms_k1468, List.forall_mem_cons.mpr ⟨ms_k1470, List.forall_mem_cons.mpr ⟨ms_k1472, List.forall_mem_cons.mpr ⟨ms_k1474, List.forall_mem_cons.mpr ⟨ms_k1476, List.forall_mem_cons.mpr ⟨ms_k1478, List.forall_mem_cons.mpr ⟨ms_k1480, List.forall_mem_cons.mpr ⟨ms_k1482, List.forall_mem_cons.mpr ⟨ms_k1484, List.forall_mem_cons.mpr ⟨ms_k1486, List.forall_mem_cons.mpr ⟨ms_k1488, List.forall_mem_cons.mpr ⟨ms_k1490, List.forall_mem_cons.mpr ⟨ms_k1492, List.forall_mem_cons.mpr ⟨ms_k1494, fun _ h => absurd h List.not_mem_nil⟩⟩⟩⟩⟩⟩⟩⟩⟩⟩⟩⟩⟩⟩⟩⟩⟩⟩⟩⟩⟩⟩⟩⟩⟩⟩⟩⟩⟩⟩⟩⟩⟩⟩⟩⟩⟩⟩⟩⟩⟩⟩⟩⟩⟩⟩⟩⟩⟩⟩⟩⟩⟩⟩⟩⟩⟩⟩⟩⟩
theorem kz2 : ∀ j, j < 60 → defaultValue (kt2 j) = vp_V [.null, .null, .null, .null, .int 0, .int 0, .null, .int 0, .int 0, .int 0, .int 0, .int 0, .int 0, .int 0, .int 0, .null, .null, .null, .int 0, .int 0, .null, .null, .null, .int 0, .int 0, .null, .null, .null, .null, .null, .null, .int 0, .null, .null, .null, .null, .null, .null, .null, .null, .null, .null, .null, .int 0, .null, .int 0, .int 0, .int 0, .int 0, .int 0, .null, .null, .null, .int 0, .null, .int 0, .null, .int 0, .int 0, .int 0] j := by
  intro j hj
  rcases (show j = 0 ∨ j = 1 ∨ j = 2 ∨ j = 3 ∨ j = 4 ∨ j = 5 ∨ j = 6 ∨ j = 7 ∨ j = 8 ∨ j = 9 ∨ j = 10 ∨ j = 11 ∨ j = 12 ∨ j = 13 ∨ j = 14 ∨ j = 15 ∨ j = 16 ∨ j = 17 ∨ j = 18 ∨ j = 19 ∨ j = 20 ∨ j = 21 ∨ j = 22 ∨ j = 23 ∨ j = 24 ∨ j = 25 ∨ j = 26 ∨ j = 27 ∨ j = 28 ∨ j = 29 ∨ j = 30 ∨ j = 31 ∨ j = 32 ∨ j = 33 ∨ j = 34 ∨ j = 35 ∨ j = 36 ∨ j = 37 ∨ j = 38 ∨ j = 39 ∨ j = 40 ∨ j = 41 ∨ j = 42 ∨ j = 43 ∨ j = 44 ∨ j = 45 ∨ j = 46 ∨ j = 47 ∨ j = 48 ∨ j = 49 ∨ j = 50 ∨ j = 51 ∨ j = 52 ∨ j = 53 ∨ j = 54 ∨ j = 55 ∨ j = 56 ∨ j = 57 ∨ j = 58 ∨ j = 59 by omega) with rfl | rfl | rfl | rfl | rfl | rfl | rfl | rfl | rfl | rfl | rfl | rfl | rfl | rfl | rfl | rfl | rfl | rfl | rfl | rfl | rfl | rfl | rfl | rfl | rfl | rfl | rfl | rfl | rfl | rfl | rfl | rfl | rfl | rfl | rfl | rfl | rfl | rfl | rfl | rfl | rfl | rfl | rfl | rfl | rfl | rfl | rfl | rfl | rfl | rfl | rfl | rfl | rfl | rfl | rfl | rfl | rfl | rfl | rfl | rfl <;> rfl
theorem kn3 : ∀ a, a < 4 → ∀ b, b < 4 → a ≠ b → (kT3 a).2.1 ≠ (kT3 b).2.1 := by decide +kernel
theorem kp3 : ∀ k, k < 4 → parseFieldDescriptor (kT3 k).2.2.1 = some (kt3 k) := by decide +kernel
theorem ku3 : ∀ w ∈ u_ws kR3 kT3 4, w ∈ ms_tb := List.forall_mem_cons.mpr ⟨ms_k62, List.forall_mem_cons.mpr ⟨ms_k64, List.forall_mem_cons.mpr ⟨ms_k66, List.forall_mem_cons.mpr ⟨ms_k68, fun _ h => absurd h List.not_mem_nil⟩⟩⟩⟩
theorem kz3 : ∀ j, j < 4 → defaultValue (kt3 j) = vp_V [.null, .int 0, .int 0, .int 0] j := by
  intro j hj
  rcases (show j = 0 ∨ j = 1 ∨ j = 2 ∨ j = 3 by omega) with rfl | rfl | rfl | rfl <;> rfl
theorem kn4 : ∀ a, a < 3 → ∀ b, b < 3 → a ≠ b → (kT4 a).2.1 ≠ (kT4 b).2.1 := by decide +kernel
theorem kp4 : ∀ k, k < 3 → parseFieldDescriptor (kT4 k).2.2.1 = some (kt4 k) := by decide +kernel
theorem ku4 : ∀ w ∈ u_ws kR4 kT4 3, w ∈ ms_tb := List.forall_mem_cons.mpr ⟨ms_k345, List.forall_mem_cons.mpr ⟨ms_k341, List.forall_mem_cons.mpr ⟨ms_k343, fun _ h => absurd h List.not_mem_nil⟩⟩⟩
theorem kz4 : ∀ j, j < 3 → defaultValue (kt4 j) = vp_V [.int 0, .null, .int 0] j := by
  intro j hj
  rcases (show j = 0 ∨ j = 1 ∨ j = 2 by omega) with rfl | rfl | rfl <;> rfl
theorem kn5 : ∀ a, a < 4 → ∀ b, b < 4 → a ≠ b → (kT5 a).2.1 ≠ (kT5 b).2.1 := by decide +kernel
theorem kp5 : ∀ k, k < 4 → parseFieldDescriptor (kT5 k).2.2.1 = some (kt5 k) := by decide +kernel
theorem ku5 : ∀ w ∈ u_ws kR5 kT5 4, w ∈ ms_tb := List.forall_mem_cons.mpr ⟨ms_k286, List.forall_mem_cons.mpr ⟨ms_k288, List.forall_mem_cons.mpr ⟨ms_k290, List.forall_mem_cons.mpr ⟨ms_k292, fun _ h => absurd h List.not_mem_nil⟩⟩⟩⟩
theorem kz5 : ∀ j, j < 4 → defaultValue (kt5 j) = vp_V [.null, .int 0, .int 0, .int 0] j := by
  intro j hj
  rcases (show j = 0 ∨ j = 1 ∨ j = 2 ∨ j = 3 by omega) with rfl | rfl | rfl | rfl <;> rfl
theorem kn6 : ∀ a, a < 6 → ∀ b, b < 6 → a ≠ b → (kT6 a).2.1 ≠ (kT6 b).2.1 := by decide +kernel
theorem kp6 : ∀ k, k < 6 → parseFieldDescriptor (kT6 k).2.2.1 = some (kt6 k) := by decide +kernel
theorem ku6 : ∀ w ∈ u_ws kR6 kT6 6, w ∈ ms_tb := List.forall_mem_cons.mpr ⟨ms_k373, List.forall_mem_cons.mpr ⟨ms_k375, List.forall_mem_cons.mpr ⟨ms_k377, List.forall_mem_cons.mpr ⟨ms_k367, List.forall_mem_cons.mpr ⟨ms_k369, List.forall_mem_cons.mpr ⟨ms_k371, fun _ h => absurd h List.not_mem_nil⟩⟩⟩⟩⟩⟩
theorem kz6 : ∀ j, j < 6 → defaultValue (kt6 j) = vp_V [.null, .int 0, .int 0, .null, .null, .int 0] j := by
  intro j hj
  rcases (show j = 0 ∨ j = 1 ∨ j = 2 ∨ j = 3 ∨ j = 4 ∨ j = 5 by omega) with rfl | rfl | rfl | rfl | rfl | rfl <;> rfl
theorem kn7 : ∀ a, a < 3 → ∀ b, b < 3 → a ≠ b → (kT7 a).2.1 ≠ (kT7 b).2.1 := by decide +kernel
theorem kp7 : ∀ k, k < 3 → parseFieldDescriptor (kT7 k).2.2.1 = some (kt7 k) := by decide +kernel
theorem ku7 : ∀ w ∈ u_ws kR7 kT7 3, w ∈ ms_tb := List.forall_mem_cons.mpr ⟨ms_k1257, List.forall_mem_cons.mpr ⟨ms_k1259, List.forall_mem_cons.mpr ⟨ms_k1261, fun _ h => absurd h List.not_mem_nil⟩⟩⟩
theorem kz7 : ∀ j, j < 3 → defaultValue (kt7 j) = vp_V [.int 0, .int 0, .int 0] j := by
  intro j hj
  rcases (show j = 0 ∨ j = 1 ∨ j = 2 by omega) with rfl | rfl | rfl <;> rfl
theorem kn8 : ∀ a, a < 9 → ∀ b, b < 9 → a ≠ b → (kT8 a).2.1 ≠ (kT8 b).2.1 := by decide +kernel
theorem kp8 : ∀ k, k < 9 → parseFieldDescriptor (kT8 k).2.2.1 = some (kt8 k) := by decide +kernel
theorem ku8 : ∀ w ∈ u_ws kR8 kT8 9, w ∈ ms_tb := List.forall_mem_cons.mpr ⟨ms_k475, List.forall_mem_cons.mpr ⟨ms_k477, List.forall_mem_cons.mpr ⟨ms_k479, List.forall_mem_cons.mpr ⟨ms_k481, List.forall_mem_cons.mpr ⟨ms_k483, List.forall_mem_cons.mpr ⟨ms_k485, List.forall_mem_cons.mpr ⟨ms_k487, List.forall_mem_cons.mpr ⟨ms_k489, List.forall_mem_cons.mpr ⟨ms_k491, fun _ h => absurd h List.not_mem_nil⟩⟩⟩⟩⟩⟩⟩⟩⟩
theorem kz8 : ∀ j, j < 9 → defaultValue (kt8 j) = vp_V [.int 0, .null, .int 0, .null, .null, .int 0, .int 0, .null, .null] j := by
  intro j hj
  rcases (show j = 0 ∨ j = 1 ∨ j = 2 ∨ j = 3 ∨ j = 4 ∨ j = 5 ∨ j = 6 ∨ j = 7 ∨ j = 8 by omega) with rfl | rfl | rfl | rfl | rfl | rfl | rfl | rfl | rfl <;> rfl
theorem kn9 : ∀ a, a < 2 → ∀ b, b < 2 → a ≠ b → (kT9 a).2.1 ≠ (kT9 b).2.1 := by decide +kernel
theorem kp9 : ∀ k, k < 2 → parseFieldDescriptor (kT9 k).2.2.1 = some (kt9 k) := by decide +kernel
theorem ku9 : ∀ w ∈ u_ws kR9 kT9 2, w ∈ ms_tb := List.forall_mem_cons.mpr ⟨ms_k664, List.forall_mem_cons.mpr ⟨ms_k666, fun _ h => absurd h List.not_mem_nil⟩⟩
theorem kz9 : ∀ j, j < 2 → defaultValue (kt9 j) = vp_V [.null, .null] j := by
  intro j hj
  rcases (show j = 0 ∨ j = 1 by omega) with rfl | rfl <;> rfl
theorem kn10 : ∀ a, a < 3 → ∀ b, b < 3 → a ≠ b → (kT10 a).2.1 ≠ (kT10 b).2.1 := by decide +kernel
theorem kp10 : ∀ k, k < 3 → parseFieldDescriptor (kT10 k).2.2.1 = some (kt10 k) := by decide +kernel
theorem ku10 : ∀ w ∈ u_ws kR10 kT10 3, w ∈ ms_tb := List.forall_mem_cons.mpr ⟨ms_k876, List.forall_mem_cons.mpr ⟨ms_k877, List.forall_mem_cons.mpr ⟨ms_k878, fun _ h => absurd h List.not_mem_nil⟩⟩⟩
theorem kz10 : ∀ j, j < 3 → defaultValue (kt10 j) = vp_V [.null, .int 0, .int 0] j := by
  intro j hj
  rcases (show j = 0 ∨ j = 1 ∨ j = 2 by omega) with rfl | rfl | rfl <;> rfl
theorem kn11 : ∀ a, a < 2 → ∀ b, b < 2 → a ≠ b → (kT11 a).2.1 ≠ (kT11 b).2.1 := by decide +kernel
theorem kp11 : ∀ k, k < 2 → parseFieldDescriptor (kT11 k).2.2.1 = some (kt11 k) := by decide +kernel
theorem ku11 : ∀ w ∈ u_ws kR11 kT11 2, w ∈ ms_tb := List.forall_mem_cons.mpr ⟨ms_k905, List.forall_mem_cons.mpr ⟨ms_k907, fun _ h => absurd h List.not_mem_nil⟩⟩
theorem kz11 : ∀ j, j < 2 → defaultValue (kt11 j) = vp_V [.int 0, .null] j := by
  intro j hj
  rcases (show j = 0 ∨ j = 1 by omega) with rfl | rfl <;> rfl
theorem kn12 : ∀ a, a < 5 → ∀ b, b < 5 → a ≠ b → (kT12 a).2.1 ≠ (kT12 b).2.1 := by decide +kernel
theorem kp12 : ∀ k, k < 5 → parseFieldDescriptor (kT12 k).2.2.1 = some (kt12 k) := by decide +kernel
theorem ku12 : ∀ w ∈ u_ws kR12 kT12 5, w ∈ ms_tb := List.forall_mem_cons.mpr ⟨ms_k935, List.forall_mem_cons.mpr ⟨ms_k937, List.forall_mem_cons.mpr ⟨ms_k939, List.forall_mem_cons.mpr ⟨ms_k941, List.forall_mem_cons.mpr ⟨ms_k943, fun _ h => absurd h List.not_mem_nil⟩⟩⟩⟩⟩
theorem kz12 : ∀ j, j < 5 → defaultValue (kt12 j) = vp_V [.int 0, .int 0, .null, .null, .long 0] j := by
  intro j hj
  rcases (show j = 0 ∨ j = 1 ∨ j = 2 ∨ j = 3 ∨ j = 4 by omega) with rfl | rfl | rfl | rfl | rfl <;> rfl
theorem kn13 : ∀ a, a < 8 → ∀ b, b < 8 → a ≠ b → (kT13 a).2.1 ≠ (kT13 b).2.1 := by decide +kernel
theorem kp13 : ∀ k, k < 8 → parseFieldDescriptor (kT13 k).2.2.1 = some (kt13 k) := by decide +kernel
theorem ku13 : ∀ w ∈ u_ws kR13 kT13 8, w ∈ ms_tb := List.forall_mem_cons.mpr ⟨ms_k1043, List.forall_mem_cons.mpr ⟨ms_k1045, List.forall_mem_cons.mpr ⟨ms_k1047, List.forall_mem_cons.mpr ⟨ms_k1049, List.forall_mem_cons.mpr ⟨ms_k1051, List.forall_mem_cons.mpr ⟨ms_k1053, List.forall_mem_cons.mpr ⟨ms_k1055, List.forall_mem_cons.mpr ⟨ms_k1057, fun _ h => absurd h List.not_mem_nil⟩⟩⟩⟩⟩⟩⟩⟩
theorem kz13 : ∀ j, j < 8 → defaultValue (kt13 j) = vp_V [.int 0, .int 0, .int 0, .null, .null, .int 0, .null, .long 0] j := by
  intro j hj
  rcases (show j = 0 ∨ j = 1 ∨ j = 2 ∨ j = 3 ∨ j = 4 ∨ j = 5 ∨ j = 6 ∨ j = 7 by omega) with rfl | rfl | rfl | rfl | rfl | rfl | rfl | rfl <;> rfl
theorem kn14 : ∀ a, a < 1 → ∀ b, b < 1 → a ≠ b → (kT14 a).2.1 ≠ (kT14 b).2.1 := by decide +kernel
theorem kp14 : ∀ k, k < 1 → parseFieldDescriptor (kT14 k).2.2.1 = some (kt14 k) := by decide +kernel
theorem ku14 : ∀ w ∈ u_ws kR14 kT14 1, w ∈ ms_tb := List.forall_mem_cons.mpr ⟨ms_k1089, fun _ h => absurd h List.not_mem_nil⟩
theorem kz14 : ∀ j, j < 1 → defaultValue (kt14 j) = vp_V [.null] j := by
  intro j hj
  rcases (show j = 0 by omega) with rfl <;> rfl
theorem ms_x0 : Cond.selects "java/lang/StringBuilder" ⟨"java/lang/AbstractStringBuilder", "ensureCapacityInternal", "(I)V"⟩ ⟨"java/lang/AbstractStringBuilder", "ensureCapacityInternal", "(I)V"⟩ ∈ ms_tb := ms_inX 0 rfl
theorem ms_x1 : Cond.selects "java/lang/StringBuilder" ⟨"java/lang/AbstractStringBuilder", "newCapacity", "(I)I"⟩ ⟨"java/lang/AbstractStringBuilder", "newCapacity", "(I)I"⟩ ∈ ms_tb := ms_inX 1 rfl
theorem ms_x2 : Cond.selects "java/lang/StringBuilder" ⟨"java/lang/AbstractStringBuilder", "inflate", "()V"⟩ ⟨"java/lang/AbstractStringBuilder", "inflate", "()V"⟩ ∈ ms_tb := ms_inX 2 rfl
theorem ms_x3 : Cond.selects "java/lang/StringBuilder" ⟨"java/lang/AbstractStringBuilder", "appendNull", "()Ljava/lang/AbstractStringBuilder;"⟩ ⟨"java/lang/AbstractStringBuilder", "appendNull", "()Ljava/lang/AbstractStringBuilder;"⟩ ∈ ms_tb := ms_inX 3 rfl
theorem ms_x4 : Cond.selects "java/lang/StringBuilder" ⟨"java/lang/AbstractStringBuilder", "putStringAt", "(ILjava/lang/String;)V"⟩ ⟨"java/lang/AbstractStringBuilder", "putStringAt", "(ILjava/lang/String;)V"⟩ ∈ ms_tb := ms_inX 4 rfl
theorem ms_x5 : Cond.selects "java/lang/StringBuilder" ⟨"java/lang/AbstractStringBuilder", "inflateIfNeededFor", "(Ljava/lang/String;)V"⟩ ⟨"java/lang/AbstractStringBuilder", "inflateIfNeededFor", "(Ljava/lang/String;)V"⟩ ∈ ms_tb := ms_inX 5 rfl
