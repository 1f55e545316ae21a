abbrev hCl : List vw_C := [(R_PR, F_PR, 9), (R_MD, F_MD, 46), (R_Name, F_Name, 3), (R_Pack, F_Pack, 4), (R_Pairing, F_Pairing, 2), (R_Printer, F_Printer, 2), (R_Reader, F_Reader, 10), (R_Row, F_Row, 8), (R_Scan, F_Scan, 9)]
abbrev hTy (dA : Nat → ClassId) : List (ClassId × FieldType) := [(dA 0, .char), (dA 1, .object "PackageRows$Row"), (dA 2, .int), (dA 3, .object "PackageRows$Name"), (dA 4, .object "PackageRows$Pack"), (dA 5, .boolean), (dA 6, .byte), (dA 7, .long)]
abbrev sB : List (List Int32) := [[112, 97, 99, 107, 97, 103, 101], [99, 111, 110, 102, 108, 105, 99, 116], [114, 101, 112, 108, 97, 99, 101], [112, 114, 111, 118, 105, 100, 101], [97, 110, 121], [102, 101, 97, 116, 117, 114, 101], [100, 101, 102, 97, 117, 108, 116], [112, 108, 97, 116, 102, 111, 114, 109], [108, 105, 99, 101, 110, 99, 101], [107, 101, 101, 112, 101, 114], [115, 99, 114, 105, 112, 116], [102, 105, 108, 101], [110, 101, 101, 100], [98, 117, 105, 108, 100], [116, 101, 115, 116], [111, 112, 116, 105, 111, 110, 97, 108], [112, 101, 101, 114], [114, 117, 110], [112, 97, 99, 107, 97, 103, 101, 32], [32, 124, 32], [44, 32], [59, 32], [58, 32], [61, 32], [62, 61, 32], [60, 32], [59, 32, 102, 101, 97, 116, 117, 114, 101, 32]]
abbrev sT : hT := ([(R_Reader, 64, "package", [112, 97, 99, 107, 97, 103, 101]), (R_Kind, 13, "conflict", [99, 111, 110, 102, 108, 105, 99, 116]), (R_Kind, 15, "replace", [114, 101, 112, 108, 97, 99, 101]), (R_Kind, 17, "provide", [112, 114, 111, 118, 105, 100, 101]), (R_Kind, 19, "any", [97, 110, 121]), (R_Kind, 21, "feature", [102, 101, 97, 116, 117, 114, 101]), (R_Kind, 23, "default", [100, 101, 102, 97, 117, 108, 116]), (R_Kind, 25, "platform", [112, 108, 97, 116, 102, 111, 114, 109]), (R_Kind, 27, "licence", [108, 105, 99, 101, 110, 99, 101]), (R_Kind, 29, "keeper", [107, 101, 101, 112, 101, 114]), (R_Kind, 31, "script", [115, 99, 114, 105, 112, 116]), (R_Kind, 33, "file", [102, 105, 108, 101]), (R_Kind, 35, "need", [110, 101, 101, 100]), (R_Kind, 37, "build", [98, 117, 105, 108, 100]), (R_Kind, 39, "test", [116, 101, 115, 116]), (R_Kind, 41, "optional", [111, 112, 116, 105, 111, 110, 97, 108]), (R_Kind, 43, "peer", [112, 101, 101, 114]), (R_Kind, 45, "run", [114, 117, 110]), (R_Printer, 31, "package ", [112, 97, 99, 107, 97, 103, 101, 32]), (R_Printer, 70, " | ", [32, 124, 32]), (R_Printer, 72, ", ", [44, 32]), (R_Printer, 74, "; ", [59, 32]), (R_Printer, 102, ": ", [58, 32]), (R_Printer, 132, "= ", [61, 32]), (R_Printer, 134, ">= ", [62, 61, 32]), (R_Printer, 136, "< ", [60, 32]), (R_Printer, 128, "; feature ", [59, 32, 102, 101, 97, 116, 117, 114, 101, 32])], [R_Row, R_Name, R_Pack], [(R_Reader, 11, y_Scan_init, R_PR), (R_PR, 11, y_Reader_init, R_PR), (R_PR, 29, y_Printer_init, R_PR), (R_PR, 36, y_Pairing_init, R_PR)])
def wsA_0 : List Cond := [.methodLink R_PR 3 Lib.objectInit,
  .instanceMethod Lib.objectInit,
  .code Lib.objectInit object_method_1_code 1 none,
  .classLink R_PR 9 R_Reader,
  .instantiable R_Reader 10,
  .initialized R_Reader,
  .methodLink R_Reader 3 Lib.objectInit,
  .classLink R_Reader 9 R_Scan,
  .instantiable R_Scan 9,
  .initialized R_Scan,
  .methodLink R_Scan 3 Lib.objectInit,
  .arrayClass .char,
  .fieldLink R_Scan 9 "PackageRows$Scan" "signs" "[C",
  .code y_Scan_init b_Scan_init 1 none,
  .instanceMethod y_Scan_init,
  .fieldLink R_Reader 12 "PackageRows$Reader" "scan" "LPackageRows$Scan;",
  .classLink R_Reader 18 R_Row,
  .fieldLink R_Reader 20 "PackageRows$Reader" "rows" "[LPackageRows$Row;",
  .arrayClass .int,
  .fieldLink R_Reader 24 "PackageRows$Reader" "namePlaces" "[I",
  .classLink R_Reader 28 R_Name,
  .fieldLink R_Reader 30 "PackageRows$Reader" "features" "[LPackageRows$Name;",
  .code y_Reader_init b_Reader_init 1 none,
  .instanceMethod y_Reader_init,
  .fieldLink R_PR 12 "PackageRows" "reader" "LPackageRows$Reader;",
  .fieldLink R_PR 16 "PackageRows$Reader" "scan" "LPackageRows$Scan;",
  .fieldLink R_PR 20 "PackageRows" "scan" "LPackageRows$Scan;",
  .classLink R_PR 21 R_Pack,
  .fieldLink R_PR 23 "PackageRows" "packs" "[LPackageRows$Pack;",
  .classLink R_PR 27 R_Printer,
  .instantiable R_Printer 2,
  .initialized R_Printer,
  .methodLink R_Printer 3 Lib.objectInit,
  .fieldLink R_Printer 9 "PackageRows$Printer" "signs" "[C",
  .code y_Printer_init b_Printer_init 1 none,
  .instanceMethod y_Printer_init,
  .fieldLink R_PR 30 "PackageRows" "printer" "LPackageRows$Printer;",
  .classLink R_PR 34 R_Pairing,
  .instantiable R_Pairing 2,
  .initialized R_Pairing,
  .methodLink R_Pairing 3 Lib.objectInit,
  .arrayClass .boolean,
  .fieldLink R_Pairing 9 "PackageRows$Pairing" "firstPaired" "[Z",
  .fieldLink R_Pairing 15 "PackageRows$Pairing" "secondPaired" "[Z",
  .code y_Pairing_init b_Pairing_init 1 none,
  .instanceMethod y_Pairing_init,
  .fieldLink R_PR 37 "PackageRows" "pairing" "LPackageRows$Pairing;",
  .fieldLink R_PR 41 "PackageRows" "told" "[I",
  .constantLong R_PR 45 255,
  .fieldLink R_Scan 15 "PackageRows$Scan" "count" "I",
  .methodLink R_PR 47 y_Scan_collect,
  .instanceMethod y_Scan_collect,
  .selects R_Scan y_Scan_collect y_Scan_collect,
  .code y_Scan_collect b_Scan_collect 2 none,
  .fieldLink R_Scan 19 "PackageRows$Scan" "place" "I",
  .fieldLink R_Scan 22 "PackageRows$Scan" "refused" "I",
  .fieldLink R_Scan 25 "PackageRows$Scan" "wordFrom" "I",
  .fieldLink R_Scan 28 "PackageRows$Scan" "wordTo" "I",
  .methodLink R_PR 53 y_Scan_begin,
  .instanceMethod y_Scan_begin,
  .selects R_Scan y_Scan_begin y_Scan_begin,
  .code y_Scan_begin b_Scan_begin 1 none,
  .fieldLink R_Reader 34 "PackageRows$Reader" "rowCount" "I",
  .fieldLink R_Reader 176 "PackageRows$Row" "kind" "I",
  .fieldLink R_Reader 179 "PackageRows$Row" "name" "LPackageRows$Name;",
  .fieldLink R_Reader 38 "PackageRows$Reader" "featureCount" "I",
  .fieldLink R_Name 26 "PackageRows$Name" "foldedLength" "I",
  .fieldLink R_Name 15 "PackageRows$Name" "folded" "[C",
  .methodLink R_Name 30 Lib.Math.min.name,
  .static Lib.Math.min.name,
  .initialized "java/lang/Math",
  .code Lib.Math.min.name Lib.Math.min.code 2 (some .int),
  .methodLink R_Name 36 y_Name_order,
  .instanceMethod y_Name_order,
  .selects R_Name y_Name_order y_Name_order,
  .initialized R_Name,
  .code y_Name_order b_Name_order 4 (some .int),
  .methodLink R_Reader 158 y_Name_foldsLikeOneOf,
  .instanceMethod y_Name_foldsLikeOneOf,
  .selects R_Name y_Name_foldsLikeOneOf y_Name_foldsLikeOneOf,
  .code y_Name_foldsLikeOneOf b_Name_foldsLikeOneOf 4 (some .boolean),
  .methodLink R_Reader 73 y_Scan_refuse,
  .instanceMethod y_Scan_refuse,
  .selects R_Scan y_Scan_refuse y_Scan_refuse,
  .code y_Scan_refuse b_Scan_refuse 2 (some .boolean),
  .methodLink R_Reader 58 y_Reader_defaultsStand,
  .instanceMethod y_Reader_defaultsStand,
  .selects R_Reader y_Reader_defaultsStand y_Reader_defaultsStand,
  .code y_Reader_defaultsStand b_Reader_defaultsStand 2 (some .boolean),
  .methodLink R_Scan 31 y_Scan_skipBlanks,
  .instanceMethod y_Scan_skipBlanks,
  .selects R_Scan y_Scan_skipBlanks y_Scan_skipBlanks,
  .code y_Scan_skipBlanks b_Scan_skipBlanks 1 none,
  .methodLink R_Reader 48 y_Scan_atEnd,
  .instanceMethod y_Scan_atEnd,
  .selects R_Scan y_Scan_atEnd y_Scan_atEnd,
  .code y_Scan_atEnd b_Scan_atEnd 1 (some .boolean),
  .fieldLink R_Reader 70 "PackageRows$Scan" "wordFrom" "I",
  .methodLink R_Scan 38 y_Scan_refuse,
  .methodLink R_Scan 50 y_Scan_isLetter]
def wsA_1 : List Cond := [.static y_Scan_isLetter,
  .code y_Scan_isLetter b_Scan_isLetter 1 (some .boolean),
  .methodLink R_Scan 53 y_Scan_isDigit,
  .static y_Scan_isDigit,
  .code y_Scan_isDigit b_Scan_isDigit 1 (some .boolean),
  .methodLink R_Scan 56 y_Name_isBar,
  .static y_Name_isBar,
  .code y_Name_isBar b_Name_isBar 1 (some .boolean),
  .methodLink R_Scan 42 y_Scan_signHere,
  .instanceMethod y_Scan_signHere,
  .selects R_Scan y_Scan_signHere y_Scan_signHere,
  .code y_Scan_signHere b_Scan_signHere 1 (some .char),
  .methodLink R_Scan 71 y_Scan_takeWord,
  .instanceMethod y_Scan_takeWord,
  .selects R_Scan y_Scan_takeWord y_Scan_takeWord,
  .code y_Scan_takeWord b_Scan_takeWord 1 (some .boolean),
  .methodLink R_Reader 77 y_Scan_takeName,
  .instanceMethod y_Scan_takeName,
  .selects R_Scan y_Scan_takeName y_Scan_takeName,
  .code y_Scan_takeName b_Scan_takeName 1 (some .boolean),
  .classLink R_Scan 57 R_Name,
  .instantiable R_Name 3,
  .fieldLink R_Name 9 "PackageRows$Name" "written" "[C",
  .methodLink R_Name 18 y_Name_isBar,
  .methodLink R_Name 22 y_Name_smallLetter,
  .static y_Name_smallLetter,
  .code y_Name_smallLetter b_Name_smallLetter 1 (some .char),
  .methodLink R_Name 3 Lib.objectInit,
  .code y_Name_init b_Name_init 9 none,
  .methodLink R_Scan 74 y_Name_init,
  .instanceMethod y_Name_init,
  .methodLink R_Reader 80 y_Scan_takenName,
  .instanceMethod y_Scan_takenName,
  .selects R_Scan y_Scan_takenName y_Scan_takenName,
  .code y_Scan_takenName b_Scan_takenName 1 (some (.object "PackageRows$Name")),
  .fieldLink R_Scan 77 "PackageRows$Scan" "value" "J",
  .constantLong R_Scan 81 10,
  .constantLong R_Scan 83 48,
  .methodLink R_Scan 85 y_Scan_takeNumber,
  .instanceMethod y_Scan_takeNumber,
  .selects R_Scan y_Scan_takeNumber y_Scan_takeNumber,
  .code y_Scan_takeNumber b_Scan_takeNumber 4 (some .boolean),
  .constantLong R_Scan 88 1000000,
  .methodLink R_Reader 88 y_Scan_takeVersion,
  .instanceMethod y_Scan_takeVersion,
  .selects R_Scan y_Scan_takeVersion y_Scan_takeVersion,
  .code y_Scan_takeVersion b_Scan_takeVersion 5 (some .boolean),
  .fieldLink R_Reader 91 "PackageRows$Scan" "value" "J",
  .fieldLink R_Reader 98 "PackageRows$Reader" "textRowPlace" "I",
  .methodLink R_Row 1 Lib.objectInit,
  .fieldLink R_Row 7 "PackageRows$Row" "kind" "I",
  .fieldLink R_Row 13 "PackageRows$Row" "set" "I",
  .fieldLink R_Row 16 "PackageRows$Row" "name" "LPackageRows$Name;",
  .fieldLink R_Row 20 "PackageRows$Row" "other" "LPackageRows$Name;",
  .fieldLink R_Row 23 "PackageRows$Row" "least" "J",
  .fieldLink R_Row 27 "PackageRows$Row" "end" "J",
  .code y_Row_init b_Row_init 9 none,
  .initialized R_Row,
  .methodLink R_Reader 173 y_Row_init,
  .instanceMethod y_Row_init,
  .instantiable R_Row 8,
  .fieldLink R_Reader 41 "PackageRows$Reader" "set" "I",
  .methodLink R_Reader 148 y_Reader_addRow,
  .instanceMethod y_Reader_addRow,
  .selects R_Reader y_Reader_addRow y_Reader_addRow,
  .code y_Reader_addRow b_Reader_addRow 8 (some .boolean),
  .methodLink R_Reader 110 y_Reader_takeProvided,
  .instanceMethod y_Reader_takeProvided,
  .selects R_Reader y_Reader_takeProvided y_Reader_takeProvided,
  .code y_Reader_takeProvided b_Reader_takeProvided 2 (some .boolean),
  .methodLink R_Scan 46 y_Scan_takeIfNext,
  .instanceMethod y_Scan_takeIfNext,
  .selects R_Scan y_Scan_takeIfNext y_Scan_takeIfNext,
  .code y_Scan_takeIfNext b_Scan_takeIfNext 2 (some .boolean),
  .methodLink R_Reader 54 y_Scan_takeSign,
  .instanceMethod y_Scan_takeSign,
  .selects R_Scan y_Scan_takeSign y_Scan_takeSign,
  .code y_Scan_takeSign b_Scan_takeSign 2 (some .boolean),
  .methodLink R_Reader 162 y_Scan_isNext,
  .instanceMethod y_Scan_isNext,
  .selects R_Scan y_Scan_isNext y_Scan_isNext,
  .code y_Scan_isNext b_Scan_isNext 2 (some .boolean),
  .constantLong R_Reader 165 (-1),
  .methodLink R_Reader 152 y_Scan_takeIfNext,
  .methodLink R_Reader 125 y_Reader_takeNames,
  .instanceMethod y_Reader_takeNames,
  .selects R_Reader y_Reader_takeNames y_Reader_takeNames,
  .code y_Reader_takeNames b_Reader_takeNames 4 (some .boolean),
  .methodLink R_Reader 113 y_Reader_takeFeature,
  .instanceMethod y_Reader_takeFeature,
  .selects R_Reader y_Reader_takeFeature y_Reader_takeFeature,
  .code y_Reader_takeFeature b_Reader_takeFeature 2 (some .boolean),
  .methodLink R_Reader 116 y_Reader_takeScript,
  .instanceMethod y_Reader_takeScript,
  .selects R_Reader y_Reader_takeScript y_Reader_takeScript,
  .code y_Reader_takeScript b_Reader_takeScript 2 (some .boolean),
  .methodLink R_Reader 167 y_Scan_skipBlanks,
  .methodLink R_Reader 170 y_Scan_takeNumber,
  .methodLink R_Reader 119 y_Reader_takeFile,
  .instanceMethod y_Reader_takeFile]
def wsA_2 : List Cond := [.selects R_Reader y_Reader_takeFile y_Reader_takeFile,
  .code y_Reader_takeFile b_Reader_takeFile 2 (some .boolean),
  .methodLink R_Reader 122 y_Kind_isList,
  .static y_Kind_isList,
  .initialized R_Kind,
  .code y_Kind_isList b_Kind_isList 1 (some .boolean),
  .fieldLink R_Scan 90 "PackageRows$Scan" "least" "J",
  .fieldLink R_Scan 95 "PackageRows$Scan" "end" "J",
  .methodLink R_Scan 98 y_Scan_takeVersion,
  .methodLink R_Scan 111 Lib.MathLoose.min_long.x,
  .static Lib.MathLoose.min_long.x,
  .code Lib.MathLoose.min_long.x Lib.MathLoose.min_long.code 4 (some .long),
  .methodLink R_Scan 105 Lib.MathLoose.max_long.x,
  .static Lib.MathLoose.max_long.x,
  .code Lib.MathLoose.max_long.x Lib.MathLoose.max_long.code 4 (some .long),
  .methodLink R_Scan 101 y_Scan_narrow,
  .instanceMethod y_Scan_narrow,
  .selects R_Scan y_Scan_narrow y_Scan_narrow,
  .code y_Scan_narrow b_Scan_narrow 5 none,
  .constantLong R_Scan 93 1000000000000000000,
  .methodLink R_Reader 139 y_Scan_takeRange,
  .instanceMethod y_Scan_takeRange,
  .selects R_Scan y_Scan_takeRange y_Scan_takeRange,
  .code y_Scan_takeRange b_Scan_takeRange 4 (some .boolean),
  .fieldLink R_Reader 142 "PackageRows$Scan" "least" "J",
  .fieldLink R_Reader 145 "PackageRows$Scan" "end" "J",
  .fieldLink R_Reader 155 "PackageRows$Scan" "place" "I",
  .methodLink R_Reader 129 y_Reader_takeRanged,
  .instanceMethod y_Reader_takeRanged,
  .selects R_Reader y_Reader_takeRanged y_Reader_takeRanged,
  .code y_Reader_takeRanged b_Reader_takeRanged 5 (some .boolean),
  .methodLink R_Reader 61 y_Scan_takeWord,
  .methodLink R_Reader 132 y_Kind_firstWord,
  .static y_Kind_firstWord,
  .code y_Kind_firstWord b_Kind_firstWord 1 (some (.object "java/lang/String")),
  .methodLink R_Scan 61 y_String_length,
  .methodLink R_Scan 67 y_String_charAt,
  .methodLink R_Reader 66 y_Scan_isWord,
  .instanceMethod y_Scan_isWord,
  .selects R_Scan y_Scan_isWord y_Scan_isWord,
  .code y_Scan_isWord b_Scan_isWord 3 (some .boolean),
  .methodLink R_Reader 101 y_Reader_kindOfFirstWord,
  .instanceMethod y_Reader_kindOfFirstWord,
  .selects R_Reader y_Reader_kindOfFirstWord y_Reader_kindOfFirstWord,
  .code y_Reader_kindOfFirstWord b_Reader_kindOfFirstWord 2 (some .int),
  .methodLink R_Reader 136 y_Kind_needWord,
  .static y_Kind_needWord,
  .code y_Kind_needWord b_Kind_needWord 1 (some (.object "java/lang/String")),
  .methodLink R_Reader 107 y_Reader_kindOfNeedWord,
  .instanceMethod y_Reader_kindOfNeedWord,
  .selects R_Reader y_Reader_kindOfNeedWord y_Reader_kindOfNeedWord,
  .code y_Reader_kindOfNeedWord b_Reader_kindOfNeedWord 2 (some .int),
  .methodLink R_Reader 51 y_Reader_takeTextRow,
  .instanceMethod y_Reader_takeTextRow,
  .selects R_Reader y_Reader_takeTextRow y_Reader_takeTextRow,
  .code y_Reader_takeTextRow b_Reader_takeTextRow 2 (some .boolean),
  .fieldLink R_Reader 84 "PackageRows$Reader" "name" "LPackageRows$Name;",
  .fieldLink R_Reader 95 "PackageRows$Reader" "version" "J",
  .methodLink R_Reader 44 y_Reader_takeHead,
  .instanceMethod y_Reader_takeHead,
  .selects R_Reader y_Reader_takeHead y_Reader_takeHead,
  .code y_Reader_takeHead b_Reader_takeHead 1 (some .boolean),
  .methodLink R_PR 56 y_Reader_takeText,
  .instanceMethod y_Reader_takeText,
  .selects R_Reader y_Reader_takeText y_Reader_takeText,
  .code y_Reader_takeText b_Reader_takeText 2 (some .boolean),
  .methodLink R_PR 60 y_Scan_useUp,
  .instanceMethod y_Scan_useUp,
  .selects R_Scan y_Scan_useUp y_Scan_useUp,
  .code y_Scan_useUp b_Scan_useUp 1 none,
  .fieldLink R_PR 67 "PackageRows" "packCount" "I",
  .classLink R_Reader 186 R_Pack,
  .instantiable R_Pack 4,
  .initialized R_Pack,
  .methodLink R_Pack 1 Lib.objectInit,
  .fieldLink R_Pack 7 "PackageRows$Pack" "name" "LPackageRows$Name;",
  .fieldLink R_Pack 13 "PackageRows$Pack" "version" "J",
  .fieldLink R_Pack 17 "PackageRows$Pack" "features" "[LPackageRows$Name;",
  .fieldLink R_Pack 21 "PackageRows$Pack" "rows" "[LPackageRows$Row;",
  .code y_Pack_init b_Pack_init 6 none,
  .methodLink R_Reader 188 y_Pack_init,
  .instanceMethod y_Pack_init,
  .fieldLink R_Pack 68 "PackageRows$Row" "writtenDifferently" "Z",
  .methodLink R_Row 38 y_Kind_hasRange,
  .static y_Kind_hasRange,
  .code y_Kind_hasRange b_Kind_hasRange 1 (some .boolean),
  .methodLink R_Pack 61 y_Row_hasEmptyRange,
  .instanceMethod y_Row_hasEmptyRange,
  .selects R_Row y_Row_hasEmptyRange y_Row_hasEmptyRange,
  .code y_Row_hasEmptyRange b_Row_hasEmptyRange 1 (some .boolean),
  .fieldLink R_Pack 31 "PackageRows$Row" "kind" "I",
  .fieldLink R_Pack 39 "PackageRows$Row" "name" "LPackageRows$Name;",
  .methodLink R_Pack 25 y_Name_foldsLikeOneOf,
  .methodLink R_Pack 47 y_Pack_hasFeature,
  .instanceMethod y_Pack_hasFeature,
  .selects R_Pack y_Pack_hasFeature y_Pack_hasFeature,
  .code y_Pack_hasFeature b_Pack_hasFeature 2 (some .boolean),
  .methodLink R_Pack 40 y_Name_foldsLike,
  .instanceMethod y_Name_foldsLike,
  .selects R_Name y_Name_foldsLike y_Name_foldsLike]
def wsA_3 : List Cond := [.code y_Name_foldsLike b_Name_foldsLike 2 (some .boolean),
  .methodLink R_Pack 65 y_Pack_hasOptionalNeed,
  .instanceMethod y_Pack_hasOptionalNeed,
  .selects R_Pack y_Pack_hasOptionalNeed y_Pack_hasOptionalNeed,
  .code y_Pack_hasOptionalNeed b_Pack_hasOptionalNeed 3 (some .boolean),
  .methodLink R_Pack 57 y_Kind_isNeed,
  .static y_Kind_isNeed,
  .code y_Kind_isNeed b_Kind_isNeed 1 (some .boolean),
  .methodLink R_Pack 50 y_Pack_whyBroken,
  .instanceMethod y_Pack_whyBroken,
  .selects R_Pack y_Pack_whyBroken y_Pack_whyBroken,
  .code y_Pack_whyBroken b_Pack_whyBroken 3 (some .int),
  .fieldLink R_Pack 54 "PackageRows$Row" "why" "I",
  .methodLink R_Reader 191 y_Pack_markBroken,
  .instanceMethod y_Pack_markBroken,
  .selects R_Pack y_Pack_markBroken y_Pack_markBroken,
  .code y_Pack_markBroken b_Pack_markBroken 2 none,
  .methodLink R_Row 42 y_Name_order,
  .methodLink R_Reader 194 y_Row_order,
  .instanceMethod y_Row_order,
  .selects R_Row y_Row_order y_Row_order,
  .code y_Row_order b_Row_order 3 (some .int),
  .methodLink R_Reader 180 y_Reader_sortRows,
  .instanceMethod y_Reader_sortRows,
  .selects R_Reader y_Reader_sortRows y_Reader_sortRows,
  .code y_Reader_sortRows b_Reader_sortRows 4 none,
  .methodLink R_Kind 9 y_Kind_isList,
  .methodLink R_Row 46 y_Kind_joins,
  .static y_Kind_joins,
  .code y_Kind_joins b_Kind_joins 1 (some .boolean),
  .methodLink R_Row 49 y_Row_order,
  .methodLink R_Reader 198 y_Row_joins,
  .instanceMethod y_Row_joins,
  .selects R_Row y_Row_joins y_Row_joins,
  .code y_Row_joins b_Row_joins 2 (some .boolean),
  .methodLink R_Row 59 Lib.MathLoose.max_long.x,
  .methodLink R_Row 65 Lib.MathLoose.min_long.x,
  .methodLink R_Row 68 y_Row_hasEmptyRange,
  .methodLink R_Row 52 y_Name_isWrittenLike,
  .instanceMethod y_Name_isWrittenLike,
  .selects R_Name y_Name_isWrittenLike y_Name_isWrittenLike,
  .code y_Name_isWrittenLike b_Name_isWrittenLike 3 (some .boolean),
  .fieldLink R_Row 55 "PackageRows$Row" "writtenDifferently" "Z",
  .methodLink R_Reader 202 y_Row_join,
  .instanceMethod y_Row_join,
  .selects R_Row y_Row_join y_Row_join,
  .code y_Row_join b_Row_join 2 none,
  .methodLink R_Reader 183 y_Reader_joinRows,
  .instanceMethod y_Reader_joinRows,
  .selects R_Reader y_Reader_joinRows y_Reader_joinRows,
  .code y_Reader_joinRows b_Reader_joinRows 3 none,
  .methodLink R_PR 71 y_Reader_makePack,
  .instanceMethod y_Reader_makePack,
  .selects R_Reader y_Reader_makePack y_Reader_makePack,
  .code y_Reader_makePack b_Reader_makePack 4 (some (.object "PackageRows$Pack")),
  .methodLink R_PR 63 y_Scan_refusal,
  .instanceMethod y_Scan_refusal,
  .selects R_Scan y_Scan_refusal y_Scan_refusal,
  .code y_Scan_refusal b_Scan_refusal 1 (some .int),
  .methodLink R_PR 75 y_PR_packOf,
  .instanceMethod y_PR_packOf,
  .selects R_PR y_PR_packOf y_PR_packOf,
  .initialized R_PR,
  .code y_PR_packOf b_PR_packOf 2 (some (.object "PackageRows$Pack")),
  .fieldLink R_PR 79 "PackageRows$Pack" "rows" "[LPackageRows$Row;",
  .methodLink R_PR 83 y_PR_rowOf,
  .instanceMethod y_PR_rowOf,
  .selects R_PR y_PR_rowOf y_PR_rowOf,
  .code y_PR_rowOf b_PR_rowOf 4 (some (.object "PackageRows$Row")),
  .fieldLink R_PR 87 "PackageRows$Row" "kind" "I",
  .fieldLink R_PR 92 "PackageRows$Row" "set" "I",
  .fieldLink R_PR 95 "PackageRows$Row" "name" "LPackageRows$Name;",
  .fieldLink R_PR 99 "PackageRows$Name" "written" "[C",
  .fieldLink R_PR 105 "PackageRows$Name" "foldedLength" "I",
  .fieldLink R_PR 108 "PackageRows$Row" "why" "I",
  .methodLink R_PR 111 y_Name_writtenAt,
  .instanceMethod y_Name_writtenAt,
  .selects R_Name y_Name_writtenAt y_Name_writtenAt,
  .code y_Name_writtenAt b_Name_writtenAt 2 (some .int),
  .methodLink R_PR 115 y_Name_foldedAt,
  .instanceMethod y_Name_foldedAt,
  .selects R_Name y_Name_foldedAt y_Name_foldedAt,
  .code y_Name_foldedAt b_Name_foldedAt 2 (some .int),
  .fieldLink R_PR 118 "PackageRows$Row" "other" "LPackageRows$Name;",
  .fieldLink R_PR 123 "PackageRows$Row" "least" "J",
  .constantLong R_PR 121 (-1),
  .fieldLink R_PR 127 "PackageRows$Row" "end" "J",
  .methodLink R_PR 130 y_Pack_headsAlike,
  .instanceMethod y_Pack_headsAlike,
  .selects R_Pack y_Pack_headsAlike y_Pack_headsAlike,
  .code y_Pack_headsAlike b_Pack_headsAlike 3 (some .boolean),
  .fieldLink R_Pairing 22 "PackageRows$Pack" "rows" "[LPackageRows$Row;",
  .methodLink R_Pairing 28 y_Row_order,
  .methodLink R_Row 32 y_Name_foldsLike,
  .methodLink R_Pairing 38 y_Row_holdsLike,
  .instanceMethod y_Row_holdsLike,
  .selects R_Row y_Row_holdsLike y_Row_holdsLike,
  .code y_Row_holdsLike b_Row_holdsLike 2 (some .boolean),
  .methodLink R_Pairing 34 y_Pairing_pairFrom,
  .instanceMethod y_Pairing_pairFrom]
def wsA_4 : List Cond := [.selects R_Pairing y_Pairing_pairFrom y_Pairing_pairFrom,
  .code y_Pairing_pairFrom b_Pairing_pairFrom 5 (some .boolean),
  .methodLink R_Pairing 18 y_Pairing_clear,
  .static y_Pairing_clear,
  .code y_Pairing_clear b_Pairing_clear 2 none,
  .methodLink R_PR 134 y_Pairing_countAlone,
  .instanceMethod y_Pairing_countAlone,
  .selects R_Pairing y_Pairing_countAlone y_Pairing_countAlone,
  .code y_Pairing_countAlone b_Pairing_countAlone 7 (some .int),
  .fieldLink R_PR 138 "PackageRows" "toldCount" "I",
  .fieldLink R_PR 141 "PackageRows$Pairing" "firstPaired" "[Z",
  .methodLink R_PR 145 y_PR_tellAlone,
  .instanceMethod y_PR_tellAlone,
  .selects R_PR y_PR_tellAlone y_PR_tellAlone,
  .code y_PR_tellAlone b_PR_tellAlone 4 none,
  .fieldLink R_PR 149 "PackageRows" "toldOfFirst" "I",
  .fieldLink R_PR 152 "PackageRows$Pairing" "secondPaired" "[Z",
  .fieldLink R_Printer 80 "PackageRows$Row" "name" "LPackageRows$Name;",
  .fieldLink R_Printer 144 "PackageRows$Name" "written" "[C",
  .fieldLink R_Printer 15 "PackageRows$Printer" "count" "I",
  .methodLink R_Printer 27 y_Printer_put,
  .instanceMethod y_Printer_put,
  .selects R_Printer y_Printer_put y_Printer_put,
  .code y_Printer_put b_Printer_put 2 none,
  .methodLink R_Printer 43 y_Printer_putName,
  .instanceMethod y_Printer_putName,
  .selects R_Printer y_Printer_putName y_Printer_putName,
  .code y_Printer_putName b_Printer_putName 3 none,
  .fieldLink R_Printer 65 "PackageRows$Row" "kind" "I",
  .fieldLink R_Printer 107 "PackageRows$Row" "least" "J",
  .constantLong R_Printer 142 48,
  .constantLong R_Printer 140 10,
  .methodLink R_Printer 117 y_Printer_putNumber,
  .instanceMethod y_Printer_putNumber,
  .selects R_Printer y_Printer_putNumber y_Printer_putNumber,
  .code y_Printer_putNumber b_Printer_putNumber 6 none,
  .methodLink R_Printer 104 y_Kind_hasRange,
  .fieldLink R_Printer 99 "PackageRows$Row" "other" "LPackageRows$Name;",
  .constantLong R_Printer 138 1000000,
  .methodLink R_Printer 51 y_Printer_putVersion,
  .instanceMethod y_Printer_putVersion,
  .selects R_Printer y_Printer_putVersion y_Printer_putVersion,
  .code y_Printer_putVersion b_Printer_putVersion 3 none,
  .fieldLink R_Printer 110 "PackageRows$Row" "end" "J",
  .constantLong R_Printer 130 1000000000000000000,
  .methodLink R_Printer 147 y_String_length,
  .methodLink R_Printer 153 y_String_charAt,
  .methodLink R_Printer 33 y_Printer_putText,
  .instanceMethod y_Printer_putText,
  .selects R_Printer y_Printer_putText y_Printer_putText,
  .code y_Printer_putText b_Printer_putText 3 none,
  .methodLink R_Printer 113 y_Printer_putRange,
  .instanceMethod y_Printer_putRange,
  .selects R_Printer y_Printer_putRange y_Printer_putRange,
  .code y_Printer_putRange b_Printer_putRange 5 none,
  .methodLink R_Printer 81 y_Printer_putRest,
  .instanceMethod y_Printer_putRest,
  .selects R_Printer y_Printer_putRest y_Printer_putRest,
  .code y_Printer_putRest b_Printer_putRest 2 none,
  .methodLink R_Printer 88 y_Kind_firstWord,
  .methodLink R_Printer 92 y_Kind_isNeed,
  .methodLink R_Printer 96 y_Kind_needWord,
  .methodLink R_Printer 76 y_Printer_putBeginning,
  .instanceMethod y_Printer_putBeginning,
  .selects R_Printer y_Printer_putBeginning y_Printer_putBeginning,
  .code y_Printer_putBeginning b_Printer_putBeginning 2 none,
  .fieldLink R_Printer 55 "PackageRows$Pack" "rows" "[LPackageRows$Row;",
  .fieldLink R_Printer 120 "PackageRows$Pack" "features" "[LPackageRows$Name;",
  .methodLink R_Pack 44 y_Row_isOfFeature,
  .instanceMethod y_Row_isOfFeature,
  .selects R_Row y_Row_isOfFeature y_Row_isOfFeature,
  .code y_Row_isOfFeature b_Row_isOfFeature 2 (some .boolean),
  .methodLink R_Printer 124 y_Pack_hasNamesOf,
  .instanceMethod y_Pack_hasNamesOf,
  .selects R_Pack y_Pack_hasNamesOf y_Pack_hasNamesOf,
  .code y_Pack_hasNamesOf b_Pack_hasNamesOf 3 (some .boolean),
  .methodLink R_Printer 84 y_Printer_putBareFeatures,
  .instanceMethod y_Printer_putBareFeatures,
  .selects R_Printer y_Printer_putBareFeatures y_Printer_putBareFeatures,
  .code y_Printer_putBareFeatures b_Printer_putBareFeatures 3 none,
  .methodLink R_Row 72 y_Kind_isList,
  .methodLink R_Row 75 y_Row_isOfFeature,
  .methodLink R_Printer 59 y_Row_sharesTextRow,
  .instanceMethod y_Row_sharesTextRow,
  .selects R_Row y_Row_sharesTextRow y_Row_sharesTextRow,
  .code y_Row_sharesTextRow b_Row_sharesTextRow 2 (some .boolean),
  .fieldLink R_Printer 37 "PackageRows$Pack" "name" "LPackageRows$Name;",
  .fieldLink R_Printer 47 "PackageRows$Pack" "version" "J",
  .methodLink R_PR 155 y_Printer_printPack,
  .instanceMethod y_Printer_printPack,
  .selects R_Printer y_Printer_printPack y_Printer_printPack,
  .code y_Printer_printPack b_Printer_printPack 4 none,
  .fieldLink R_PR 159 "PackageRows$Printer" "count" "I",
  .methodLink R_PR 168 y_Scan_takenName,
  .fieldLink R_Printer 19 "PackageRows$Name" "foldedLength" "I",
  .fieldLink R_Printer 24 "PackageRows$Name" "folded" "[C",
  .methodLink R_PR 172 y_Printer_printFolded,
  .instanceMethod y_Printer_printFolded,
  .selects R_Printer y_Printer_printFolded y_Printer_printFolded,
  .code y_Printer_printFolded b_Printer_printFolded 3 none]
def wsA_5 : List Cond := [.methodLink R_PR 162 y_Scan_takeName,
  .methodLink R_Scan 34 y_Scan_atEnd,
  .methodLink R_PR 165 y_Scan_takeEnd,
  .instanceMethod y_Scan_takeEnd,
  .selects R_Scan y_Scan_takeEnd y_Scan_takeEnd,
  .code y_Scan_takeEnd b_Scan_takeEnd 1 (some .boolean),
  .fieldLink R_PR 176 "PackageRows$Printer" "signs" "[C",
  .methodLink R_MD 1 Lib.objectInit,
  .arrayClass .byte,
  .fieldLink R_MD 7 "PackageRowsModel" "text" "[B",
  .arrayClass .long,
  .constantLong R_MD 13 7501166,
  .constantLong R_MD 15 422876638308,
  .constantLong R_MD 17 1952805748,
  .constantLong R_MD 19 8030046131791487340,
  .constantLong R_MD 21 1885693298,
  .fieldLink R_MD 23 "PackageRowsModel" "needs" "[J",
  .constantLong R_MD 27 1852138852,
  .constantLong R_MD 29 7165066918354314100,
  .constantLong R_MD 31 32199680874079077,
  .constantLong R_MD 33 31651020445148261,
  .constantLong R_MD 35 6385273,
  .constantLong R_MD 37 28821916864574053,
  .constantLong R_MD 39 28258988067220596,
  .constantLong R_MD 41 8100956982295360109,
  .constantLong R_MD 43 30515173109162853,
  .constantLong R_MD 45 118083237733746,
  .constantLong R_MD 47 126870958469236,
  .constantLong R_MD 49 1718185061,
  .fieldLink R_MD 51 "PackageRowsModel" "kinds" "[J",
  .fieldLink R_MD 54 "PackageRowsModel" "kindOf" "[I",
  .fieldLink R_MD 58 "PackageRowsModel" "packageSize" "[I",
  .fieldLink R_MD 61 "PackageRowsModel" "rowMany" "[I",
  .fieldLink R_MD 64 "PackageRowsModel" "featureMany" "[I",
  .fieldLink R_MD 67 "PackageRowsModel" "packageName" "[B",
  .fieldLink R_MD 70 "PackageRowsModel" "version" "[J",
  .constant R_MD 73 205000,
  .fieldLink R_MD 74 "PackageRowsModel" "feature" "[B",
  .fieldLink R_MD 77 "PackageRowsModel" "featureSize" "[I",
  .fieldLink R_MD 80 "PackageRowsModel" "kind" "[B",
  .fieldLink R_MD 83 "PackageRowsModel" "set" "[I",
  .fieldLink R_MD 86 "PackageRowsModel" "nameSize" "[I",
  .fieldLink R_MD 89 "PackageRowsModel" "otherSize" "[I",
  .constant R_MD 92 164000,
  .fieldLink R_MD 93 "PackageRowsModel" "name" "[B",
  .fieldLink R_MD 96 "PackageRowsModel" "other" "[B",
  .fieldLink R_MD 99 "PackageRowsModel" "low" "[J",
  .fieldLink R_MD 102 "PackageRowsModel" "high" "[J",
  .fieldLink R_MD 105 "PackageRowsModel" "mixed" "[Z",
  .fieldLink R_MD 109 "PackageRowsModel" "defaultAt" "[I",
  .fieldLink R_MD 112 "PackageRowsModel" "defaultSize" "[I",
  .fieldLink R_MD 115 "PackageRowsModel" "one" "[B",
  .fieldLink R_MD 118 "PackageRowsModel" "two" "[B",
  .fieldLink R_MD 121 "PackageRowsModel" "changeWhose" "[I",
  .fieldLink R_MD 124 "PackageRowsModel" "changeRow" "[I",
  .fieldLink R_MD 127 "PackageRowsModel" "taken" "[Z",
  .constant R_MD 130 60000,
  .fieldLink R_MD 131 "PackageRowsModel" "print" "[B",
  .fieldLink R_MD 138 "PackageRowsModel" "size" "I",
  .fieldLink R_MD 134 "PackageRowsModel" "thrown" "I",
  .fieldLink R_MD 147 "PackageRowsModel" "from" "I",
  .fieldLink R_MD 141 "PackageRowsModel" "to" "I",
  .methodLink R_MD 153 y_MD_isLetter,
  .static y_MD_isLetter,
  .initialized R_MD,
  .code y_MD_isLetter b_MD_isLetter 1 (some .boolean),
  .methodLink R_MD 157 y_MD_isDigit,
  .static y_MD_isDigit,
  .code y_MD_isDigit b_MD_isDigit 1 (some .boolean),
  .methodLink R_MD 160 y_MD_isDash,
  .static y_MD_isDash,
  .code y_MD_isDash b_MD_isDash 1 (some .boolean),
  .fieldLink R_MD 150 "PackageRowsModel" "word" "I",
  .fieldLink R_MD 144 "PackageRowsModel" "behind" "I",
  .fieldLink R_MD 163 "PackageRowsModel" "wrong" "I",
  .methodLink R_MD 166 y_MD_isWrong,
  .instanceMethod y_MD_isWrong,
  .selects R_MD y_MD_isWrong y_MD_isWrong,
  .code y_MD_isWrong b_MD_isWrong 1 (some .boolean),
  .methodLink R_MD 173 y_MD_fail,
  .instanceMethod y_MD_fail,
  .selects R_MD y_MD_fail y_MD_fail,
  .code y_MD_fail b_MD_fail 2 none,
  .methodLink R_MD 170 y_MD_next,
  .instanceMethod y_MD_next,
  .selects R_MD y_MD_next y_MD_next,
  .code y_MD_next b_MD_next 3 none,
  .constantLong R_MD 177 10,
  .constantLong R_MD 179 48,
  .constantLong R_MD 187 1000000,
  .methodLink R_MD 189 y_MD_number,
  .instanceMethod y_MD_number,
  .selects R_MD y_MD_number y_MD_number,
  .code y_MD_number b_MD_number 4 (some .long),
  .methodLink R_MD 181 y_MD_stayClose,
  .instanceMethod y_MD_stayClose,
  .selects R_MD y_MD_stayClose y_MD_stayClose,
  .code y_MD_stayClose b_MD_stayClose 1 none,
  .methodLink R_MD 184 y_MD_sign,
  .instanceMethod y_MD_sign]
def wsA_6 : List Cond := [.selects R_MD y_MD_sign y_MD_sign,
  .code y_MD_sign b_MD_sign 2 none,
  .fieldLink R_MD 200 "PackageRowsModel" "end" "J",
  .fieldLink R_MD 196 "PackageRowsModel" "least" "J",
  .methodLink R_MD 193 y_MD_readVersion,
  .instanceMethod y_MD_readVersion,
  .selects R_MD y_MD_readVersion y_MD_readVersion,
  .code y_MD_readVersion b_MD_readVersion 4 (some .long),
  .methodLink R_MD 211 y_MD_close,
  .instanceMethod y_MD_close,
  .selects R_MD y_MD_close y_MD_close,
  .code y_MD_close b_MD_close 1 none,
  .constantLong R_MD 203 1000000000000000000,
  .methodLink R_MD 205 y_MD_isBound,
  .instanceMethod y_MD_isBound,
  .selects R_MD y_MD_isBound y_MD_isBound,
  .code y_MD_isBound b_MD_isBound 1 (some .boolean),
  .methodLink R_MD 208 y_MD_bound,
  .instanceMethod y_MD_bound,
  .selects R_MD y_MD_bound y_MD_bound,
  .code y_MD_bound b_MD_bound 4 none,
  .methodLink R_MD 214 y_MD_folded,
  .static y_MD_folded,
  .code y_MD_folded b_MD_folded 7 (some .int),
  .fieldLink R_MD 218 "PackageRowsModel" "packages" "I",
  .methodLink R_MD 237 y_MD_copyName,
  .instanceMethod y_MD_copyName,
  .selects R_MD y_MD_copyName y_MD_copyName,
  .code y_MD_copyName b_MD_copyName 6 none,
  .fieldLink R_MD 221 "PackageRowsModel" "written" "I",
  .methodLink R_MD 227 y_MD_base,
  .instanceMethod y_MD_base,
  .selects R_MD y_MD_base y_MD_base,
  .code y_MD_base b_MD_base 1 (some .int),
  .fieldLink R_MD 231 "PackageRowsModel" "rowKind" "I",
  .fieldLink R_MD 234 "PackageRowsModel" "sets" "I",
  .fieldLink R_MD 224 "PackageRowsModel" "rowFrom" "I",
  .fieldLink R_MD 241 "PackageRowsModel" "nameLong" "I",
  .methodLink R_MD 244 y_MD_isName,
  .instanceMethod y_MD_isName,
  .selects R_MD y_MD_isName y_MD_isName,
  .code y_MD_isName b_MD_isName 1 (some .boolean),
  .methodLink R_MD 253 y_MD_takeName,
  .instanceMethod y_MD_takeName,
  .selects R_MD y_MD_takeName y_MD_takeName,
  .code y_MD_takeName b_MD_takeName 2 (some .int),
  .methodLink R_MD 256 y_MD_readRange,
  .instanceMethod y_MD_readRange,
  .selects R_MD y_MD_readRange y_MD_readRange,
  .code y_MD_readRange b_MD_readRange 1 none,
  .methodLink R_MD 259 y_MD_addRow,
  .instanceMethod y_MD_addRow,
  .selects R_MD y_MD_addRow y_MD_addRow,
  .code y_MD_addRow b_MD_addRow 10 (some .boolean),
  .methodLink R_MD 250 y_MD_readRanged,
  .instanceMethod y_MD_readRanged,
  .selects R_MD y_MD_readRanged y_MD_readRanged,
  .code y_MD_readRanged b_MD_readRanged 3 none,
  .methodLink R_MD 247 y_MD_key,
  .instanceMethod y_MD_key,
  .selects R_MD y_MD_key y_MD_key,
  .code y_MD_key b_MD_key 4 (some .long),
  .constantLong R_MD 267 (-1),
  .fieldLink R_MD 269 "PackageRowsModel" "defaults" "I",
  .methodLink R_MD 263 y_MD_readNames,
  .instanceMethod y_MD_readNames,
  .selects R_MD y_MD_readNames y_MD_readNames,
  .code y_MD_readNames b_MD_readNames 7 none,
  .methodLink R_MD 281 y_MD_readPlain,
  .instanceMethod y_MD_readPlain,
  .selects R_MD y_MD_readPlain y_MD_readPlain,
  .code y_MD_readPlain b_MD_readPlain 5 none,
  .methodLink R_MD 278 y_MD_readFeature,
  .instanceMethod y_MD_readFeature,
  .selects R_MD y_MD_readFeature y_MD_readFeature,
  .code y_MD_readFeature b_MD_readFeature 4 none,
  .methodLink R_MD 275 y_MD_readAny,
  .instanceMethod y_MD_readAny,
  .selects R_MD y_MD_readAny y_MD_readAny,
  .code y_MD_readAny b_MD_readAny 1 none,
  .methodLink R_MD 272 y_MD_readNeed,
  .instanceMethod y_MD_readNeed,
  .selects R_MD y_MD_readNeed y_MD_readNeed,
  .code y_MD_readNeed b_MD_readNeed 4 none,
  .methodLink R_MD 284 y_MD_compare,
  .instanceMethod y_MD_compare,
  .selects R_MD y_MD_compare y_MD_compare,
  .code y_MD_compare b_MD_compare 10 (some .int),
  .methodLink R_MD 293 y_MD_isFeature,
  .instanceMethod y_MD_isFeature,
  .selects R_MD y_MD_isFeature y_MD_isFeature,
  .code y_MD_isFeature b_MD_isFeature 6 (some .boolean),
  .methodLink R_MD 290 y_MD_readRow,
  .instanceMethod y_MD_readRow,
  .selects R_MD y_MD_readRow y_MD_readRow,
  .code y_MD_readRow b_MD_readRow 4 none,
  .constantLong R_MD 288 31632277022795621,
  .methodLink R_MD 297 y_MD_order,
  .instanceMethod y_MD_order,
  .selects R_MD y_MD_order y_MD_order]
def wsA_7 : List Cond := [.code y_MD_order b_MD_order 4 (some .int),
  .methodLink R_MD 301 y_MD_exchange,
  .instanceMethod y_MD_exchange,
  .selects R_MD y_MD_exchange y_MD_exchange,
  .code y_MD_exchange b_MD_exchange 15 none,
  .methodLink R_MD 304 y_MD_joins,
  .instanceMethod y_MD_joins,
  .selects R_MD y_MD_joins y_MD_joins,
  .code y_MD_joins b_MD_joins 4 (some .boolean),
  .methodLink R_MD 308 y_MD_isWritten,
  .instanceMethod y_MD_isWritten,
  .selects R_MD y_MD_isWritten y_MD_isWritten,
  .code y_MD_isWritten b_MD_isWritten 5 (some .boolean),
  .methodLink R_MD 311 y_MD_readAll,
  .instanceMethod y_MD_readAll,
  .selects R_MD y_MD_readAll y_MD_readAll,
  .code y_MD_readAll b_MD_readAll 5 none,
  .methodLink R_MD 314 y_MD_settle,
  .instanceMethod y_MD_settle,
  .selects R_MD y_MD_settle y_MD_settle,
  .code y_MD_settle b_MD_settle 6 none,
  .methodLink R_MD 317 y_MD_isPackage,
  .instanceMethod y_MD_isPackage,
  .selects R_MD y_MD_isPackage y_MD_isPackage,
  .code y_MD_isPackage b_MD_isPackage 2 (some .boolean),
  .methodLink R_MD 320 y_MD_isOptional,
  .instanceMethod y_MD_isOptional,
  .selects R_MD y_MD_isOptional y_MD_isOptional,
  .code y_MD_isOptional b_MD_isOptional 4 (some .boolean),
  .methodLink R_MD 323 y_MD_isRow,
  .instanceMethod y_MD_isRow,
  .selects R_MD y_MD_isRow y_MD_isRow,
  .code y_MD_isRow b_MD_isRow 3 (some .boolean),
  .methodLink R_MD 326 y_MD_why,
  .instanceMethod y_MD_why,
  .selects R_MD y_MD_why y_MD_why,
  .code y_MD_why b_MD_why 4 (some .int),
  .fieldLink R_MD 329 "PackageRowsModel" "changes" "I",
  .methodLink R_MD 335 y_MD_tell,
  .instanceMethod y_MD_tell,
  .selects R_MD y_MD_tell y_MD_tell,
  .code y_MD_tell b_MD_tell 3 none,
  .methodLink R_MD 332 y_MD_isLike,
  .instanceMethod y_MD_isLike,
  .selects R_MD y_MD_isLike y_MD_isLike,
  .code y_MD_isLike b_MD_isLike 3 (some .boolean),
  .methodLink R_MD 339 y_MD_hasAll,
  .instanceMethod y_MD_hasAll,
  .selects R_MD y_MD_hasAll y_MD_hasAll,
  .code y_MD_hasAll b_MD_hasAll 5 (some .boolean),
  .methodLink R_MD 342 y_MD_compareRows,
  .instanceMethod y_MD_compareRows,
  .selects R_MD y_MD_compareRows y_MD_compareRows,
  .code y_MD_compareRows b_MD_compareRows 7 (some .int),
  .fieldLink R_MD 346 "PackageRowsModel" "printed" "I",
  .methodLink R_MD 349 y_MD_put,
  .instanceMethod y_MD_put,
  .selects R_MD y_MD_put y_MD_put,
  .code y_MD_put b_MD_put 2 none,
  .constantLong R_MD 352 255,
  .constantLong R_MD 354 1000000000000,
  .methodLink R_MD 356 y_MD_putNumber,
  .instanceMethod y_MD_putNumber,
  .selects R_MD y_MD_putNumber y_MD_putNumber,
  .code y_MD_putNumber b_MD_putNumber 5 none,
  .methodLink R_MD 360 y_MD_putVersion,
  .instanceMethod y_MD_putVersion,
  .selects R_MD y_MD_putVersion y_MD_putVersion,
  .code y_MD_putVersion b_MD_putVersion 3 none,
  .methodLink R_MD 363 y_MD_putBound,
  .instanceMethod y_MD_putBound,
  .selects R_MD y_MD_putBound y_MD_putBound,
  .code y_MD_putBound b_MD_putBound 5 none,
  .methodLink R_MD 374 y_MD_putName,
  .instanceMethod y_MD_putName,
  .selects R_MD y_MD_putName y_MD_putName,
  .code y_MD_putName b_MD_putName 5 none,
  .methodLink R_MD 367 y_MD_keyOf,
  .instanceMethod y_MD_keyOf,
  .selects R_MD y_MD_keyOf y_MD_keyOf,
  .code y_MD_keyOf b_MD_keyOf 3 (some .long),
  .methodLink R_MD 371 y_MD_putKey,
  .instanceMethod y_MD_putKey,
  .selects R_MD y_MD_putKey y_MD_putKey,
  .code y_MD_putKey b_MD_putKey 5 none,
  .methodLink R_MD 384 y_MD_putRange,
  .instanceMethod y_MD_putRange,
  .selects R_MD y_MD_putRange y_MD_putRange,
  .code y_MD_putRange b_MD_putRange 2 none,
  .methodLink R_MD 381 y_MD_putBegin,
  .instanceMethod y_MD_putBegin,
  .selects R_MD y_MD_putBegin y_MD_putBegin,
  .code y_MD_putBegin b_MD_putBegin 3 none,
  .methodLink R_MD 378 y_MD_goesOn,
  .instanceMethod y_MD_goesOn,
  .selects R_MD y_MD_goesOn y_MD_goesOn,
  .code y_MD_goesOn b_MD_goesOn 4 (some .boolean),
  .methodLink R_MD 390 y_MD_isPrinted,
  .instanceMethod y_MD_isPrinted,
  .selects R_MD y_MD_isPrinted y_MD_isPrinted]
def wsA_8 : List Cond := [.code y_MD_isPrinted b_MD_isPrinted 4 (some .boolean),
  .methodLink R_MD 387 y_MD_putRow,
  .instanceMethod y_MD_putRow,
  .selects R_MD y_MD_putRow y_MD_putRow,
  .code y_MD_putRow b_MD_putRow 4 none,
  .constantLong R_LW 13 4294967295,
  .methodLink R_LW 15 y_PR_type,
  .instanceMethod y_PR_type,
  .selects R_PR y_PR_type y_PR_type,
  .code y_PR_type b_PR_type 4 none,
  .methodLink R_LW 19 y_MD_type,
  .instanceMethod y_MD_type,
  .selects R_MD y_MD_type y_MD_type,
  .code y_MD_type b_MD_type 5 none,
  .methodLink R_LW 20 y_PR_read,
  .instanceMethod y_PR_read,
  .selects R_PR y_PR_read y_PR_read,
  .code y_PR_read b_PR_read 2 (some .int),
  .methodLink R_LW 24 y_MD_read,
  .instanceMethod y_MD_read,
  .selects R_MD y_MD_read y_MD_read,
  .code y_MD_read b_MD_read 1 (some .int),
  .methodLink R_LW 25 y_PR_rows,
  .instanceMethod y_PR_rows,
  .selects R_PR y_PR_rows y_PR_rows,
  .code y_PR_rows b_PR_rows 3 (some .int),
  .methodLink R_LW 29 y_MD_rows,
  .instanceMethod y_MD_rows,
  .selects R_MD y_MD_rows y_MD_rows,
  .code y_MD_rows b_MD_rows 2 (some .int),
  .methodLink R_LW 30 y_PR_row,
  .instanceMethod y_PR_row,
  .selects R_PR y_PR_row y_PR_row,
  .code y_PR_row b_PR_row 5 (some .int),
  .methodLink R_LW 34 y_MD_row,
  .instanceMethod y_MD_row,
  .selects R_MD y_MD_row y_MD_row,
  .code y_MD_row b_MD_row 5 (some .int),
  .methodLink R_LW 35 y_PR_letter,
  .instanceMethod y_PR_letter,
  .selects R_PR y_PR_letter y_PR_letter,
  .code y_PR_letter b_PR_letter 6 (some .int),
  .methodLink R_LW 39 y_MD_letter,
  .instanceMethod y_MD_letter,
  .selects R_MD y_MD_letter y_MD_letter,
  .code y_MD_letter b_MD_letter 6 (some .int),
  .methodLink R_LW 40 y_PR_low,
  .instanceMethod y_PR_low,
  .selects R_PR y_PR_low y_PR_low,
  .code y_PR_low b_PR_low 4 (some .long),
  .methodLink R_LW 44 y_MD_low,
  .instanceMethod y_MD_low,
  .selects R_MD y_MD_low y_MD_low,
  .code y_MD_low b_MD_low 3 (some .long),
  .methodLink R_LW 45 y_PR_high,
  .instanceMethod y_PR_high,
  .selects R_PR y_PR_high y_PR_high,
  .code y_PR_high b_PR_high 4 (some .long),
  .methodLink R_LW 48 y_MD_high,
  .instanceMethod y_MD_high,
  .selects R_MD y_MD_high y_MD_high,
  .code y_MD_high b_MD_high 3 (some .long),
  .methodLink R_LW 49 y_PR_check,
  .instanceMethod y_PR_check,
  .selects R_PR y_PR_check y_PR_check,
  .code y_PR_check b_PR_check 4 (some .int),
  .methodLink R_LW 52 y_MD_check,
  .instanceMethod y_MD_check,
  .selects R_MD y_MD_check y_MD_check,
  .code y_MD_check b_MD_check 3 (some .int),
  .methodLink R_LW 53 y_PR_same,
  .instanceMethod y_PR_same,
  .selects R_PR y_PR_same y_PR_same,
  .code y_PR_same b_PR_same 5 (some .boolean),
  .methodLink R_LW 57 y_MD_same,
  .instanceMethod y_MD_same,
  .selects R_MD y_MD_same y_MD_same,
  .code y_MD_same b_MD_same 3 (some .boolean),
  .methodLink R_LW 58 y_PR_differ,
  .instanceMethod y_PR_differ,
  .selects R_PR y_PR_differ y_PR_differ,
  .code y_PR_differ b_PR_differ 5 (some .int),
  .methodLink R_LW 62 y_MD_differ,
  .instanceMethod y_MD_differ,
  .selects R_MD y_MD_differ y_MD_differ,
  .code y_MD_differ b_MD_differ 3 (some .int),
  .methodLink R_LW 63 y_PR_change,
  .instanceMethod y_PR_change,
  .selects R_PR y_PR_change y_PR_change,
  .code y_PR_change b_PR_change 3 (some .int),
  .methodLink R_LW 66 y_MD_change,
  .instanceMethod y_MD_change,
  .selects R_MD y_MD_change y_MD_change,
  .code y_MD_change b_MD_change 3 (some .int),
  .methodLink R_LW 67 y_PR_print,
  .instanceMethod y_PR_print,
  .selects R_PR y_PR_print y_PR_print,
  .code y_PR_print b_PR_print 3 (some .int),
  .methodLink R_LW 70 y_MD_print,
  .instanceMethod y_MD_print]
def wsA_9 : List Cond := [.selects R_MD y_MD_print y_MD_print,
  .code y_MD_print b_MD_print 3 (some .int),
  .methodLink R_LW 71 y_PR_fold,
  .instanceMethod y_PR_fold,
  .selects R_PR y_PR_fold y_PR_fold,
  .code y_PR_fold b_PR_fold 2 (some .int),
  .methodLink R_LW 74 y_MD_fold,
  .instanceMethod y_MD_fold,
  .selects R_MD y_MD_fold y_MD_fold,
  .code y_MD_fold b_MD_fold 4 (some .int),
  .methodLink R_LW 75 y_PR_at,
  .instanceMethod y_PR_at,
  .selects R_PR y_PR_at y_PR_at,
  .code y_PR_at b_PR_at 2 (some .int),
  .methodLink R_LW 78 y_MD_at,
  .instanceMethod y_MD_at,
  .selects R_MD y_MD_at y_MD_at,
  .code y_MD_at b_MD_at 2 (some .int),
  .classLink R_LW 7 R_PR,
  .instantiable R_PR 9,
  .code y_PR_init b_PR_init 1 none,
  .methodLink R_LW 9 y_PR_init,
  .instanceMethod y_PR_init,
  .classLink R_LW 10 R_MD,
  .instantiable R_MD 46,
  .code y_MD_init b_MD_init 1 none,
  .methodLink R_LW 12 y_MD_init,
  .instanceMethod y_MD_init,
  .laysFinal R_PR "PackageRows" "reader" "LPackageRows$Reader;",
  .laysFinal R_PR "PackageRows" "scan" "LPackageRows$Scan;",
  .laysFinal R_PR "PackageRows" "packs" "[LPackageRows$Pack;",
  .lays R_PR "PackageRows" "packCount" "I",
  .laysFinal R_PR "PackageRows" "printer" "LPackageRows$Printer;",
  .laysFinal R_PR "PackageRows" "pairing" "LPackageRows$Pairing;",
  .laysFinal R_PR "PackageRows" "told" "[I",
  .lays R_PR "PackageRows" "toldOfFirst" "I",
  .lays R_PR "PackageRows" "toldCount" "I",
  .lays R_MD "PackageRowsModel" "thrown" "I",
  .laysFinal R_MD "PackageRowsModel" "text" "[B",
  .lays R_MD "PackageRowsModel" "size" "I",
  .lays R_MD "PackageRowsModel" "from" "I",
  .lays R_MD "PackageRowsModel" "to" "I",
  .lays R_MD "PackageRowsModel" "word" "I",
  .lays R_MD "PackageRowsModel" "behind" "I",
  .lays R_MD "PackageRowsModel" "wrong" "I",
  .laysFinal R_MD "PackageRowsModel" "needs" "[J",
  .laysFinal R_MD "PackageRowsModel" "kinds" "[J",
  .laysFinal R_MD "PackageRowsModel" "kindOf" "[I",
  .lays R_MD "PackageRowsModel" "packages" "I",
  .laysFinal R_MD "PackageRowsModel" "packageSize" "[I",
  .laysFinal R_MD "PackageRowsModel" "rowMany" "[I",
  .laysFinal R_MD "PackageRowsModel" "featureMany" "[I",
  .laysFinal R_MD "PackageRowsModel" "packageName" "[B",
  .laysFinal R_MD "PackageRowsModel" "version" "[J",
  .laysFinal R_MD "PackageRowsModel" "feature" "[B",
  .laysFinal R_MD "PackageRowsModel" "featureSize" "[I",
  .laysFinal R_MD "PackageRowsModel" "kind" "[B",
  .laysFinal R_MD "PackageRowsModel" "set" "[I",
  .laysFinal R_MD "PackageRowsModel" "nameSize" "[I",
  .laysFinal R_MD "PackageRowsModel" "otherSize" "[I",
  .laysFinal R_MD "PackageRowsModel" "name" "[B",
  .laysFinal R_MD "PackageRowsModel" "other" "[B",
  .laysFinal R_MD "PackageRowsModel" "low" "[J",
  .laysFinal R_MD "PackageRowsModel" "high" "[J",
  .laysFinal R_MD "PackageRowsModel" "mixed" "[Z",
  .lays R_MD "PackageRowsModel" "written" "I",
  .lays R_MD "PackageRowsModel" "sets" "I",
  .lays R_MD "PackageRowsModel" "rowFrom" "I",
  .lays R_MD "PackageRowsModel" "rowKind" "I",
  .lays R_MD "PackageRowsModel" "least" "J",
  .lays R_MD "PackageRowsModel" "end" "J",
  .lays R_MD "PackageRowsModel" "defaults" "I",
  .laysFinal R_MD "PackageRowsModel" "defaultAt" "[I",
  .laysFinal R_MD "PackageRowsModel" "defaultSize" "[I",
  .laysFinal R_MD "PackageRowsModel" "one" "[B",
  .laysFinal R_MD "PackageRowsModel" "two" "[B",
  .lays R_MD "PackageRowsModel" "changes" "I",
  .laysFinal R_MD "PackageRowsModel" "changeWhose" "[I",
  .laysFinal R_MD "PackageRowsModel" "changeRow" "[I",
  .laysFinal R_MD "PackageRowsModel" "taken" "[Z",
  .lays R_MD "PackageRowsModel" "printed" "I",
  .laysFinal R_MD "PackageRowsModel" "print" "[B",
  .lays R_MD "PackageRowsModel" "nameLong" "I",
  .laysFinal R_Name "PackageRows$Name" "written" "[C",
  .laysFinal R_Name "PackageRows$Name" "folded" "[C",
  .laysFinal R_Name "PackageRows$Name" "foldedLength" "I",
  .laysFinal R_Pack "PackageRows$Pack" "name" "LPackageRows$Name;",
  .laysFinal R_Pack "PackageRows$Pack" "version" "J",
  .laysFinal R_Pack "PackageRows$Pack" "features" "[LPackageRows$Name;",
  .laysFinal R_Pack "PackageRows$Pack" "rows" "[LPackageRows$Row;",
  .laysFinal R_Pairing "PackageRows$Pairing" "firstPaired" "[Z",
  .laysFinal R_Pairing "PackageRows$Pairing" "secondPaired" "[Z",
  .laysFinal R_Printer "PackageRows$Printer" "signs" "[C",
  .lays R_Printer "PackageRows$Printer" "count" "I",
  .laysFinal R_Reader "PackageRows$Reader" "scan" "LPackageRows$Scan;",
  .laysFinal R_Reader "PackageRows$Reader" "rows" "[LPackageRows$Row;",
  .laysFinal R_Reader "PackageRows$Reader" "namePlaces" "[I",
  .lays R_Reader "PackageRows$Reader" "rowCount" "I",
  .laysFinal R_Reader "PackageRows$Reader" "features" "[LPackageRows$Name;",
  .lays R_Reader "PackageRows$Reader" "featureCount" "I"]
def wsA_10 : List Cond := [.lays R_Reader "PackageRows$Reader" "name" "LPackageRows$Name;",
  .lays R_Reader "PackageRows$Reader" "version" "J",
  .lays R_Reader "PackageRows$Reader" "textRowPlace" "I",
  .lays R_Reader "PackageRows$Reader" "set" "I",
  .laysFinal R_Row "PackageRows$Row" "kind" "I",
  .laysFinal R_Row "PackageRows$Row" "set" "I",
  .laysFinal R_Row "PackageRows$Row" "name" "LPackageRows$Name;",
  .laysFinal R_Row "PackageRows$Row" "other" "LPackageRows$Name;",
  .lays R_Row "PackageRows$Row" "least" "J",
  .lays R_Row "PackageRows$Row" "end" "J",
  .lays R_Row "PackageRows$Row" "writtenDifferently" "Z",
  .lays R_Row "PackageRows$Row" "why" "I",
  .laysFinal R_Scan "PackageRows$Scan" "signs" "[C",
  .lays R_Scan "PackageRows$Scan" "count" "I",
  .lays R_Scan "PackageRows$Scan" "place" "I",
  .lays R_Scan "PackageRows$Scan" "refused" "I",
  .lays R_Scan "PackageRows$Scan" "wordFrom" "I",
  .lays R_Scan "PackageRows$Scan" "wordTo" "I",
  .lays R_Scan "PackageRows$Scan" "value" "J",
  .lays R_Scan "PackageRows$Scan" "least" "J",
  .lays R_Scan "PackageRows$Scan" "end" "J",
  .instanceMethod y_String_coder,
  .selects "java/lang/String" y_String_coder y_String_coder,
  .instanceMethod y_String_isLatin1,
  .selects "java/lang/String" y_String_isLatin1 y_String_isLatin1,
  .instanceMethod y_String_length,
  .selects "java/lang/String" y_String_length y_String_length,
  .instanceMethod y_String_charAt,
  .selects "java/lang/String" y_String_charAt y_String_charAt,
  .methodLink "java/lang/String" 335 y_String_coder,
  .methodLink "java/lang/String" 492 y_String_isLatin1,
  .methodLink "java/lang/String" 495 y_Latin1_charAt,
  .methodLink "java/lang/StringLatin1" 9 y_String_checkIndex,
  .methodLink "java/lang/String" 1059 y_Pre_checkIndex,
  .static y_Latin1_charAt,
  .static y_String_checkIndex,
  .static y_Pre_checkIndex,
  .code y_String_coder b_String_coder 1 (some .byte),
  .code y_String_isLatin1 b_String_isLatin1 1 (some .boolean),
  .code y_String_length b_String_length 1 (some .int),
  .code y_String_charAt b_String_charAt 2 (some .char),
  .code y_Latin1_charAt b_Latin1_charAt 2 (some .char),
  .code y_String_checkIndex b_String_checkIndex 2 none,
  .code y_Pre_checkIndex b_Pre_checkIndex 3 (some .int),
  .initialized "java/lang/String",
  .initialized "java/lang/StringLatin1",
  .initialized "jdk/internal/util/Preconditions",
  .fieldLink "java/lang/String" 38 "java/lang/String" "COMPACT_STRINGS" "Z",
  .fieldLink "java/lang/String" 1053 "jdk/internal/util/Preconditions" "SIOOBE_FORMATTER" "Ljava/util/function/BiFunction;",
  .fieldLink "java/lang/String" 9 "java/lang/String" "value" "[B",
  .fieldLink "java/lang/String" 15 "java/lang/String" "coder" "B"]
def wsAll : List Cond := wsA_0 ++ (wsA_1 ++ (wsA_2 ++ (wsA_3 ++ (wsA_4 ++ (wsA_5 ++ (wsA_6 ++ (wsA_7 ++ (wsA_8 ++ (wsA_9 ++ (wsA_10))))))))))
theorem inA_0 : ∀ w ∈ wsA_0, w ∈ wsAll := fun w h => List.mem_append_left _ h
theorem inA_1 : ∀ w ∈ wsA_1, w ∈ wsAll := fun w h => List.mem_append_right _ (List.mem_append_left _ h)
theorem inA_2 : ∀ w ∈ wsA_2, w ∈ wsAll := fun w h => List.mem_append_right _ (List.mem_append_right _ (List.mem_append_left _ h))
theorem inA_3 : ∀ w ∈ wsA_3, w ∈ wsAll := fun w h => List.mem_append_right _ (List.mem_append_right _ (List.mem_append_right _ (List.mem_append_left _ h)))
theorem inA_4 : ∀ w ∈ wsA_4, w ∈ wsAll := fun w h => List.mem_append_right _ (List.mem_append_right _ (List.mem_append_right _ (List.mem_append_right _ (List.mem_append_left _ h))))
theorem inA_5 : ∀ w ∈ wsA_5, w ∈ wsAll := fun w h => List.mem_append_right _ (List.mem_append_right _ (List.mem_append_right _ (List.mem_append_right _ (List.mem_append_right _ (List.mem_append_left _ h)))))
theorem inA_6 : ∀ w ∈ wsA_6, w ∈ wsAll := fun w h => List.mem_append_right _ (List.mem_append_right _ (List.mem_append_right _ (List.mem_append_right _ (List.mem_append_right _ (List.mem_append_right _ (List.mem_append_left _ h))))))
theorem inA_7 : ∀ w ∈ wsA_7, w ∈ wsAll := fun w h => List.mem_append_right _ (List.mem_append_right _ (List.mem_append_right _ (List.mem_append_right _ (List.mem_append_right _ (List.mem_append_right _ (List.mem_append_right _ (List.mem_append_left _ h)))))))
theorem inA_8 : ∀ w ∈ wsA_8, w ∈ wsAll := fun w h => List.mem_append_right _ (List.mem_append_right _ (List.mem_append_right _ (List.mem_append_right _ (List.mem_append_right _ (List.mem_append_right _ (List.mem_append_right _ (List.mem_append_right _ (List.mem_append_left _ h))))))))
theorem inA_9 : ∀ w ∈ wsA_9, w ∈ wsAll := fun w h => List.mem_append_right _ (List.mem_append_right _ (List.mem_append_right _ (List.mem_append_right _ (List.mem_append_right _ (List.mem_append_right _ (List.mem_append_right _ (List.mem_append_right _ (List.mem_append_right _ (List.mem_append_left _ h)))))))))
theorem inA_10 : ∀ w ∈ wsA_10, w ∈ wsAll := fun w h => List.mem_append_right _ (List.mem_append_right _ (List.mem_append_right _ (List.mem_append_right _ (List.mem_append_right _ (List.mem_append_right _ (List.mem_append_right _ (List.mem_append_right _ (List.mem_append_right _ (List.mem_append_right _ (h))))))))))
theorem wd_0 : ((.methodLink R_PR 3 Lib.objectInit) : Cond) ∈ wsAll := inA_0 _ (List.mem_of_getElem? (i := 0) rfl)
theorem wd_1 : ((.instanceMethod Lib.objectInit) : Cond) ∈ wsAll := inA_0 _ (List.mem_of_getElem? (i := 1) rfl)
theorem wd_2 : ((.code Lib.objectInit object_method_1_code 1 none) : Cond) ∈ wsAll := inA_0 _ (List.mem_of_getElem? (i := 2) rfl)
theorem wd_3 : ((.classLink R_PR 9 R_Reader) : Cond) ∈ wsAll := inA_0 _ (List.mem_of_getElem? (i := 3) rfl)
theorem wd_4 : ((.instantiable R_Reader 10) : Cond) ∈ wsAll := inA_0 _ (List.mem_of_getElem? (i := 4) rfl)
theorem wd_5 : ((.initialized R_Reader) : Cond) ∈ wsAll := inA_0 _ (List.mem_of_getElem? (i := 5) rfl)
theorem wd_6 : ((.methodLink R_Reader 3 Lib.objectInit) : Cond) ∈ wsAll := inA_0 _ (List.mem_of_getElem? (i := 6) rfl)
theorem wd_7 : ((.classLink R_Reader 9 R_Scan) : Cond) ∈ wsAll := inA_0 _ (List.mem_of_getElem? (i := 7) rfl)
theorem wd_8 : ((.instantiable R_Scan 9) : Cond) ∈ wsAll := inA_0 _ (List.mem_of_getElem? (i := 8) rfl)
theorem wd_9 : ((.initialized R_Scan) : Cond) ∈ wsAll := inA_0 _ (List.mem_of_getElem? (i := 9) rfl)
theorem wd_10 : ((.methodLink R_Scan 3 Lib.objectInit) : Cond) ∈ wsAll := inA_0 _ (List.mem_of_getElem? (i := 10) rfl)
theorem wd_11 : ((.arrayClass .char) : Cond) ∈ wsAll := inA_0 _ (List.mem_of_getElem? (i := 11) rfl)
theorem wd_12 : ((.fieldLink R_Scan 9 "PackageRows$Scan" "signs" "[C") : Cond) ∈ wsAll := inA_0 _ (List.mem_of_getElem? (i := 12) rfl)
theorem wd_13 : ((.code y_Scan_init b_Scan_init 1 none) : Cond) ∈ wsAll := inA_0 _ (List.mem_of_getElem? (i := 13) rfl)
theorem wd_14 : ((.instanceMethod y_Scan_init) : Cond) ∈ wsAll := inA_0 _ (List.mem_of_getElem? (i := 14) rfl)
theorem wd_15 : ((.fieldLink R_Reader 12 "PackageRows$Reader" "scan" "LPackageRows$Scan;") : Cond) ∈ wsAll := inA_0 _ (List.mem_of_getElem? (i := 15) rfl)
theorem wd_16 : ((.classLink R_Reader 18 R_Row) : Cond) ∈ wsAll := inA_0 _ (List.mem_of_getElem? (i := 16) rfl)
theorem wd_17 : ((.fieldLink R_Reader 20 "PackageRows$Reader" "rows" "[LPackageRows$Row;") : Cond) ∈ wsAll := inA_0 _ (List.mem_of_getElem? (i := 17) rfl)
theorem wd_18 : ((.arrayClass .int) : Cond) ∈ wsAll := inA_0 _ (List.mem_of_getElem? (i := 18) rfl)
theorem wd_19 : ((.fieldLink R_Reader 24 "PackageRows$Reader" "namePlaces" "[I") : Cond) ∈ wsAll := inA_0 _ (List.mem_of_getElem? (i := 19) rfl)
theorem wd_20 : ((.classLink R_Reader 28 R_Name) : Cond) ∈ wsAll := inA_0 _ (List.mem_of_getElem? (i := 20) rfl)
theorem wd_21 : ((.fieldLink R_Reader 30 "PackageRows$Reader" "features" "[LPackageRows$Name;") : Cond) ∈ wsAll := inA_0 _ (List.mem_of_getElem? (i := 21) rfl)
theorem wd_22 : ((.code y_Reader_init b_Reader_init 1 none) : Cond) ∈ wsAll := inA_0 _ (List.mem_of_getElem? (i := 22) rfl)
theorem wd_23 : ((.instanceMethod y_Reader_init) : Cond) ∈ wsAll := inA_0 _ (List.mem_of_getElem? (i := 23) rfl)
theorem wd_24 : ((.fieldLink R_PR 12 "PackageRows" "reader" "LPackageRows$Reader;") : Cond) ∈ wsAll := inA_0 _ (List.mem_of_getElem? (i := 24) rfl)
theorem wd_25 : ((.fieldLink R_PR 16 "PackageRows$Reader" "scan" "LPackageRows$Scan;") : Cond) ∈ wsAll := inA_0 _ (List.mem_of_getElem? (i := 25) rfl)
theorem wd_26 : ((.fieldLink R_PR 20 "PackageRows" "scan" "LPackageRows$Scan;") : Cond) ∈ wsAll := inA_0 _ (List.mem_of_getElem? (i := 26) rfl)
theorem wd_27 : ((.classLink R_PR 21 R_Pack) : Cond) ∈ wsAll := inA_0 _ (List.mem_of_getElem? (i := 27) rfl)
theorem wd_28 : ((.fieldLink R_PR 23 "PackageRows" "packs" "[LPackageRows$Pack;") : Cond) ∈ wsAll := inA_0 _ (List.mem_of_getElem? (i := 28) rfl)
theorem wd_29 : ((.classLink R_PR 27 R_Printer) : Cond) ∈ wsAll := inA_0 _ (List.mem_of_getElem? (i := 29) rfl)
theorem wd_30 : ((.instantiable R_Printer 2) : Cond) ∈ wsAll := inA_0 _ (List.mem_of_getElem? (i := 30) rfl)
theorem wd_31 : ((.initialized R_Printer) : Cond) ∈ wsAll := inA_0 _ (List.mem_of_getElem? (i := 31) rfl)
theorem wd_32 : ((.methodLink R_Printer 3 Lib.objectInit) : Cond) ∈ wsAll := inA_0 _ (List.mem_of_getElem? (i := 32) rfl)
theorem wd_33 : ((.fieldLink R_Printer 9 "PackageRows$Printer" "signs" "[C") : Cond) ∈ wsAll := inA_0 _ (List.mem_of_getElem? (i := 33) rfl)
theorem wd_34 : ((.code y_Printer_init b_Printer_init 1 none) : Cond) ∈ wsAll := inA_0 _ (List.mem_of_getElem? (i := 34) rfl)
theorem wd_35 : ((.instanceMethod y_Printer_init) : Cond) ∈ wsAll := inA_0 _ (List.mem_of_getElem? (i := 35) rfl)
theorem wd_36 : ((.fieldLink R_PR 30 "PackageRows" "printer" "LPackageRows$Printer;") : Cond) ∈ wsAll := inA_0 _ (List.mem_of_getElem? (i := 36) rfl)
theorem wd_37 : ((.classLink R_PR 34 R_Pairing) : Cond) ∈ wsAll := inA_0 _ (List.mem_of_getElem? (i := 37) rfl)
theorem wd_38 : ((.instantiable R_Pairing 2) : Cond) ∈ wsAll := inA_0 _ (List.mem_of_getElem? (i := 38) rfl)
theorem wd_39 : ((.initialized R_Pairing) : Cond) ∈ wsAll := inA_0 _ (List.mem_of_getElem? (i := 39) rfl)
theorem wd_40 : ((.methodLink R_Pairing 3 Lib.objectInit) : Cond) ∈ wsAll := inA_0 _ (List.mem_of_getElem? (i := 40) rfl)
theorem wd_41 : ((.arrayClass .boolean) : Cond) ∈ wsAll := inA_0 _ (List.mem_of_getElem? (i := 41) rfl)
theorem wd_42 : ((.fieldLink R_Pairing 9 "PackageRows$Pairing" "firstPaired" "[Z") : Cond) ∈ wsAll := inA_0 _ (List.mem_of_getElem? (i := 42) rfl)
theorem wd_43 : ((.fieldLink R_Pairing 15 "PackageRows$Pairing" "secondPaired" "[Z") : Cond) ∈ wsAll := inA_0 _ (List.mem_of_getElem? (i := 43) rfl)
theorem wd_44 : ((.code y_Pairing_init b_Pairing_init 1 none) : Cond) ∈ wsAll := inA_0 _ (List.mem_of_getElem? (i := 44) rfl)
theorem wd_45 : ((.instanceMethod y_Pairing_init) : Cond) ∈ wsAll := inA_0 _ (List.mem_of_getElem? (i := 45) rfl)
theorem wd_46 : ((.fieldLink R_PR 37 "PackageRows" "pairing" "LPackageRows$Pairing;") : Cond) ∈ wsAll := inA_0 _ (List.mem_of_getElem? (i := 46) rfl)
theorem wd_47 : ((.fieldLink R_PR 41 "PackageRows" "told" "[I") : Cond) ∈ wsAll := inA_0 _ (List.mem_of_getElem? (i := 47) rfl)
theorem wd_48 : ((.constantLong R_PR 45 255) : Cond) ∈ wsAll := inA_0 _ (List.mem_of_getElem? (i := 48) rfl)
theorem wd_49 : ((.fieldLink R_Scan 15 "PackageRows$Scan" "count" "I") : Cond) ∈ wsAll := inA_0 _ (List.mem_of_getElem? (i := 49) rfl)
theorem wd_50 : ((.methodLink R_PR 47 y_Scan_collect) : Cond) ∈ wsAll := inA_0 _ (List.mem_of_getElem? (i := 50) rfl)
theorem wd_51 : ((.instanceMethod y_Scan_collect) : Cond) ∈ wsAll := inA_0 _ (List.mem_of_getElem? (i := 51) rfl)
theorem wd_52 : ((.selects R_Scan y_Scan_collect y_Scan_collect) : Cond) ∈ wsAll := inA_0 _ (List.mem_of_getElem? (i := 52) rfl)
theorem wd_53 : ((.code y_Scan_collect b_Scan_collect 2 none) : Cond) ∈ wsAll := inA_0 _ (List.mem_of_getElem? (i := 53) rfl)
theorem wd_54 : ((.fieldLink R_Scan 19 "PackageRows$Scan" "place" "I") : Cond) ∈ wsAll := inA_0 _ (List.mem_of_getElem? (i := 54) rfl)
theorem wd_55 : ((.fieldLink R_Scan 22 "PackageRows$Scan" "refused" "I") : Cond) ∈ wsAll := inA_0 _ (List.mem_of_getElem? (i := 55) rfl)
theorem wd_56 : ((.fieldLink R_Scan 25 "PackageRows$Scan" "wordFrom" "I") : Cond) ∈ wsAll := inA_0 _ (List.mem_of_getElem? (i := 56) rfl)
theorem wd_57 : ((.fieldLink R_Scan 28 "PackageRows$Scan" "wordTo" "I") : Cond) ∈ wsAll := inA_0 _ (List.mem_of_getElem? (i := 57) rfl)
theorem wd_58 : ((.methodLink R_PR 53 y_Scan_begin) : Cond) ∈ wsAll := inA_0 _ (List.mem_of_getElem? (i := 58) rfl)
theorem wd_59 : ((.instanceMethod y_Scan_begin) : Cond) ∈ wsAll := inA_0 _ (List.mem_of_getElem? (i := 59) rfl)
theorem wd_60 : ((.selects R_Scan y_Scan_begin y_Scan_begin) : Cond) ∈ wsAll := inA_0 _ (List.mem_of_getElem? (i := 60) rfl)
theorem wd_61 : ((.code y_Scan_begin b_Scan_begin 1 none) : Cond) ∈ wsAll := inA_0 _ (List.mem_of_getElem? (i := 61) rfl)
theorem wd_62 : ((.fieldLink R_Reader 34 "PackageRows$Reader" "rowCount" "I") : Cond) ∈ wsAll := inA_0 _ (List.mem_of_getElem? (i := 62) rfl)
theorem wd_63 : ((.fieldLink R_Reader 176 "PackageRows$Row" "kind" "I") : Cond) ∈ wsAll := inA_0 _ (List.mem_of_getElem? (i := 63) rfl)
theorem wd_64 : ((.fieldLink R_Reader 179 "PackageRows$Row" "name" "LPackageRows$Name;") : Cond) ∈ wsAll := inA_0 _ (List.mem_of_getElem? (i := 64) rfl)
theorem wd_65 : ((.fieldLink R_Reader 38 "PackageRows$Reader" "featureCount" "I") : Cond) ∈ wsAll := inA_0 _ (List.mem_of_getElem? (i := 65) rfl)
theorem wd_66 : ((.fieldLink R_Name 26 "PackageRows$Name" "foldedLength" "I") : Cond) ∈ wsAll := inA_0 _ (List.mem_of_getElem? (i := 66) rfl)
theorem wd_67 : ((.fieldLink R_Name 15 "PackageRows$Name" "folded" "[C") : Cond) ∈ wsAll := inA_0 _ (List.mem_of_getElem? (i := 67) rfl)
theorem wd_68 : ((.methodLink R_Name 30 Lib.Math.min.name) : Cond) ∈ wsAll := inA_0 _ (List.mem_of_getElem? (i := 68) rfl)
theorem wd_69 : ((.static Lib.Math.min.name) : Cond) ∈ wsAll := inA_0 _ (List.mem_of_getElem? (i := 69) rfl)
theorem wd_70 : ((.initialized "java/lang/Math") : Cond) ∈ wsAll := inA_0 _ (List.mem_of_getElem? (i := 70) rfl)
theorem wd_71 : ((.code Lib.Math.min.name Lib.Math.min.code 2 (some .int)) : Cond) ∈ wsAll := inA_0 _ (List.mem_of_getElem? (i := 71) rfl)
theorem wd_72 : ((.methodLink R_Name 36 y_Name_order) : Cond) ∈ wsAll := inA_0 _ (List.mem_of_getElem? (i := 72) rfl)
theorem wd_73 : ((.instanceMethod y_Name_order) : Cond) ∈ wsAll := inA_0 _ (List.mem_of_getElem? (i := 73) rfl)
theorem wd_74 : ((.selects R_Name y_Name_order y_Name_order) : Cond) ∈ wsAll := inA_0 _ (List.mem_of_getElem? (i := 74) rfl)
theorem wd_75 : ((.initialized R_Name) : Cond) ∈ wsAll := inA_0 _ (List.mem_of_getElem? (i := 75) rfl)
theorem wd_76 : ((.code y_Name_order b_Name_order 4 (some .int)) : Cond) ∈ wsAll := inA_0 _ (List.mem_of_getElem? (i := 76) rfl)
theorem wd_77 : ((.methodLink R_Reader 158 y_Name_foldsLikeOneOf) : Cond) ∈ wsAll := inA_0 _ (List.mem_of_getElem? (i := 77) rfl)
theorem wd_78 : ((.instanceMethod y_Name_foldsLikeOneOf) : Cond) ∈ wsAll := inA_0 _ (List.mem_of_getElem? (i := 78) rfl)
theorem wd_79 : ((.selects R_Name y_Name_foldsLikeOneOf y_Name_foldsLikeOneOf) : Cond) ∈ wsAll := inA_0 _ (List.mem_of_getElem? (i := 79) rfl)
theorem wd_80 : ((.code y_Name_foldsLikeOneOf b_Name_foldsLikeOneOf 4 (some .boolean)) : Cond) ∈ wsAll := inA_0 _ (List.mem_of_getElem? (i := 80) rfl)
theorem wd_81 : ((.methodLink R_Reader 73 y_Scan_refuse) : Cond) ∈ wsAll := inA_0 _ (List.mem_of_getElem? (i := 81) rfl)
theorem wd_82 : ((.instanceMethod y_Scan_refuse) : Cond) ∈ wsAll := inA_0 _ (List.mem_of_getElem? (i := 82) rfl)
theorem wd_83 : ((.selects R_Scan y_Scan_refuse y_Scan_refuse) : Cond) ∈ wsAll := inA_0 _ (List.mem_of_getElem? (i := 83) rfl)
theorem wd_84 : ((.code y_Scan_refuse b_Scan_refuse 2 (some .boolean)) : Cond) ∈ wsAll := inA_0 _ (List.mem_of_getElem? (i := 84) rfl)
theorem wd_85 : ((.methodLink R_Reader 58 y_Reader_defaultsStand) : Cond) ∈ wsAll := inA_0 _ (List.mem_of_getElem? (i := 85) rfl)
theorem wd_86 : ((.instanceMethod y_Reader_defaultsStand) : Cond) ∈ wsAll := inA_0 _ (List.mem_of_getElem? (i := 86) rfl)
theorem wd_87 : ((.selects R_Reader y_Reader_defaultsStand y_Reader_defaultsStand) : Cond) ∈ wsAll := inA_0 _ (List.mem_of_getElem? (i := 87) rfl)
theorem wd_88 : ((.code y_Reader_defaultsStand b_Reader_defaultsStand 2 (some .boolean)) : Cond) ∈ wsAll := inA_0 _ (List.mem_of_getElem? (i := 88) rfl)
theorem wd_89 : ((.methodLink R_Scan 31 y_Scan_skipBlanks) : Cond) ∈ wsAll := inA_0 _ (List.mem_of_getElem? (i := 89) rfl)
theorem wd_90 : ((.instanceMethod y_Scan_skipBlanks) : Cond) ∈ wsAll := inA_0 _ (List.mem_of_getElem? (i := 90) rfl)
theorem wd_91 : ((.selects R_Scan y_Scan_skipBlanks y_Scan_skipBlanks) : Cond) ∈ wsAll := inA_0 _ (List.mem_of_getElem? (i := 91) rfl)
theorem wd_92 : ((.code y_Scan_skipBlanks b_Scan_skipBlanks 1 none) : Cond) ∈ wsAll := inA_0 _ (List.mem_of_getElem? (i := 92) rfl)
theorem wd_93 : ((.methodLink R_Reader 48 y_Scan_atEnd) : Cond) ∈ wsAll := inA_0 _ (List.mem_of_getElem? (i := 93) rfl)
theorem wd_94 : ((.instanceMethod y_Scan_atEnd) : Cond) ∈ wsAll := inA_0 _ (List.mem_of_getElem? (i := 94) rfl)
theorem wd_95 : ((.selects R_Scan y_Scan_atEnd y_Scan_atEnd) : Cond) ∈ wsAll := inA_0 _ (List.mem_of_getElem? (i := 95) rfl)
theorem wd_96 : ((.code y_Scan_atEnd b_Scan_atEnd 1 (some .boolean)) : Cond) ∈ wsAll := inA_0 _ (List.mem_of_getElem? (i := 96) rfl)
theorem wd_97 : ((.fieldLink R_Reader 70 "PackageRows$Scan" "wordFrom" "I") : Cond) ∈ wsAll := inA_0 _ (List.mem_of_getElem? (i := 97) rfl)
theorem wd_98 : ((.methodLink R_Scan 38 y_Scan_refuse) : Cond) ∈ wsAll := inA_0 _ (List.mem_of_getElem? (i := 98) rfl)
theorem wd_99 : ((.methodLink R_Scan 50 y_Scan_isLetter) : Cond) ∈ wsAll := inA_0 _ (List.mem_of_getElem? (i := 99) rfl)
theorem wd_100 : ((.static y_Scan_isLetter) : Cond) ∈ wsAll := inA_1 _ (List.mem_of_getElem? (i := 0) rfl)
theorem wd_101 : ((.code y_Scan_isLetter b_Scan_isLetter 1 (some .boolean)) : Cond) ∈ wsAll := inA_1 _ (List.mem_of_getElem? (i := 1) rfl)
theorem wd_102 : ((.methodLink R_Scan 53 y_Scan_isDigit) : Cond) ∈ wsAll := inA_1 _ (List.mem_of_getElem? (i := 2) rfl)
theorem wd_103 : ((.static y_Scan_isDigit) : Cond) ∈ wsAll := inA_1 _ (List.mem_of_getElem? (i := 3) rfl)
theorem wd_104 : ((.code y_Scan_isDigit b_Scan_isDigit 1 (some .boolean)) : Cond) ∈ wsAll := inA_1 _ (List.mem_of_getElem? (i := 4) rfl)
theorem wd_105 : ((.methodLink R_Scan 56 y_Name_isBar) : Cond) ∈ wsAll := inA_1 _ (List.mem_of_getElem? (i := 5) rfl)
theorem wd_106 : ((.static y_Name_isBar) : Cond) ∈ wsAll := inA_1 _ (List.mem_of_getElem? (i := 6) rfl)
theorem wd_107 : ((.code y_Name_isBar b_Name_isBar 1 (some .boolean)) : Cond) ∈ wsAll := inA_1 _ (List.mem_of_getElem? (i := 7) rfl)
theorem wd_108 : ((.methodLink R_Scan 42 y_Scan_signHere) : Cond) ∈ wsAll := inA_1 _ (List.mem_of_getElem? (i := 8) rfl)
theorem wd_109 : ((.instanceMethod y_Scan_signHere) : Cond) ∈ wsAll := inA_1 _ (List.mem_of_getElem? (i := 9) rfl)
theorem wd_110 : ((.selects R_Scan y_Scan_signHere y_Scan_signHere) : Cond) ∈ wsAll := inA_1 _ (List.mem_of_getElem? (i := 10) rfl)
theorem wd_111 : ((.code y_Scan_signHere b_Scan_signHere 1 (some .char)) : Cond) ∈ wsAll := inA_1 _ (List.mem_of_getElem? (i := 11) rfl)
theorem wd_112 : ((.methodLink R_Scan 71 y_Scan_takeWord) : Cond) ∈ wsAll := inA_1 _ (List.mem_of_getElem? (i := 12) rfl)
theorem wd_113 : ((.instanceMethod y_Scan_takeWord) : Cond) ∈ wsAll := inA_1 _ (List.mem_of_getElem? (i := 13) rfl)
theorem wd_114 : ((.selects R_Scan y_Scan_takeWord y_Scan_takeWord) : Cond) ∈ wsAll := inA_1 _ (List.mem_of_getElem? (i := 14) rfl)
theorem wd_115 : ((.code y_Scan_takeWord b_Scan_takeWord 1 (some .boolean)) : Cond) ∈ wsAll := inA_1 _ (List.mem_of_getElem? (i := 15) rfl)
theorem wd_116 : ((.methodLink R_Reader 77 y_Scan_takeName) : Cond) ∈ wsAll := inA_1 _ (List.mem_of_getElem? (i := 16) rfl)
theorem wd_117 : ((.instanceMethod y_Scan_takeName) : Cond) ∈ wsAll := inA_1 _ (List.mem_of_getElem? (i := 17) rfl)
theorem wd_118 : ((.selects R_Scan y_Scan_takeName y_Scan_takeName) : Cond) ∈ wsAll := inA_1 _ (List.mem_of_getElem? (i := 18) rfl)
theorem wd_119 : ((.code y_Scan_takeName b_Scan_takeName 1 (some .boolean)) : Cond) ∈ wsAll := inA_1 _ (List.mem_of_getElem? (i := 19) rfl)
theorem wd_120 : ((.classLink R_Scan 57 R_Name) : Cond) ∈ wsAll := inA_1 _ (List.mem_of_getElem? (i := 20) rfl)
theorem wd_121 : ((.instantiable R_Name 3) : Cond) ∈ wsAll := inA_1 _ (List.mem_of_getElem? (i := 21) rfl)
theorem wd_122 : ((.fieldLink R_Name 9 "PackageRows$Name" "written" "[C") : Cond) ∈ wsAll := inA_1 _ (List.mem_of_getElem? (i := 22) rfl)
theorem wd_123 : ((.methodLink R_Name 18 y_Name_isBar) : Cond) ∈ wsAll := inA_1 _ (List.mem_of_getElem? (i := 23) rfl)
theorem wd_124 : ((.methodLink R_Name 22 y_Name_smallLetter) : Cond) ∈ wsAll := inA_1 _ (List.mem_of_getElem? (i := 24) rfl)
theorem wd_125 : ((.static y_Name_smallLetter) : Cond) ∈ wsAll := inA_1 _ (List.mem_of_getElem? (i := 25) rfl)
theorem wd_126 : ((.code y_Name_smallLetter b_Name_smallLetter 1 (some .char)) : Cond) ∈ wsAll := inA_1 _ (List.mem_of_getElem? (i := 26) rfl)
theorem wd_127 : ((.methodLink R_Name 3 Lib.objectInit) : Cond) ∈ wsAll := inA_1 _ (List.mem_of_getElem? (i := 27) rfl)
theorem wd_128 : ((.code y_Name_init b_Name_init 9 none) : Cond) ∈ wsAll := inA_1 _ (List.mem_of_getElem? (i := 28) rfl)
theorem wd_129 : ((.methodLink R_Scan 74 y_Name_init) : Cond) ∈ wsAll := inA_1 _ (List.mem_of_getElem? (i := 29) rfl)
theorem wd_130 : ((.instanceMethod y_Name_init) : Cond) ∈ wsAll := inA_1 _ (List.mem_of_getElem? (i := 30) rfl)
theorem wd_131 : ((.methodLink R_Reader 80 y_Scan_takenName) : Cond) ∈ wsAll := inA_1 _ (List.mem_of_getElem? (i := 31) rfl)
theorem wd_132 : ((.instanceMethod y_Scan_takenName) : Cond) ∈ wsAll := inA_1 _ (List.mem_of_getElem? (i := 32) rfl)
theorem wd_133 : ((.selects R_Scan y_Scan_takenName y_Scan_takenName) : Cond) ∈ wsAll := inA_1 _ (List.mem_of_getElem? (i := 33) rfl)
theorem wd_134 : ((.code y_Scan_takenName b_Scan_takenName 1 (some (.object "PackageRows$Name"))) : Cond) ∈ wsAll := inA_1 _ (List.mem_of_getElem? (i := 34) rfl)
theorem wd_135 : ((.fieldLink R_Scan 77 "PackageRows$Scan" "value" "J") : Cond) ∈ wsAll := inA_1 _ (List.mem_of_getElem? (i := 35) rfl)
theorem wd_136 : ((.constantLong R_Scan 81 10) : Cond) ∈ wsAll := inA_1 _ (List.mem_of_getElem? (i := 36) rfl)
theorem wd_137 : ((.constantLong R_Scan 83 48) : Cond) ∈ wsAll := inA_1 _ (List.mem_of_getElem? (i := 37) rfl)
theorem wd_138 : ((.methodLink R_Scan 85 y_Scan_takeNumber) : Cond) ∈ wsAll := inA_1 _ (List.mem_of_getElem? (i := 38) rfl)
theorem wd_139 : ((.instanceMethod y_Scan_takeNumber) : Cond) ∈ wsAll := inA_1 _ (List.mem_of_getElem? (i := 39) rfl)
theorem wd_140 : ((.selects R_Scan y_Scan_takeNumber y_Scan_takeNumber) : Cond) ∈ wsAll := inA_1 _ (List.mem_of_getElem? (i := 40) rfl)
theorem wd_141 : ((.code y_Scan_takeNumber b_Scan_takeNumber 4 (some .boolean)) : Cond) ∈ wsAll := inA_1 _ (List.mem_of_getElem? (i := 41) rfl)
theorem wd_142 : ((.constantLong R_Scan 88 1000000) : Cond) ∈ wsAll := inA_1 _ (List.mem_of_getElem? (i := 42) rfl)
theorem wd_143 : ((.methodLink R_Reader 88 y_Scan_takeVersion) : Cond) ∈ wsAll := inA_1 _ (List.mem_of_getElem? (i := 43) rfl)
theorem wd_144 : ((.instanceMethod y_Scan_takeVersion) : Cond) ∈ wsAll := inA_1 _ (List.mem_of_getElem? (i := 44) rfl)
theorem wd_145 : ((.selects R_Scan y_Scan_takeVersion y_Scan_takeVersion) : Cond) ∈ wsAll := inA_1 _ (List.mem_of_getElem? (i := 45) rfl)
theorem wd_146 : ((.code y_Scan_takeVersion b_Scan_takeVersion 5 (some .boolean)) : Cond) ∈ wsAll := inA_1 _ (List.mem_of_getElem? (i := 46) rfl)
theorem wd_147 : ((.fieldLink R_Reader 91 "PackageRows$Scan" "value" "J") : Cond) ∈ wsAll := inA_1 _ (List.mem_of_getElem? (i := 47) rfl)
theorem wd_148 : ((.fieldLink R_Reader 98 "PackageRows$Reader" "textRowPlace" "I") : Cond) ∈ wsAll := inA_1 _ (List.mem_of_getElem? (i := 48) rfl)
theorem wd_149 : ((.methodLink R_Row 1 Lib.objectInit) : Cond) ∈ wsAll := inA_1 _ (List.mem_of_getElem? (i := 49) rfl)
theorem wd_150 : ((.fieldLink R_Row 7 "PackageRows$Row" "kind" "I") : Cond) ∈ wsAll := inA_1 _ (List.mem_of_getElem? (i := 50) rfl)
theorem wd_151 : ((.fieldLink R_Row 13 "PackageRows$Row" "set" "I") : Cond) ∈ wsAll := inA_1 _ (List.mem_of_getElem? (i := 51) rfl)
theorem wd_152 : ((.fieldLink R_Row 16 "PackageRows$Row" "name" "LPackageRows$Name;") : Cond) ∈ wsAll := inA_1 _ (List.mem_of_getElem? (i := 52) rfl)
theorem wd_153 : ((.fieldLink R_Row 20 "PackageRows$Row" "other" "LPackageRows$Name;") : Cond) ∈ wsAll := inA_1 _ (List.mem_of_getElem? (i := 53) rfl)
theorem wd_154 : ((.fieldLink R_Row 23 "PackageRows$Row" "least" "J") : Cond) ∈ wsAll := inA_1 _ (List.mem_of_getElem? (i := 54) rfl)
theorem wd_155 : ((.fieldLink R_Row 27 "PackageRows$Row" "end" "J") : Cond) ∈ wsAll := inA_1 _ (List.mem_of_getElem? (i := 55) rfl)
theorem wd_156 : ((.code y_Row_init b_Row_init 9 none) : Cond) ∈ wsAll := inA_1 _ (List.mem_of_getElem? (i := 56) rfl)
theorem wd_157 : ((.initialized R_Row) : Cond) ∈ wsAll := inA_1 _ (List.mem_of_getElem? (i := 57) rfl)
theorem wd_158 : ((.methodLink R_Reader 173 y_Row_init) : Cond) ∈ wsAll := inA_1 _ (List.mem_of_getElem? (i := 58) rfl)
theorem wd_159 : ((.instanceMethod y_Row_init) : Cond) ∈ wsAll := inA_1 _ (List.mem_of_getElem? (i := 59) rfl)
theorem wd_160 : ((.instantiable R_Row 8) : Cond) ∈ wsAll := inA_1 _ (List.mem_of_getElem? (i := 60) rfl)
theorem wd_161 : ((.fieldLink R_Reader 41 "PackageRows$Reader" "set" "I") : Cond) ∈ wsAll := inA_1 _ (List.mem_of_getElem? (i := 61) rfl)
theorem wd_162 : ((.methodLink R_Reader 148 y_Reader_addRow) : Cond) ∈ wsAll := inA_1 _ (List.mem_of_getElem? (i := 62) rfl)
theorem wd_163 : ((.instanceMethod y_Reader_addRow) : Cond) ∈ wsAll := inA_1 _ (List.mem_of_getElem? (i := 63) rfl)
theorem wd_164 : ((.selects R_Reader y_Reader_addRow y_Reader_addRow) : Cond) ∈ wsAll := inA_1 _ (List.mem_of_getElem? (i := 64) rfl)
theorem wd_165 : ((.code y_Reader_addRow b_Reader_addRow 8 (some .boolean)) : Cond) ∈ wsAll := inA_1 _ (List.mem_of_getElem? (i := 65) rfl)
theorem wd_166 : ((.methodLink R_Reader 110 y_Reader_takeProvided) : Cond) ∈ wsAll := inA_1 _ (List.mem_of_getElem? (i := 66) rfl)
theorem wd_167 : ((.instanceMethod y_Reader_takeProvided) : Cond) ∈ wsAll := inA_1 _ (List.mem_of_getElem? (i := 67) rfl)
theorem wd_168 : ((.selects R_Reader y_Reader_takeProvided y_Reader_takeProvided) : Cond) ∈ wsAll := inA_1 _ (List.mem_of_getElem? (i := 68) rfl)
theorem wd_169 : ((.code y_Reader_takeProvided b_Reader_takeProvided 2 (some .boolean)) : Cond) ∈ wsAll := inA_1 _ (List.mem_of_getElem? (i := 69) rfl)
theorem wd_170 : ((.methodLink R_Scan 46 y_Scan_takeIfNext) : Cond) ∈ wsAll := inA_1 _ (List.mem_of_getElem? (i := 70) rfl)
theorem wd_171 : ((.instanceMethod y_Scan_takeIfNext) : Cond) ∈ wsAll := inA_1 _ (List.mem_of_getElem? (i := 71) rfl)
theorem wd_172 : ((.selects R_Scan y_Scan_takeIfNext y_Scan_takeIfNext) : Cond) ∈ wsAll := inA_1 _ (List.mem_of_getElem? (i := 72) rfl)
theorem wd_173 : ((.code y_Scan_takeIfNext b_Scan_takeIfNext 2 (some .boolean)) : Cond) ∈ wsAll := inA_1 _ (List.mem_of_getElem? (i := 73) rfl)
theorem wd_174 : ((.methodLink R_Reader 54 y_Scan_takeSign) : Cond) ∈ wsAll := inA_1 _ (List.mem_of_getElem? (i := 74) rfl)
theorem wd_175 : ((.instanceMethod y_Scan_takeSign) : Cond) ∈ wsAll := inA_1 _ (List.mem_of_getElem? (i := 75) rfl)
theorem wd_176 : ((.selects R_Scan y_Scan_takeSign y_Scan_takeSign) : Cond) ∈ wsAll := inA_1 _ (List.mem_of_getElem? (i := 76) rfl)
theorem wd_177 : ((.code y_Scan_takeSign b_Scan_takeSign 2 (some .boolean)) : Cond) ∈ wsAll := inA_1 _ (List.mem_of_getElem? (i := 77) rfl)
theorem wd_178 : ((.methodLink R_Reader 162 y_Scan_isNext) : Cond) ∈ wsAll := inA_1 _ (List.mem_of_getElem? (i := 78) rfl)
theorem wd_179 : ((.instanceMethod y_Scan_isNext) : Cond) ∈ wsAll := inA_1 _ (List.mem_of_getElem? (i := 79) rfl)
theorem wd_180 : ((.selects R_Scan y_Scan_isNext y_Scan_isNext) : Cond) ∈ wsAll := inA_1 _ (List.mem_of_getElem? (i := 80) rfl)
theorem wd_181 : ((.code y_Scan_isNext b_Scan_isNext 2 (some .boolean)) : Cond) ∈ wsAll := inA_1 _ (List.mem_of_getElem? (i := 81) rfl)
theorem wd_182 : ((.constantLong R_Reader 165 (-1)) : Cond) ∈ wsAll := inA_1 _ (List.mem_of_getElem? (i := 82) rfl)
theorem wd_183 : ((.methodLink R_Reader 152 y_Scan_takeIfNext) : Cond) ∈ wsAll := inA_1 _ (List.mem_of_getElem? (i := 83) rfl)
theorem wd_184 : ((.methodLink R_Reader 125 y_Reader_takeNames) : Cond) ∈ wsAll := inA_1 _ (List.mem_of_getElem? (i := 84) rfl)
theorem wd_185 : ((.instanceMethod y_Reader_takeNames) : Cond) ∈ wsAll := inA_1 _ (List.mem_of_getElem? (i := 85) rfl)
theorem wd_186 : ((.selects R_Reader y_Reader_takeNames y_Reader_takeNames) : Cond) ∈ wsAll := inA_1 _ (List.mem_of_getElem? (i := 86) rfl)
theorem wd_187 : ((.code y_Reader_takeNames b_Reader_takeNames 4 (some .boolean)) : Cond) ∈ wsAll := inA_1 _ (List.mem_of_getElem? (i := 87) rfl)
theorem wd_188 : ((.methodLink R_Reader 113 y_Reader_takeFeature) : Cond) ∈ wsAll := inA_1 _ (List.mem_of_getElem? (i := 88) rfl)
theorem wd_189 : ((.instanceMethod y_Reader_takeFeature) : Cond) ∈ wsAll := inA_1 _ (List.mem_of_getElem? (i := 89) rfl)
theorem wd_190 : ((.selects R_Reader y_Reader_takeFeature y_Reader_takeFeature) : Cond) ∈ wsAll := inA_1 _ (List.mem_of_getElem? (i := 90) rfl)
theorem wd_191 : ((.code y_Reader_takeFeature b_Reader_takeFeature 2 (some .boolean)) : Cond) ∈ wsAll := inA_1 _ (List.mem_of_getElem? (i := 91) rfl)
theorem wd_192 : ((.methodLink R_Reader 116 y_Reader_takeScript) : Cond) ∈ wsAll := inA_1 _ (List.mem_of_getElem? (i := 92) rfl)
theorem wd_193 : ((.instanceMethod y_Reader_takeScript) : Cond) ∈ wsAll := inA_1 _ (List.mem_of_getElem? (i := 93) rfl)
theorem wd_194 : ((.selects R_Reader y_Reader_takeScript y_Reader_takeScript) : Cond) ∈ wsAll := inA_1 _ (List.mem_of_getElem? (i := 94) rfl)
theorem wd_195 : ((.code y_Reader_takeScript b_Reader_takeScript 2 (some .boolean)) : Cond) ∈ wsAll := inA_1 _ (List.mem_of_getElem? (i := 95) rfl)
theorem wd_196 : ((.methodLink R_Reader 167 y_Scan_skipBlanks) : Cond) ∈ wsAll := inA_1 _ (List.mem_of_getElem? (i := 96) rfl)
theorem wd_197 : ((.methodLink R_Reader 170 y_Scan_takeNumber) : Cond) ∈ wsAll := inA_1 _ (List.mem_of_getElem? (i := 97) rfl)
theorem wd_198 : ((.methodLink R_Reader 119 y_Reader_takeFile) : Cond) ∈ wsAll := inA_1 _ (List.mem_of_getElem? (i := 98) rfl)
theorem wd_199 : ((.instanceMethod y_Reader_takeFile) : Cond) ∈ wsAll := inA_1 _ (List.mem_of_getElem? (i := 99) rfl)
theorem wd_200 : ((.selects R_Reader y_Reader_takeFile y_Reader_takeFile) : Cond) ∈ wsAll := inA_2 _ (List.mem_of_getElem? (i := 0) rfl)
theorem wd_201 : ((.code y_Reader_takeFile b_Reader_takeFile 2 (some .boolean)) : Cond) ∈ wsAll := inA_2 _ (List.mem_of_getElem? (i := 1) rfl)
theorem wd_202 : ((.methodLink R_Reader 122 y_Kind_isList) : Cond) ∈ wsAll := inA_2 _ (List.mem_of_getElem? (i := 2) rfl)
theorem wd_203 : ((.static y_Kind_isList) : Cond) ∈ wsAll := inA_2 _ (List.mem_of_getElem? (i := 3) rfl)
theorem wd_204 : ((.initialized R_Kind) : Cond) ∈ wsAll := inA_2 _ (List.mem_of_getElem? (i := 4) rfl)
theorem wd_205 : ((.code y_Kind_isList b_Kind_isList 1 (some .boolean)) : Cond) ∈ wsAll := inA_2 _ (List.mem_of_getElem? (i := 5) rfl)
theorem wd_206 : ((.fieldLink R_Scan 90 "PackageRows$Scan" "least" "J") : Cond) ∈ wsAll := inA_2 _ (List.mem_of_getElem? (i := 6) rfl)
theorem wd_207 : ((.fieldLink R_Scan 95 "PackageRows$Scan" "end" "J") : Cond) ∈ wsAll := inA_2 _ (List.mem_of_getElem? (i := 7) rfl)
theorem wd_208 : ((.methodLink R_Scan 98 y_Scan_takeVersion) : Cond) ∈ wsAll := inA_2 _ (List.mem_of_getElem? (i := 8) rfl)
theorem wd_209 : ((.methodLink R_Scan 111 Lib.MathLoose.min_long.x) : Cond) ∈ wsAll := inA_2 _ (List.mem_of_getElem? (i := 9) rfl)
theorem wd_210 : ((.static Lib.MathLoose.min_long.x) : Cond) ∈ wsAll := inA_2 _ (List.mem_of_getElem? (i := 10) rfl)
theorem wd_211 : ((.code Lib.MathLoose.min_long.x Lib.MathLoose.min_long.code 4 (some .long)) : Cond) ∈ wsAll := inA_2 _ (List.mem_of_getElem? (i := 11) rfl)
theorem wd_212 : ((.methodLink R_Scan 105 Lib.MathLoose.max_long.x) : Cond) ∈ wsAll := inA_2 _ (List.mem_of_getElem? (i := 12) rfl)
theorem wd_213 : ((.static Lib.MathLoose.max_long.x) : Cond) ∈ wsAll := inA_2 _ (List.mem_of_getElem? (i := 13) rfl)
theorem wd_214 : ((.code Lib.MathLoose.max_long.x Lib.MathLoose.max_long.code 4 (some .long)) : Cond) ∈ wsAll := inA_2 _ (List.mem_of_getElem? (i := 14) rfl)
theorem wd_215 : ((.methodLink R_Scan 101 y_Scan_narrow) : Cond) ∈ wsAll := inA_2 _ (List.mem_of_getElem? (i := 15) rfl)
theorem wd_216 : ((.instanceMethod y_Scan_narrow) : Cond) ∈ wsAll := inA_2 _ (List.mem_of_getElem? (i := 16) rfl)
theorem wd_217 : ((.selects R_Scan y_Scan_narrow y_Scan_narrow) : Cond) ∈ wsAll := inA_2 _ (List.mem_of_getElem? (i := 17) rfl)
theorem wd_218 : ((.code y_Scan_narrow b_Scan_narrow 5 none) : Cond) ∈ wsAll := inA_2 _ (List.mem_of_getElem? (i := 18) rfl)
theorem wd_219 : ((.constantLong R_Scan 93 1000000000000000000) : Cond) ∈ wsAll := inA_2 _ (List.mem_of_getElem? (i := 19) rfl)
theorem wd_220 : ((.methodLink R_Reader 139 y_Scan_takeRange) : Cond) ∈ wsAll := inA_2 _ (List.mem_of_getElem? (i := 20) rfl)
theorem wd_221 : ((.instanceMethod y_Scan_takeRange) : Cond) ∈ wsAll := inA_2 _ (List.mem_of_getElem? (i := 21) rfl)
theorem wd_222 : ((.selects R_Scan y_Scan_takeRange y_Scan_takeRange) : Cond) ∈ wsAll := inA_2 _ (List.mem_of_getElem? (i := 22) rfl)
theorem wd_223 : ((.code y_Scan_takeRange b_Scan_takeRange 4 (some .boolean)) : Cond) ∈ wsAll := inA_2 _ (List.mem_of_getElem? (i := 23) rfl)
theorem wd_224 : ((.fieldLink R_Reader 142 "PackageRows$Scan" "least" "J") : Cond) ∈ wsAll := inA_2 _ (List.mem_of_getElem? (i := 24) rfl)
theorem wd_225 : ((.fieldLink R_Reader 145 "PackageRows$Scan" "end" "J") : Cond) ∈ wsAll := inA_2 _ (List.mem_of_getElem? (i := 25) rfl)
theorem wd_226 : ((.fieldLink R_Reader 155 "PackageRows$Scan" "place" "I") : Cond) ∈ wsAll := inA_2 _ (List.mem_of_getElem? (i := 26) rfl)
theorem wd_227 : ((.methodLink R_Reader 129 y_Reader_takeRanged) : Cond) ∈ wsAll := inA_2 _ (List.mem_of_getElem? (i := 27) rfl)
theorem wd_228 : ((.instanceMethod y_Reader_takeRanged) : Cond) ∈ wsAll := inA_2 _ (List.mem_of_getElem? (i := 28) rfl)
theorem wd_229 : ((.selects R_Reader y_Reader_takeRanged y_Reader_takeRanged) : Cond) ∈ wsAll := inA_2 _ (List.mem_of_getElem? (i := 29) rfl)
theorem wd_230 : ((.code y_Reader_takeRanged b_Reader_takeRanged 5 (some .boolean)) : Cond) ∈ wsAll := inA_2 _ (List.mem_of_getElem? (i := 30) rfl)
theorem wd_231 : ((.methodLink R_Reader 61 y_Scan_takeWord) : Cond) ∈ wsAll := inA_2 _ (List.mem_of_getElem? (i := 31) rfl)
theorem wd_232 : ((.methodLink R_Reader 132 y_Kind_firstWord) : Cond) ∈ wsAll := inA_2 _ (List.mem_of_getElem? (i := 32) rfl)
theorem wd_233 : ((.static y_Kind_firstWord) : Cond) ∈ wsAll := inA_2 _ (List.mem_of_getElem? (i := 33) rfl)
theorem wd_234 : ((.code y_Kind_firstWord b_Kind_firstWord 1 (some (.object "java/lang/String"))) : Cond) ∈ wsAll := inA_2 _ (List.mem_of_getElem? (i := 34) rfl)
theorem wd_235 : ((.methodLink R_Scan 61 y_String_length) : Cond) ∈ wsAll := inA_2 _ (List.mem_of_getElem? (i := 35) rfl)
theorem wd_236 : ((.methodLink R_Scan 67 y_String_charAt) : Cond) ∈ wsAll := inA_2 _ (List.mem_of_getElem? (i := 36) rfl)
theorem wd_237 : ((.methodLink R_Reader 66 y_Scan_isWord) : Cond) ∈ wsAll := inA_2 _ (List.mem_of_getElem? (i := 37) rfl)
theorem wd_238 : ((.instanceMethod y_Scan_isWord) : Cond) ∈ wsAll := inA_2 _ (List.mem_of_getElem? (i := 38) rfl)
theorem wd_239 : ((.selects R_Scan y_Scan_isWord y_Scan_isWord) : Cond) ∈ wsAll := inA_2 _ (List.mem_of_getElem? (i := 39) rfl)
theorem wd_240 : ((.code y_Scan_isWord b_Scan_isWord 3 (some .boolean)) : Cond) ∈ wsAll := inA_2 _ (List.mem_of_getElem? (i := 40) rfl)
theorem wd_241 : ((.methodLink R_Reader 101 y_Reader_kindOfFirstWord) : Cond) ∈ wsAll := inA_2 _ (List.mem_of_getElem? (i := 41) rfl)
theorem wd_242 : ((.instanceMethod y_Reader_kindOfFirstWord) : Cond) ∈ wsAll := inA_2 _ (List.mem_of_getElem? (i := 42) rfl)
theorem wd_243 : ((.selects R_Reader y_Reader_kindOfFirstWord y_Reader_kindOfFirstWord) : Cond) ∈ wsAll := inA_2 _ (List.mem_of_getElem? (i := 43) rfl)
theorem wd_244 : ((.code y_Reader_kindOfFirstWord b_Reader_kindOfFirstWord 2 (some .int)) : Cond) ∈ wsAll := inA_2 _ (List.mem_of_getElem? (i := 44) rfl)
theorem wd_245 : ((.methodLink R_Reader 136 y_Kind_needWord) : Cond) ∈ wsAll := inA_2 _ (List.mem_of_getElem? (i := 45) rfl)
theorem wd_246 : ((.static y_Kind_needWord) : Cond) ∈ wsAll := inA_2 _ (List.mem_of_getElem? (i := 46) rfl)
theorem wd_247 : ((.code y_Kind_needWord b_Kind_needWord 1 (some (.object "java/lang/String"))) : Cond) ∈ wsAll := inA_2 _ (List.mem_of_getElem? (i := 47) rfl)
theorem wd_248 : ((.methodLink R_Reader 107 y_Reader_kindOfNeedWord) : Cond) ∈ wsAll := inA_2 _ (List.mem_of_getElem? (i := 48) rfl)
theorem wd_249 : ((.instanceMethod y_Reader_kindOfNeedWord) : Cond) ∈ wsAll := inA_2 _ (List.mem_of_getElem? (i := 49) rfl)
theorem wd_250 : ((.selects R_Reader y_Reader_kindOfNeedWord y_Reader_kindOfNeedWord) : Cond) ∈ wsAll := inA_2 _ (List.mem_of_getElem? (i := 50) rfl)
theorem wd_251 : ((.code y_Reader_kindOfNeedWord b_Reader_kindOfNeedWord 2 (some .int)) : Cond) ∈ wsAll := inA_2 _ (List.mem_of_getElem? (i := 51) rfl)
theorem wd_252 : ((.methodLink R_Reader 51 y_Reader_takeTextRow) : Cond) ∈ wsAll := inA_2 _ (List.mem_of_getElem? (i := 52) rfl)
theorem wd_253 : ((.instanceMethod y_Reader_takeTextRow) : Cond) ∈ wsAll := inA_2 _ (List.mem_of_getElem? (i := 53) rfl)
theorem wd_254 : ((.selects R_Reader y_Reader_takeTextRow y_Reader_takeTextRow) : Cond) ∈ wsAll := inA_2 _ (List.mem_of_getElem? (i := 54) rfl)
theorem wd_255 : ((.code y_Reader_takeTextRow b_Reader_takeTextRow 2 (some .boolean)) : Cond) ∈ wsAll := inA_2 _ (List.mem_of_getElem? (i := 55) rfl)
theorem wd_256 : ((.fieldLink R_Reader 84 "PackageRows$Reader" "name" "LPackageRows$Name;") : Cond) ∈ wsAll := inA_2 _ (List.mem_of_getElem? (i := 56) rfl)
theorem wd_257 : ((.fieldLink R_Reader 95 "PackageRows$Reader" "version" "J") : Cond) ∈ wsAll := inA_2 _ (List.mem_of_getElem? (i := 57) rfl)
theorem wd_258 : ((.methodLink R_Reader 44 y_Reader_takeHead) : Cond) ∈ wsAll := inA_2 _ (List.mem_of_getElem? (i := 58) rfl)
theorem wd_259 : ((.instanceMethod y_Reader_takeHead) : Cond) ∈ wsAll := inA_2 _ (List.mem_of_getElem? (i := 59) rfl)
theorem wd_260 : ((.selects R_Reader y_Reader_takeHead y_Reader_takeHead) : Cond) ∈ wsAll := inA_2 _ (List.mem_of_getElem? (i := 60) rfl)
theorem wd_261 : ((.code y_Reader_takeHead b_Reader_takeHead 1 (some .boolean)) : Cond) ∈ wsAll := inA_2 _ (List.mem_of_getElem? (i := 61) rfl)
theorem wd_262 : ((.methodLink R_PR 56 y_Reader_takeText) : Cond) ∈ wsAll := inA_2 _ (List.mem_of_getElem? (i := 62) rfl)
theorem wd_263 : ((.instanceMethod y_Reader_takeText) : Cond) ∈ wsAll := inA_2 _ (List.mem_of_getElem? (i := 63) rfl)
theorem wd_264 : ((.selects R_Reader y_Reader_takeText y_Reader_takeText) : Cond) ∈ wsAll := inA_2 _ (List.mem_of_getElem? (i := 64) rfl)
theorem wd_265 : ((.code y_Reader_takeText b_Reader_takeText 2 (some .boolean)) : Cond) ∈ wsAll := inA_2 _ (List.mem_of_getElem? (i := 65) rfl)
theorem wd_266 : ((.methodLink R_PR 60 y_Scan_useUp) : Cond) ∈ wsAll := inA_2 _ (List.mem_of_getElem? (i := 66) rfl)
theorem wd_267 : ((.instanceMethod y_Scan_useUp) : Cond) ∈ wsAll := inA_2 _ (List.mem_of_getElem? (i := 67) rfl)
theorem wd_268 : ((.selects R_Scan y_Scan_useUp y_Scan_useUp) : Cond) ∈ wsAll := inA_2 _ (List.mem_of_getElem? (i := 68) rfl)
theorem wd_269 : ((.code y_Scan_useUp b_Scan_useUp 1 none) : Cond) ∈ wsAll := inA_2 _ (List.mem_of_getElem? (i := 69) rfl)
theorem wd_270 : ((.fieldLink R_PR 67 "PackageRows" "packCount" "I") : Cond) ∈ wsAll := inA_2 _ (List.mem_of_getElem? (i := 70) rfl)
theorem wd_271 : ((.classLink R_Reader 186 R_Pack) : Cond) ∈ wsAll := inA_2 _ (List.mem_of_getElem? (i := 71) rfl)
theorem wd_272 : ((.instantiable R_Pack 4) : Cond) ∈ wsAll := inA_2 _ (List.mem_of_getElem? (i := 72) rfl)
theorem wd_273 : ((.initialized R_Pack) : Cond) ∈ wsAll := inA_2 _ (List.mem_of_getElem? (i := 73) rfl)
theorem wd_274 : ((.methodLink R_Pack 1 Lib.objectInit) : Cond) ∈ wsAll := inA_2 _ (List.mem_of_getElem? (i := 74) rfl)
theorem wd_275 : ((.fieldLink R_Pack 7 "PackageRows$Pack" "name" "LPackageRows$Name;") : Cond) ∈ wsAll := inA_2 _ (List.mem_of_getElem? (i := 75) rfl)
theorem wd_276 : ((.fieldLink R_Pack 13 "PackageRows$Pack" "version" "J") : Cond) ∈ wsAll := inA_2 _ (List.mem_of_getElem? (i := 76) rfl)
theorem wd_277 : ((.fieldLink R_Pack 17 "PackageRows$Pack" "features" "[LPackageRows$Name;") : Cond) ∈ wsAll := inA_2 _ (List.mem_of_getElem? (i := 77) rfl)
theorem wd_278 : ((.fieldLink R_Pack 21 "PackageRows$Pack" "rows" "[LPackageRows$Row;") : Cond) ∈ wsAll := inA_2 _ (List.mem_of_getElem? (i := 78) rfl)
theorem wd_279 : ((.code y_Pack_init b_Pack_init 6 none) : Cond) ∈ wsAll := inA_2 _ (List.mem_of_getElem? (i := 79) rfl)
theorem wd_280 : ((.methodLink R_Reader 188 y_Pack_init) : Cond) ∈ wsAll := inA_2 _ (List.mem_of_getElem? (i := 80) rfl)
theorem wd_281 : ((.instanceMethod y_Pack_init) : Cond) ∈ wsAll := inA_2 _ (List.mem_of_getElem? (i := 81) rfl)
theorem wd_282 : ((.fieldLink R_Pack 68 "PackageRows$Row" "writtenDifferently" "Z") : Cond) ∈ wsAll := inA_2 _ (List.mem_of_getElem? (i := 82) rfl)
theorem wd_283 : ((.methodLink R_Row 38 y_Kind_hasRange) : Cond) ∈ wsAll := inA_2 _ (List.mem_of_getElem? (i := 83) rfl)
theorem wd_284 : ((.static y_Kind_hasRange) : Cond) ∈ wsAll := inA_2 _ (List.mem_of_getElem? (i := 84) rfl)
theorem wd_285 : ((.code y_Kind_hasRange b_Kind_hasRange 1 (some .boolean)) : Cond) ∈ wsAll := inA_2 _ (List.mem_of_getElem? (i := 85) rfl)
theorem wd_286 : ((.methodLink R_Pack 61 y_Row_hasEmptyRange) : Cond) ∈ wsAll := inA_2 _ (List.mem_of_getElem? (i := 86) rfl)
theorem wd_287 : ((.instanceMethod y_Row_hasEmptyRange) : Cond) ∈ wsAll := inA_2 _ (List.mem_of_getElem? (i := 87) rfl)
theorem wd_288 : ((.selects R_Row y_Row_hasEmptyRange y_Row_hasEmptyRange) : Cond) ∈ wsAll := inA_2 _ (List.mem_of_getElem? (i := 88) rfl)
theorem wd_289 : ((.code y_Row_hasEmptyRange b_Row_hasEmptyRange 1 (some .boolean)) : Cond) ∈ wsAll := inA_2 _ (List.mem_of_getElem? (i := 89) rfl)
theorem wd_290 : ((.fieldLink R_Pack 31 "PackageRows$Row" "kind" "I") : Cond) ∈ wsAll := inA_2 _ (List.mem_of_getElem? (i := 90) rfl)
theorem wd_291 : ((.fieldLink R_Pack 39 "PackageRows$Row" "name" "LPackageRows$Name;") : Cond) ∈ wsAll := inA_2 _ (List.mem_of_getElem? (i := 91) rfl)
theorem wd_292 : ((.methodLink R_Pack 25 y_Name_foldsLikeOneOf) : Cond) ∈ wsAll := inA_2 _ (List.mem_of_getElem? (i := 92) rfl)
theorem wd_293 : ((.methodLink R_Pack 47 y_Pack_hasFeature) : Cond) ∈ wsAll := inA_2 _ (List.mem_of_getElem? (i := 93) rfl)
theorem wd_294 : ((.instanceMethod y_Pack_hasFeature) : Cond) ∈ wsAll := inA_2 _ (List.mem_of_getElem? (i := 94) rfl)
theorem wd_295 : ((.selects R_Pack y_Pack_hasFeature y_Pack_hasFeature) : Cond) ∈ wsAll := inA_2 _ (List.mem_of_getElem? (i := 95) rfl)
theorem wd_296 : ((.code y_Pack_hasFeature b_Pack_hasFeature 2 (some .boolean)) : Cond) ∈ wsAll := inA_2 _ (List.mem_of_getElem? (i := 96) rfl)
theorem wd_297 : ((.methodLink R_Pack 40 y_Name_foldsLike) : Cond) ∈ wsAll := inA_2 _ (List.mem_of_getElem? (i := 97) rfl)
theorem wd_298 : ((.instanceMethod y_Name_foldsLike) : Cond) ∈ wsAll := inA_2 _ (List.mem_of_getElem? (i := 98) rfl)
theorem wd_299 : ((.selects R_Name y_Name_foldsLike y_Name_foldsLike) : Cond) ∈ wsAll := inA_2 _ (List.mem_of_getElem? (i := 99) rfl)
theorem wd_300 : ((.code y_Name_foldsLike b_Name_foldsLike 2 (some .boolean)) : Cond) ∈ wsAll := inA_3 _ (List.mem_of_getElem? (i := 0) rfl)
theorem wd_301 : ((.methodLink R_Pack 65 y_Pack_hasOptionalNeed) : Cond) ∈ wsAll := inA_3 _ (List.mem_of_getElem? (i := 1) rfl)
theorem wd_302 : ((.instanceMethod y_Pack_hasOptionalNeed) : Cond) ∈ wsAll := inA_3 _ (List.mem_of_getElem? (i := 2) rfl)
theorem wd_303 : ((.selects R_Pack y_Pack_hasOptionalNeed y_Pack_hasOptionalNeed) : Cond) ∈ wsAll := inA_3 _ (List.mem_of_getElem? (i := 3) rfl)
theorem wd_304 : ((.code y_Pack_hasOptionalNeed b_Pack_hasOptionalNeed 3 (some .boolean)) : Cond) ∈ wsAll := inA_3 _ (List.mem_of_getElem? (i := 4) rfl)
theorem wd_305 : ((.methodLink R_Pack 57 y_Kind_isNeed) : Cond) ∈ wsAll := inA_3 _ (List.mem_of_getElem? (i := 5) rfl)
theorem wd_306 : ((.static y_Kind_isNeed) : Cond) ∈ wsAll := inA_3 _ (List.mem_of_getElem? (i := 6) rfl)
theorem wd_307 : ((.code y_Kind_isNeed b_Kind_isNeed 1 (some .boolean)) : Cond) ∈ wsAll := inA_3 _ (List.mem_of_getElem? (i := 7) rfl)
theorem wd_308 : ((.methodLink R_Pack 50 y_Pack_whyBroken) : Cond) ∈ wsAll := inA_3 _ (List.mem_of_getElem? (i := 8) rfl)
theorem wd_309 : ((.instanceMethod y_Pack_whyBroken) : Cond) ∈ wsAll := inA_3 _ (List.mem_of_getElem? (i := 9) rfl)
theorem wd_310 : ((.selects R_Pack y_Pack_whyBroken y_Pack_whyBroken) : Cond) ∈ wsAll := inA_3 _ (List.mem_of_getElem? (i := 10) rfl)
theorem wd_311 : ((.code y_Pack_whyBroken b_Pack_whyBroken 3 (some .int)) : Cond) ∈ wsAll := inA_3 _ (List.mem_of_getElem? (i := 11) rfl)
theorem wd_312 : ((.fieldLink R_Pack 54 "PackageRows$Row" "why" "I") : Cond) ∈ wsAll := inA_3 _ (List.mem_of_getElem? (i := 12) rfl)
theorem wd_313 : ((.methodLink R_Reader 191 y_Pack_markBroken) : Cond) ∈ wsAll := inA_3 _ (List.mem_of_getElem? (i := 13) rfl)
theorem wd_314 : ((.instanceMethod y_Pack_markBroken) : Cond) ∈ wsAll := inA_3 _ (List.mem_of_getElem? (i := 14) rfl)
theorem wd_315 : ((.selects R_Pack y_Pack_markBroken y_Pack_markBroken) : Cond) ∈ wsAll := inA_3 _ (List.mem_of_getElem? (i := 15) rfl)
theorem wd_316 : ((.code y_Pack_markBroken b_Pack_markBroken 2 none) : Cond) ∈ wsAll := inA_3 _ (List.mem_of_getElem? (i := 16) rfl)
theorem wd_317 : ((.methodLink R_Row 42 y_Name_order) : Cond) ∈ wsAll := inA_3 _ (List.mem_of_getElem? (i := 17) rfl)
theorem wd_318 : ((.methodLink R_Reader 194 y_Row_order) : Cond) ∈ wsAll := inA_3 _ (List.mem_of_getElem? (i := 18) rfl)
theorem wd_319 : ((.instanceMethod y_Row_order) : Cond) ∈ wsAll := inA_3 _ (List.mem_of_getElem? (i := 19) rfl)
theorem wd_320 : ((.selects R_Row y_Row_order y_Row_order) : Cond) ∈ wsAll := inA_3 _ (List.mem_of_getElem? (i := 20) rfl)
theorem wd_321 : ((.code y_Row_order b_Row_order 3 (some .int)) : Cond) ∈ wsAll := inA_3 _ (List.mem_of_getElem? (i := 21) rfl)
theorem wd_322 : ((.methodLink R_Reader 180 y_Reader_sortRows) : Cond) ∈ wsAll := inA_3 _ (List.mem_of_getElem? (i := 22) rfl)
theorem wd_323 : ((.instanceMethod y_Reader_sortRows) : Cond) ∈ wsAll := inA_3 _ (List.mem_of_getElem? (i := 23) rfl)
theorem wd_324 : ((.selects R_Reader y_Reader_sortRows y_Reader_sortRows) : Cond) ∈ wsAll := inA_3 _ (List.mem_of_getElem? (i := 24) rfl)
theorem wd_325 : ((.code y_Reader_sortRows b_Reader_sortRows 4 none) : Cond) ∈ wsAll := inA_3 _ (List.mem_of_getElem? (i := 25) rfl)
theorem wd_326 : ((.methodLink R_Kind 9 y_Kind_isList) : Cond) ∈ wsAll := inA_3 _ (List.mem_of_getElem? (i := 26) rfl)
theorem wd_327 : ((.methodLink R_Row 46 y_Kind_joins) : Cond) ∈ wsAll := inA_3 _ (List.mem_of_getElem? (i := 27) rfl)
theorem wd_328 : ((.static y_Kind_joins) : Cond) ∈ wsAll := inA_3 _ (List.mem_of_getElem? (i := 28) rfl)
theorem wd_329 : ((.code y_Kind_joins b_Kind_joins 1 (some .boolean)) : Cond) ∈ wsAll := inA_3 _ (List.mem_of_getElem? (i := 29) rfl)
theorem wd_330 : ((.methodLink R_Row 49 y_Row_order) : Cond) ∈ wsAll := inA_3 _ (List.mem_of_getElem? (i := 30) rfl)
theorem wd_331 : ((.methodLink R_Reader 198 y_Row_joins) : Cond) ∈ wsAll := inA_3 _ (List.mem_of_getElem? (i := 31) rfl)
theorem wd_332 : ((.instanceMethod y_Row_joins) : Cond) ∈ wsAll := inA_3 _ (List.mem_of_getElem? (i := 32) rfl)
theorem wd_333 : ((.selects R_Row y_Row_joins y_Row_joins) : Cond) ∈ wsAll := inA_3 _ (List.mem_of_getElem? (i := 33) rfl)
theorem wd_334 : ((.code y_Row_joins b_Row_joins 2 (some .boolean)) : Cond) ∈ wsAll := inA_3 _ (List.mem_of_getElem? (i := 34) rfl)
theorem wd_335 : ((.methodLink R_Row 59 Lib.MathLoose.max_long.x) : Cond) ∈ wsAll := inA_3 _ (List.mem_of_getElem? (i := 35) rfl)
theorem wd_336 : ((.methodLink R_Row 65 Lib.MathLoose.min_long.x) : Cond) ∈ wsAll := inA_3 _ (List.mem_of_getElem? (i := 36) rfl)
theorem wd_337 : ((.methodLink R_Row 68 y_Row_hasEmptyRange) : Cond) ∈ wsAll := inA_3 _ (List.mem_of_getElem? (i := 37) rfl)
theorem wd_338 : ((.methodLink R_Row 52 y_Name_isWrittenLike) : Cond) ∈ wsAll := inA_3 _ (List.mem_of_getElem? (i := 38) rfl)
theorem wd_339 : ((.instanceMethod y_Name_isWrittenLike) : Cond) ∈ wsAll := inA_3 _ (List.mem_of_getElem? (i := 39) rfl)
theorem wd_340 : ((.selects R_Name y_Name_isWrittenLike y_Name_isWrittenLike) : Cond) ∈ wsAll := inA_3 _ (List.mem_of_getElem? (i := 40) rfl)
theorem wd_341 : ((.code y_Name_isWrittenLike b_Name_isWrittenLike 3 (some .boolean)) : Cond) ∈ wsAll := inA_3 _ (List.mem_of_getElem? (i := 41) rfl)
theorem wd_342 : ((.fieldLink R_Row 55 "PackageRows$Row" "writtenDifferently" "Z") : Cond) ∈ wsAll := inA_3 _ (List.mem_of_getElem? (i := 42) rfl)
theorem wd_343 : ((.methodLink R_Reader 202 y_Row_join) : Cond) ∈ wsAll := inA_3 _ (List.mem_of_getElem? (i := 43) rfl)
theorem wd_344 : ((.instanceMethod y_Row_join) : Cond) ∈ wsAll := inA_3 _ (List.mem_of_getElem? (i := 44) rfl)
theorem wd_345 : ((.selects R_Row y_Row_join y_Row_join) : Cond) ∈ wsAll := inA_3 _ (List.mem_of_getElem? (i := 45) rfl)
theorem wd_346 : ((.code y_Row_join b_Row_join 2 none) : Cond) ∈ wsAll := inA_3 _ (List.mem_of_getElem? (i := 46) rfl)
theorem wd_347 : ((.methodLink R_Reader 183 y_Reader_joinRows) : Cond) ∈ wsAll := inA_3 _ (List.mem_of_getElem? (i := 47) rfl)
theorem wd_348 : ((.instanceMethod y_Reader_joinRows) : Cond) ∈ wsAll := inA_3 _ (List.mem_of_getElem? (i := 48) rfl)
theorem wd_349 : ((.selects R_Reader y_Reader_joinRows y_Reader_joinRows) : Cond) ∈ wsAll := inA_3 _ (List.mem_of_getElem? (i := 49) rfl)
theorem wd_350 : ((.code y_Reader_joinRows b_Reader_joinRows 3 none) : Cond) ∈ wsAll := inA_3 _ (List.mem_of_getElem? (i := 50) rfl)
theorem wd_351 : ((.methodLink R_PR 71 y_Reader_makePack) : Cond) ∈ wsAll := inA_3 _ (List.mem_of_getElem? (i := 51) rfl)
theorem wd_352 : ((.instanceMethod y_Reader_makePack) : Cond) ∈ wsAll := inA_3 _ (List.mem_of_getElem? (i := 52) rfl)
theorem wd_353 : ((.selects R_Reader y_Reader_makePack y_Reader_makePack) : Cond) ∈ wsAll := inA_3 _ (List.mem_of_getElem? (i := 53) rfl)
theorem wd_354 : ((.code y_Reader_makePack b_Reader_makePack 4 (some (.object "PackageRows$Pack"))) : Cond) ∈ wsAll := inA_3 _ (List.mem_of_getElem? (i := 54) rfl)
theorem wd_355 : ((.methodLink R_PR 63 y_Scan_refusal) : Cond) ∈ wsAll := inA_3 _ (List.mem_of_getElem? (i := 55) rfl)
theorem wd_356 : ((.instanceMethod y_Scan_refusal) : Cond) ∈ wsAll := inA_3 _ (List.mem_of_getElem? (i := 56) rfl)
theorem wd_357 : ((.selects R_Scan y_Scan_refusal y_Scan_refusal) : Cond) ∈ wsAll := inA_3 _ (List.mem_of_getElem? (i := 57) rfl)
theorem wd_358 : ((.code y_Scan_refusal b_Scan_refusal 1 (some .int)) : Cond) ∈ wsAll := inA_3 _ (List.mem_of_getElem? (i := 58) rfl)
theorem wd_359 : ((.methodLink R_PR 75 y_PR_packOf) : Cond) ∈ wsAll := inA_3 _ (List.mem_of_getElem? (i := 59) rfl)
theorem wd_360 : ((.instanceMethod y_PR_packOf) : Cond) ∈ wsAll := inA_3 _ (List.mem_of_getElem? (i := 60) rfl)
theorem wd_361 : ((.selects R_PR y_PR_packOf y_PR_packOf) : Cond) ∈ wsAll := inA_3 _ (List.mem_of_getElem? (i := 61) rfl)
theorem wd_362 : ((.initialized R_PR) : Cond) ∈ wsAll := inA_3 _ (List.mem_of_getElem? (i := 62) rfl)
theorem wd_363 : ((.code y_PR_packOf b_PR_packOf 2 (some (.object "PackageRows$Pack"))) : Cond) ∈ wsAll := inA_3 _ (List.mem_of_getElem? (i := 63) rfl)
theorem wd_364 : ((.fieldLink R_PR 79 "PackageRows$Pack" "rows" "[LPackageRows$Row;") : Cond) ∈ wsAll := inA_3 _ (List.mem_of_getElem? (i := 64) rfl)
theorem wd_365 : ((.methodLink R_PR 83 y_PR_rowOf) : Cond) ∈ wsAll := inA_3 _ (List.mem_of_getElem? (i := 65) rfl)
theorem wd_366 : ((.instanceMethod y_PR_rowOf) : Cond) ∈ wsAll := inA_3 _ (List.mem_of_getElem? (i := 66) rfl)
theorem wd_367 : ((.selects R_PR y_PR_rowOf y_PR_rowOf) : Cond) ∈ wsAll := inA_3 _ (List.mem_of_getElem? (i := 67) rfl)
theorem wd_368 : ((.code y_PR_rowOf b_PR_rowOf 4 (some (.object "PackageRows$Row"))) : Cond) ∈ wsAll := inA_3 _ (List.mem_of_getElem? (i := 68) rfl)
theorem wd_369 : ((.fieldLink R_PR 87 "PackageRows$Row" "kind" "I") : Cond) ∈ wsAll := inA_3 _ (List.mem_of_getElem? (i := 69) rfl)
theorem wd_370 : ((.fieldLink R_PR 92 "PackageRows$Row" "set" "I") : Cond) ∈ wsAll := inA_3 _ (List.mem_of_getElem? (i := 70) rfl)
theorem wd_371 : ((.fieldLink R_PR 95 "PackageRows$Row" "name" "LPackageRows$Name;") : Cond) ∈ wsAll := inA_3 _ (List.mem_of_getElem? (i := 71) rfl)
theorem wd_372 : ((.fieldLink R_PR 99 "PackageRows$Name" "written" "[C") : Cond) ∈ wsAll := inA_3 _ (List.mem_of_getElem? (i := 72) rfl)
theorem wd_373 : ((.fieldLink R_PR 105 "PackageRows$Name" "foldedLength" "I") : Cond) ∈ wsAll := inA_3 _ (List.mem_of_getElem? (i := 73) rfl)
theorem wd_374 : ((.fieldLink R_PR 108 "PackageRows$Row" "why" "I") : Cond) ∈ wsAll := inA_3 _ (List.mem_of_getElem? (i := 74) rfl)
theorem wd_375 : ((.methodLink R_PR 111 y_Name_writtenAt) : Cond) ∈ wsAll := inA_3 _ (List.mem_of_getElem? (i := 75) rfl)
theorem wd_376 : ((.instanceMethod y_Name_writtenAt) : Cond) ∈ wsAll := inA_3 _ (List.mem_of_getElem? (i := 76) rfl)
theorem wd_377 : ((.selects R_Name y_Name_writtenAt y_Name_writtenAt) : Cond) ∈ wsAll := inA_3 _ (List.mem_of_getElem? (i := 77) rfl)
theorem wd_378 : ((.code y_Name_writtenAt b_Name_writtenAt 2 (some .int)) : Cond) ∈ wsAll := inA_3 _ (List.mem_of_getElem? (i := 78) rfl)
theorem wd_379 : ((.methodLink R_PR 115 y_Name_foldedAt) : Cond) ∈ wsAll := inA_3 _ (List.mem_of_getElem? (i := 79) rfl)
theorem wd_380 : ((.instanceMethod y_Name_foldedAt) : Cond) ∈ wsAll := inA_3 _ (List.mem_of_getElem? (i := 80) rfl)
theorem wd_381 : ((.selects R_Name y_Name_foldedAt y_Name_foldedAt) : Cond) ∈ wsAll := inA_3 _ (List.mem_of_getElem? (i := 81) rfl)
theorem wd_382 : ((.code y_Name_foldedAt b_Name_foldedAt 2 (some .int)) : Cond) ∈ wsAll := inA_3 _ (List.mem_of_getElem? (i := 82) rfl)
theorem wd_383 : ((.fieldLink R_PR 118 "PackageRows$Row" "other" "LPackageRows$Name;") : Cond) ∈ wsAll := inA_3 _ (List.mem_of_getElem? (i := 83) rfl)
theorem wd_384 : ((.fieldLink R_PR 123 "PackageRows$Row" "least" "J") : Cond) ∈ wsAll := inA_3 _ (List.mem_of_getElem? (i := 84) rfl)
theorem wd_385 : ((.constantLong R_PR 121 (-1)) : Cond) ∈ wsAll := inA_3 _ (List.mem_of_getElem? (i := 85) rfl)
theorem wd_386 : ((.fieldLink R_PR 127 "PackageRows$Row" "end" "J") : Cond) ∈ wsAll := inA_3 _ (List.mem_of_getElem? (i := 86) rfl)
theorem wd_387 : ((.methodLink R_PR 130 y_Pack_headsAlike) : Cond) ∈ wsAll := inA_3 _ (List.mem_of_getElem? (i := 87) rfl)
theorem wd_388 : ((.instanceMethod y_Pack_headsAlike) : Cond) ∈ wsAll := inA_3 _ (List.mem_of_getElem? (i := 88) rfl)
theorem wd_389 : ((.selects R_Pack y_Pack_headsAlike y_Pack_headsAlike) : Cond) ∈ wsAll := inA_3 _ (List.mem_of_getElem? (i := 89) rfl)
theorem wd_390 : ((.code y_Pack_headsAlike b_Pack_headsAlike 3 (some .boolean)) : Cond) ∈ wsAll := inA_3 _ (List.mem_of_getElem? (i := 90) rfl)
theorem wd_391 : ((.fieldLink R_Pairing 22 "PackageRows$Pack" "rows" "[LPackageRows$Row;") : Cond) ∈ wsAll := inA_3 _ (List.mem_of_getElem? (i := 91) rfl)
theorem wd_392 : ((.methodLink R_Pairing 28 y_Row_order) : Cond) ∈ wsAll := inA_3 _ (List.mem_of_getElem? (i := 92) rfl)
theorem wd_393 : ((.methodLink R_Row 32 y_Name_foldsLike) : Cond) ∈ wsAll := inA_3 _ (List.mem_of_getElem? (i := 93) rfl)
theorem wd_394 : ((.methodLink R_Pairing 38 y_Row_holdsLike) : Cond) ∈ wsAll := inA_3 _ (List.mem_of_getElem? (i := 94) rfl)
theorem wd_395 : ((.instanceMethod y_Row_holdsLike) : Cond) ∈ wsAll := inA_3 _ (List.mem_of_getElem? (i := 95) rfl)
theorem wd_396 : ((.selects R_Row y_Row_holdsLike y_Row_holdsLike) : Cond) ∈ wsAll := inA_3 _ (List.mem_of_getElem? (i := 96) rfl)
theorem wd_397 : ((.code y_Row_holdsLike b_Row_holdsLike 2 (some .boolean)) : Cond) ∈ wsAll := inA_3 _ (List.mem_of_getElem? (i := 97) rfl)
theorem wd_398 : ((.methodLink R_Pairing 34 y_Pairing_pairFrom) : Cond) ∈ wsAll := inA_3 _ (List.mem_of_getElem? (i := 98) rfl)
theorem wd_399 : ((.instanceMethod y_Pairing_pairFrom) : Cond) ∈ wsAll := inA_3 _ (List.mem_of_getElem? (i := 99) rfl)
theorem wd_400 : ((.selects R_Pairing y_Pairing_pairFrom y_Pairing_pairFrom) : Cond) ∈ wsAll := inA_4 _ (List.mem_of_getElem? (i := 0) rfl)
theorem wd_401 : ((.code y_Pairing_pairFrom b_Pairing_pairFrom 5 (some .boolean)) : Cond) ∈ wsAll := inA_4 _ (List.mem_of_getElem? (i := 1) rfl)
theorem wd_402 : ((.methodLink R_Pairing 18 y_Pairing_clear) : Cond) ∈ wsAll := inA_4 _ (List.mem_of_getElem? (i := 2) rfl)
theorem wd_403 : ((.static y_Pairing_clear) : Cond) ∈ wsAll := inA_4 _ (List.mem_of_getElem? (i := 3) rfl)
theorem wd_404 : ((.code y_Pairing_clear b_Pairing_clear 2 none) : Cond) ∈ wsAll := inA_4 _ (List.mem_of_getElem? (i := 4) rfl)
theorem wd_405 : ((.methodLink R_PR 134 y_Pairing_countAlone) : Cond) ∈ wsAll := inA_4 _ (List.mem_of_getElem? (i := 5) rfl)
theorem wd_406 : ((.instanceMethod y_Pairing_countAlone) : Cond) ∈ wsAll := inA_4 _ (List.mem_of_getElem? (i := 6) rfl)
theorem wd_407 : ((.selects R_Pairing y_Pairing_countAlone y_Pairing_countAlone) : Cond) ∈ wsAll := inA_4 _ (List.mem_of_getElem? (i := 7) rfl)
theorem wd_408 : ((.code y_Pairing_countAlone b_Pairing_countAlone 7 (some .int)) : Cond) ∈ wsAll := inA_4 _ (List.mem_of_getElem? (i := 8) rfl)
theorem wd_409 : ((.fieldLink R_PR 138 "PackageRows" "toldCount" "I") : Cond) ∈ wsAll := inA_4 _ (List.mem_of_getElem? (i := 9) rfl)
theorem wd_410 : ((.fieldLink R_PR 141 "PackageRows$Pairing" "firstPaired" "[Z") : Cond) ∈ wsAll := inA_4 _ (List.mem_of_getElem? (i := 10) rfl)
theorem wd_411 : ((.methodLink R_PR 145 y_PR_tellAlone) : Cond) ∈ wsAll := inA_4 _ (List.mem_of_getElem? (i := 11) rfl)
theorem wd_412 : ((.instanceMethod y_PR_tellAlone) : Cond) ∈ wsAll := inA_4 _ (List.mem_of_getElem? (i := 12) rfl)
theorem wd_413 : ((.selects R_PR y_PR_tellAlone y_PR_tellAlone) : Cond) ∈ wsAll := inA_4 _ (List.mem_of_getElem? (i := 13) rfl)
theorem wd_414 : ((.code y_PR_tellAlone b_PR_tellAlone 4 none) : Cond) ∈ wsAll := inA_4 _ (List.mem_of_getElem? (i := 14) rfl)
theorem wd_415 : ((.fieldLink R_PR 149 "PackageRows" "toldOfFirst" "I") : Cond) ∈ wsAll := inA_4 _ (List.mem_of_getElem? (i := 15) rfl)
theorem wd_416 : ((.fieldLink R_PR 152 "PackageRows$Pairing" "secondPaired" "[Z") : Cond) ∈ wsAll := inA_4 _ (List.mem_of_getElem? (i := 16) rfl)
theorem wd_417 : ((.fieldLink R_Printer 80 "PackageRows$Row" "name" "LPackageRows$Name;") : Cond) ∈ wsAll := inA_4 _ (List.mem_of_getElem? (i := 17) rfl)
theorem wd_418 : ((.fieldLink R_Printer 144 "PackageRows$Name" "written" "[C") : Cond) ∈ wsAll := inA_4 _ (List.mem_of_getElem? (i := 18) rfl)
theorem wd_419 : ((.fieldLink R_Printer 15 "PackageRows$Printer" "count" "I") : Cond) ∈ wsAll := inA_4 _ (List.mem_of_getElem? (i := 19) rfl)
theorem wd_420 : ((.methodLink R_Printer 27 y_Printer_put) : Cond) ∈ wsAll := inA_4 _ (List.mem_of_getElem? (i := 20) rfl)
theorem wd_421 : ((.instanceMethod y_Printer_put) : Cond) ∈ wsAll := inA_4 _ (List.mem_of_getElem? (i := 21) rfl)
theorem wd_422 : ((.selects R_Printer y_Printer_put y_Printer_put) : Cond) ∈ wsAll := inA_4 _ (List.mem_of_getElem? (i := 22) rfl)
theorem wd_423 : ((.code y_Printer_put b_Printer_put 2 none) : Cond) ∈ wsAll := inA_4 _ (List.mem_of_getElem? (i := 23) rfl)
theorem wd_424 : ((.methodLink R_Printer 43 y_Printer_putName) : Cond) ∈ wsAll := inA_4 _ (List.mem_of_getElem? (i := 24) rfl)
theorem wd_425 : ((.instanceMethod y_Printer_putName) : Cond) ∈ wsAll := inA_4 _ (List.mem_of_getElem? (i := 25) rfl)
theorem wd_426 : ((.selects R_Printer y_Printer_putName y_Printer_putName) : Cond) ∈ wsAll := inA_4 _ (List.mem_of_getElem? (i := 26) rfl)
theorem wd_427 : ((.code y_Printer_putName b_Printer_putName 3 none) : Cond) ∈ wsAll := inA_4 _ (List.mem_of_getElem? (i := 27) rfl)
theorem wd_428 : ((.fieldLink R_Printer 65 "PackageRows$Row" "kind" "I") : Cond) ∈ wsAll := inA_4 _ (List.mem_of_getElem? (i := 28) rfl)
theorem wd_429 : ((.fieldLink R_Printer 107 "PackageRows$Row" "least" "J") : Cond) ∈ wsAll := inA_4 _ (List.mem_of_getElem? (i := 29) rfl)
theorem wd_430 : ((.constantLong R_Printer 142 48) : Cond) ∈ wsAll := inA_4 _ (List.mem_of_getElem? (i := 30) rfl)
theorem wd_431 : ((.constantLong R_Printer 140 10) : Cond) ∈ wsAll := inA_4 _ (List.mem_of_getElem? (i := 31) rfl)
theorem wd_432 : ((.methodLink R_Printer 117 y_Printer_putNumber) : Cond) ∈ wsAll := inA_4 _ (List.mem_of_getElem? (i := 32) rfl)
theorem wd_433 : ((.instanceMethod y_Printer_putNumber) : Cond) ∈ wsAll := inA_4 _ (List.mem_of_getElem? (i := 33) rfl)
theorem wd_434 : ((.selects R_Printer y_Printer_putNumber y_Printer_putNumber) : Cond) ∈ wsAll := inA_4 _ (List.mem_of_getElem? (i := 34) rfl)
theorem wd_435 : ((.code y_Printer_putNumber b_Printer_putNumber 6 none) : Cond) ∈ wsAll := inA_4 _ (List.mem_of_getElem? (i := 35) rfl)
theorem wd_436 : ((.methodLink R_Printer 104 y_Kind_hasRange) : Cond) ∈ wsAll := inA_4 _ (List.mem_of_getElem? (i := 36) rfl)
theorem wd_437 : ((.fieldLink R_Printer 99 "PackageRows$Row" "other" "LPackageRows$Name;") : Cond) ∈ wsAll := inA_4 _ (List.mem_of_getElem? (i := 37) rfl)
theorem wd_438 : ((.constantLong R_Printer 138 1000000) : Cond) ∈ wsAll := inA_4 _ (List.mem_of_getElem? (i := 38) rfl)
theorem wd_439 : ((.methodLink R_Printer 51 y_Printer_putVersion) : Cond) ∈ wsAll := inA_4 _ (List.mem_of_getElem? (i := 39) rfl)
theorem wd_440 : ((.instanceMethod y_Printer_putVersion) : Cond) ∈ wsAll := inA_4 _ (List.mem_of_getElem? (i := 40) rfl)
theorem wd_441 : ((.selects R_Printer y_Printer_putVersion y_Printer_putVersion) : Cond) ∈ wsAll := inA_4 _ (List.mem_of_getElem? (i := 41) rfl)
theorem wd_442 : ((.code y_Printer_putVersion b_Printer_putVersion 3 none) : Cond) ∈ wsAll := inA_4 _ (List.mem_of_getElem? (i := 42) rfl)
theorem wd_443 : ((.fieldLink R_Printer 110 "PackageRows$Row" "end" "J") : Cond) ∈ wsAll := inA_4 _ (List.mem_of_getElem? (i := 43) rfl)
theorem wd_444 : ((.constantLong R_Printer 130 1000000000000000000) : Cond) ∈ wsAll := inA_4 _ (List.mem_of_getElem? (i := 44) rfl)
theorem wd_445 : ((.methodLink R_Printer 147 y_String_length) : Cond) ∈ wsAll := inA_4 _ (List.mem_of_getElem? (i := 45) rfl)
theorem wd_446 : ((.methodLink R_Printer 153 y_String_charAt) : Cond) ∈ wsAll := inA_4 _ (List.mem_of_getElem? (i := 46) rfl)
theorem wd_447 : ((.methodLink R_Printer 33 y_Printer_putText) : Cond) ∈ wsAll := inA_4 _ (List.mem_of_getElem? (i := 47) rfl)
theorem wd_448 : ((.instanceMethod y_Printer_putText) : Cond) ∈ wsAll := inA_4 _ (List.mem_of_getElem? (i := 48) rfl)
theorem wd_449 : ((.selects R_Printer y_Printer_putText y_Printer_putText) : Cond) ∈ wsAll := inA_4 _ (List.mem_of_getElem? (i := 49) rfl)
theorem wd_450 : ((.code y_Printer_putText b_Printer_putText 3 none) : Cond) ∈ wsAll := inA_4 _ (List.mem_of_getElem? (i := 50) rfl)
theorem wd_451 : ((.methodLink R_Printer 113 y_Printer_putRange) : Cond) ∈ wsAll := inA_4 _ (List.mem_of_getElem? (i := 51) rfl)
theorem wd_452 : ((.instanceMethod y_Printer_putRange) : Cond) ∈ wsAll := inA_4 _ (List.mem_of_getElem? (i := 52) rfl)
theorem wd_453 : ((.selects R_Printer y_Printer_putRange y_Printer_putRange) : Cond) ∈ wsAll := inA_4 _ (List.mem_of_getElem? (i := 53) rfl)
theorem wd_454 : ((.code y_Printer_putRange b_Printer_putRange 5 none) : Cond) ∈ wsAll := inA_4 _ (List.mem_of_getElem? (i := 54) rfl)
theorem wd_455 : ((.methodLink R_Printer 81 y_Printer_putRest) : Cond) ∈ wsAll := inA_4 _ (List.mem_of_getElem? (i := 55) rfl)
theorem wd_456 : ((.instanceMethod y_Printer_putRest) : Cond) ∈ wsAll := inA_4 _ (List.mem_of_getElem? (i := 56) rfl)
theorem wd_457 : ((.selects R_Printer y_Printer_putRest y_Printer_putRest) : Cond) ∈ wsAll := inA_4 _ (List.mem_of_getElem? (i := 57) rfl)
theorem wd_458 : ((.code y_Printer_putRest b_Printer_putRest 2 none) : Cond) ∈ wsAll := inA_4 _ (List.mem_of_getElem? (i := 58) rfl)
theorem wd_459 : ((.methodLink R_Printer 88 y_Kind_firstWord) : Cond) ∈ wsAll := inA_4 _ (List.mem_of_getElem? (i := 59) rfl)
theorem wd_460 : ((.methodLink R_Printer 92 y_Kind_isNeed) : Cond) ∈ wsAll := inA_4 _ (List.mem_of_getElem? (i := 60) rfl)
theorem wd_461 : ((.methodLink R_Printer 96 y_Kind_needWord) : Cond) ∈ wsAll := inA_4 _ (List.mem_of_getElem? (i := 61) rfl)
theorem wd_462 : ((.methodLink R_Printer 76 y_Printer_putBeginning) : Cond) ∈ wsAll := inA_4 _ (List.mem_of_getElem? (i := 62) rfl)
theorem wd_463 : ((.instanceMethod y_Printer_putBeginning) : Cond) ∈ wsAll := inA_4 _ (List.mem_of_getElem? (i := 63) rfl)
theorem wd_464 : ((.selects R_Printer y_Printer_putBeginning y_Printer_putBeginning) : Cond) ∈ wsAll := inA_4 _ (List.mem_of_getElem? (i := 64) rfl)
theorem wd_465 : ((.code y_Printer_putBeginning b_Printer_putBeginning 2 none) : Cond) ∈ wsAll := inA_4 _ (List.mem_of_getElem? (i := 65) rfl)
theorem wd_466 : ((.fieldLink R_Printer 55 "PackageRows$Pack" "rows" "[LPackageRows$Row;") : Cond) ∈ wsAll := inA_4 _ (List.mem_of_getElem? (i := 66) rfl)
theorem wd_467 : ((.fieldLink R_Printer 120 "PackageRows$Pack" "features" "[LPackageRows$Name;") : Cond) ∈ wsAll := inA_4 _ (List.mem_of_getElem? (i := 67) rfl)
theorem wd_468 : ((.methodLink R_Pack 44 y_Row_isOfFeature) : Cond) ∈ wsAll := inA_4 _ (List.mem_of_getElem? (i := 68) rfl)
theorem wd_469 : ((.instanceMethod y_Row_isOfFeature) : Cond) ∈ wsAll := inA_4 _ (List.mem_of_getElem? (i := 69) rfl)
theorem wd_470 : ((.selects R_Row y_Row_isOfFeature y_Row_isOfFeature) : Cond) ∈ wsAll := inA_4 _ (List.mem_of_getElem? (i := 70) rfl)
theorem wd_471 : ((.code y_Row_isOfFeature b_Row_isOfFeature 2 (some .boolean)) : Cond) ∈ wsAll := inA_4 _ (List.mem_of_getElem? (i := 71) rfl)
theorem wd_472 : ((.methodLink R_Printer 124 y_Pack_hasNamesOf) : Cond) ∈ wsAll := inA_4 _ (List.mem_of_getElem? (i := 72) rfl)
theorem wd_473 : ((.instanceMethod y_Pack_hasNamesOf) : Cond) ∈ wsAll := inA_4 _ (List.mem_of_getElem? (i := 73) rfl)
theorem wd_474 : ((.selects R_Pack y_Pack_hasNamesOf y_Pack_hasNamesOf) : Cond) ∈ wsAll := inA_4 _ (List.mem_of_getElem? (i := 74) rfl)
theorem wd_475 : ((.code y_Pack_hasNamesOf b_Pack_hasNamesOf 3 (some .boolean)) : Cond) ∈ wsAll := inA_4 _ (List.mem_of_getElem? (i := 75) rfl)
theorem wd_476 : ((.methodLink R_Printer 84 y_Printer_putBareFeatures) : Cond) ∈ wsAll := inA_4 _ (List.mem_of_getElem? (i := 76) rfl)
theorem wd_477 : ((.instanceMethod y_Printer_putBareFeatures) : Cond) ∈ wsAll := inA_4 _ (List.mem_of_getElem? (i := 77) rfl)
theorem wd_478 : ((.selects R_Printer y_Printer_putBareFeatures y_Printer_putBareFeatures) : Cond) ∈ wsAll := inA_4 _ (List.mem_of_getElem? (i := 78) rfl)
theorem wd_479 : ((.code y_Printer_putBareFeatures b_Printer_putBareFeatures 3 none) : Cond) ∈ wsAll := inA_4 _ (List.mem_of_getElem? (i := 79) rfl)
theorem wd_480 : ((.methodLink R_Row 72 y_Kind_isList) : Cond) ∈ wsAll := inA_4 _ (List.mem_of_getElem? (i := 80) rfl)
theorem wd_481 : ((.methodLink R_Row 75 y_Row_isOfFeature) : Cond) ∈ wsAll := inA_4 _ (List.mem_of_getElem? (i := 81) rfl)
theorem wd_482 : ((.methodLink R_Printer 59 y_Row_sharesTextRow) : Cond) ∈ wsAll := inA_4 _ (List.mem_of_getElem? (i := 82) rfl)
theorem wd_483 : ((.instanceMethod y_Row_sharesTextRow) : Cond) ∈ wsAll := inA_4 _ (List.mem_of_getElem? (i := 83) rfl)
theorem wd_484 : ((.selects R_Row y_Row_sharesTextRow y_Row_sharesTextRow) : Cond) ∈ wsAll := inA_4 _ (List.mem_of_getElem? (i := 84) rfl)
theorem wd_485 : ((.code y_Row_sharesTextRow b_Row_sharesTextRow 2 (some .boolean)) : Cond) ∈ wsAll := inA_4 _ (List.mem_of_getElem? (i := 85) rfl)
theorem wd_486 : ((.fieldLink R_Printer 37 "PackageRows$Pack" "name" "LPackageRows$Name;") : Cond) ∈ wsAll := inA_4 _ (List.mem_of_getElem? (i := 86) rfl)
theorem wd_487 : ((.fieldLink R_Printer 47 "PackageRows$Pack" "version" "J") : Cond) ∈ wsAll := inA_4 _ (List.mem_of_getElem? (i := 87) rfl)
theorem wd_488 : ((.methodLink R_PR 155 y_Printer_printPack) : Cond) ∈ wsAll := inA_4 _ (List.mem_of_getElem? (i := 88) rfl)
theorem wd_489 : ((.instanceMethod y_Printer_printPack) : Cond) ∈ wsAll := inA_4 _ (List.mem_of_getElem? (i := 89) rfl)
theorem wd_490 : ((.selects R_Printer y_Printer_printPack y_Printer_printPack) : Cond) ∈ wsAll := inA_4 _ (List.mem_of_getElem? (i := 90) rfl)
theorem wd_491 : ((.code y_Printer_printPack b_Printer_printPack 4 none) : Cond) ∈ wsAll := inA_4 _ (List.mem_of_getElem? (i := 91) rfl)
theorem wd_492 : ((.fieldLink R_PR 159 "PackageRows$Printer" "count" "I") : Cond) ∈ wsAll := inA_4 _ (List.mem_of_getElem? (i := 92) rfl)
theorem wd_493 : ((.methodLink R_PR 168 y_Scan_takenName) : Cond) ∈ wsAll := inA_4 _ (List.mem_of_getElem? (i := 93) rfl)
theorem wd_494 : ((.fieldLink R_Printer 19 "PackageRows$Name" "foldedLength" "I") : Cond) ∈ wsAll := inA_4 _ (List.mem_of_getElem? (i := 94) rfl)
theorem wd_495 : ((.fieldLink R_Printer 24 "PackageRows$Name" "folded" "[C") : Cond) ∈ wsAll := inA_4 _ (List.mem_of_getElem? (i := 95) rfl)
theorem wd_496 : ((.methodLink R_PR 172 y_Printer_printFolded) : Cond) ∈ wsAll := inA_4 _ (List.mem_of_getElem? (i := 96) rfl)
theorem wd_497 : ((.instanceMethod y_Printer_printFolded) : Cond) ∈ wsAll := inA_4 _ (List.mem_of_getElem? (i := 97) rfl)
theorem wd_498 : ((.selects R_Printer y_Printer_printFolded y_Printer_printFolded) : Cond) ∈ wsAll := inA_4 _ (List.mem_of_getElem? (i := 98) rfl)
theorem wd_499 : ((.code y_Printer_printFolded b_Printer_printFolded 3 none) : Cond) ∈ wsAll := inA_4 _ (List.mem_of_getElem? (i := 99) rfl)
theorem wd_500 : ((.methodLink R_PR 162 y_Scan_takeName) : Cond) ∈ wsAll := inA_5 _ (List.mem_of_getElem? (i := 0) rfl)
theorem wd_501 : ((.methodLink R_Scan 34 y_Scan_atEnd) : Cond) ∈ wsAll := inA_5 _ (List.mem_of_getElem? (i := 1) rfl)
theorem wd_502 : ((.methodLink R_PR 165 y_Scan_takeEnd) : Cond) ∈ wsAll := inA_5 _ (List.mem_of_getElem? (i := 2) rfl)
theorem wd_503 : ((.instanceMethod y_Scan_takeEnd) : Cond) ∈ wsAll := inA_5 _ (List.mem_of_getElem? (i := 3) rfl)
theorem wd_504 : ((.selects R_Scan y_Scan_takeEnd y_Scan_takeEnd) : Cond) ∈ wsAll := inA_5 _ (List.mem_of_getElem? (i := 4) rfl)
theorem wd_505 : ((.code y_Scan_takeEnd b_Scan_takeEnd 1 (some .boolean)) : Cond) ∈ wsAll := inA_5 _ (List.mem_of_getElem? (i := 5) rfl)
theorem wd_506 : ((.fieldLink R_PR 176 "PackageRows$Printer" "signs" "[C") : Cond) ∈ wsAll := inA_5 _ (List.mem_of_getElem? (i := 6) rfl)
theorem wd_507 : ((.methodLink R_MD 1 Lib.objectInit) : Cond) ∈ wsAll := inA_5 _ (List.mem_of_getElem? (i := 7) rfl)
theorem wd_508 : ((.arrayClass .byte) : Cond) ∈ wsAll := inA_5 _ (List.mem_of_getElem? (i := 8) rfl)
theorem wd_509 : ((.fieldLink R_MD 7 "PackageRowsModel" "text" "[B") : Cond) ∈ wsAll := inA_5 _ (List.mem_of_getElem? (i := 9) rfl)
theorem wd_510 : ((.arrayClass .long) : Cond) ∈ wsAll := inA_5 _ (List.mem_of_getElem? (i := 10) rfl)
theorem wd_511 : ((.constantLong R_MD 13 7501166) : Cond) ∈ wsAll := inA_5 _ (List.mem_of_getElem? (i := 11) rfl)
theorem wd_512 : ((.constantLong R_MD 15 422876638308) : Cond) ∈ wsAll := inA_5 _ (List.mem_of_getElem? (i := 12) rfl)
theorem wd_513 : ((.constantLong R_MD 17 1952805748) : Cond) ∈ wsAll := inA_5 _ (List.mem_of_getElem? (i := 13) rfl)
theorem wd_514 : ((.constantLong R_MD 19 8030046131791487340) : Cond) ∈ wsAll := inA_5 _ (List.mem_of_getElem? (i := 14) rfl)
theorem wd_515 : ((.constantLong R_MD 21 1885693298) : Cond) ∈ wsAll := inA_5 _ (List.mem_of_getElem? (i := 15) rfl)
theorem wd_516 : ((.fieldLink R_MD 23 "PackageRowsModel" "needs" "[J") : Cond) ∈ wsAll := inA_5 _ (List.mem_of_getElem? (i := 16) rfl)
theorem wd_517 : ((.constantLong R_MD 27 1852138852) : Cond) ∈ wsAll := inA_5 _ (List.mem_of_getElem? (i := 17) rfl)
theorem wd_518 : ((.constantLong R_MD 29 7165066918354314100) : Cond) ∈ wsAll := inA_5 _ (List.mem_of_getElem? (i := 18) rfl)
theorem wd_519 : ((.constantLong R_MD 31 32199680874079077) : Cond) ∈ wsAll := inA_5 _ (List.mem_of_getElem? (i := 19) rfl)
theorem wd_520 : ((.constantLong R_MD 33 31651020445148261) : Cond) ∈ wsAll := inA_5 _ (List.mem_of_getElem? (i := 20) rfl)
theorem wd_521 : ((.constantLong R_MD 35 6385273) : Cond) ∈ wsAll := inA_5 _ (List.mem_of_getElem? (i := 21) rfl)
theorem wd_522 : ((.constantLong R_MD 37 28821916864574053) : Cond) ∈ wsAll := inA_5 _ (List.mem_of_getElem? (i := 22) rfl)
theorem wd_523 : ((.constantLong R_MD 39 28258988067220596) : Cond) ∈ wsAll := inA_5 _ (List.mem_of_getElem? (i := 23) rfl)
theorem wd_524 : ((.constantLong R_MD 41 8100956982295360109) : Cond) ∈ wsAll := inA_5 _ (List.mem_of_getElem? (i := 24) rfl)
theorem wd_525 : ((.constantLong R_MD 43 30515173109162853) : Cond) ∈ wsAll := inA_5 _ (List.mem_of_getElem? (i := 25) rfl)
theorem wd_526 : ((.constantLong R_MD 45 118083237733746) : Cond) ∈ wsAll := inA_5 _ (List.mem_of_getElem? (i := 26) rfl)
theorem wd_527 : ((.constantLong R_MD 47 126870958469236) : Cond) ∈ wsAll := inA_5 _ (List.mem_of_getElem? (i := 27) rfl)
theorem wd_528 : ((.constantLong R_MD 49 1718185061) : Cond) ∈ wsAll := inA_5 _ (List.mem_of_getElem? (i := 28) rfl)
theorem wd_529 : ((.fieldLink R_MD 51 "PackageRowsModel" "kinds" "[J") : Cond) ∈ wsAll := inA_5 _ (List.mem_of_getElem? (i := 29) rfl)
theorem wd_530 : ((.fieldLink R_MD 54 "PackageRowsModel" "kindOf" "[I") : Cond) ∈ wsAll := inA_5 _ (List.mem_of_getElem? (i := 30) rfl)
theorem wd_531 : ((.fieldLink R_MD 58 "PackageRowsModel" "packageSize" "[I") : Cond) ∈ wsAll := inA_5 _ (List.mem_of_getElem? (i := 31) rfl)
theorem wd_532 : ((.fieldLink R_MD 61 "PackageRowsModel" "rowMany" "[I") : Cond) ∈ wsAll := inA_5 _ (List.mem_of_getElem? (i := 32) rfl)
theorem wd_533 : ((.fieldLink R_MD 64 "PackageRowsModel" "featureMany" "[I") : Cond) ∈ wsAll := inA_5 _ (List.mem_of_getElem? (i := 33) rfl)
theorem wd_534 : ((.fieldLink R_MD 67 "PackageRowsModel" "packageName" "[B") : Cond) ∈ wsAll := inA_5 _ (List.mem_of_getElem? (i := 34) rfl)
theorem wd_535 : ((.fieldLink R_MD 70 "PackageRowsModel" "version" "[J") : Cond) ∈ wsAll := inA_5 _ (List.mem_of_getElem? (i := 35) rfl)
theorem wd_536 : ((.constant R_MD 73 205000) : Cond) ∈ wsAll := inA_5 _ (List.mem_of_getElem? (i := 36) rfl)
theorem wd_537 : ((.fieldLink R_MD 74 "PackageRowsModel" "feature" "[B") : Cond) ∈ wsAll := inA_5 _ (List.mem_of_getElem? (i := 37) rfl)
theorem wd_538 : ((.fieldLink R_MD 77 "PackageRowsModel" "featureSize" "[I") : Cond) ∈ wsAll := inA_5 _ (List.mem_of_getElem? (i := 38) rfl)
theorem wd_539 : ((.fieldLink R_MD 80 "PackageRowsModel" "kind" "[B") : Cond) ∈ wsAll := inA_5 _ (List.mem_of_getElem? (i := 39) rfl)
theorem wd_540 : ((.fieldLink R_MD 83 "PackageRowsModel" "set" "[I") : Cond) ∈ wsAll := inA_5 _ (List.mem_of_getElem? (i := 40) rfl)
theorem wd_541 : ((.fieldLink R_MD 86 "PackageRowsModel" "nameSize" "[I") : Cond) ∈ wsAll := inA_5 _ (List.mem_of_getElem? (i := 41) rfl)
theorem wd_542 : ((.fieldLink R_MD 89 "PackageRowsModel" "otherSize" "[I") : Cond) ∈ wsAll := inA_5 _ (List.mem_of_getElem? (i := 42) rfl)
theorem wd_543 : ((.constant R_MD 92 164000) : Cond) ∈ wsAll := inA_5 _ (List.mem_of_getElem? (i := 43) rfl)
theorem wd_544 : ((.fieldLink R_MD 93 "PackageRowsModel" "name" "[B") : Cond) ∈ wsAll := inA_5 _ (List.mem_of_getElem? (i := 44) rfl)
theorem wd_545 : ((.fieldLink R_MD 96 "PackageRowsModel" "other" "[B") : Cond) ∈ wsAll := inA_5 _ (List.mem_of_getElem? (i := 45) rfl)
theorem wd_546 : ((.fieldLink R_MD 99 "PackageRowsModel" "low" "[J") : Cond) ∈ wsAll := inA_5 _ (List.mem_of_getElem? (i := 46) rfl)
theorem wd_547 : ((.fieldLink R_MD 102 "PackageRowsModel" "high" "[J") : Cond) ∈ wsAll := inA_5 _ (List.mem_of_getElem? (i := 47) rfl)
theorem wd_548 : ((.fieldLink R_MD 105 "PackageRowsModel" "mixed" "[Z") : Cond) ∈ wsAll := inA_5 _ (List.mem_of_getElem? (i := 48) rfl)
theorem wd_549 : ((.fieldLink R_MD 109 "PackageRowsModel" "defaultAt" "[I") : Cond) ∈ wsAll := inA_5 _ (List.mem_of_getElem? (i := 49) rfl)
theorem wd_550 : ((.fieldLink R_MD 112 "PackageRowsModel" "defaultSize" "[I") : Cond) ∈ wsAll := inA_5 _ (List.mem_of_getElem? (i := 50) rfl)
theorem wd_551 : ((.fieldLink R_MD 115 "PackageRowsModel" "one" "[B") : Cond) ∈ wsAll := inA_5 _ (List.mem_of_getElem? (i := 51) rfl)
theorem wd_552 : ((.fieldLink R_MD 118 "PackageRowsModel" "two" "[B") : Cond) ∈ wsAll := inA_5 _ (List.mem_of_getElem? (i := 52) rfl)
theorem wd_553 : ((.fieldLink R_MD 121 "PackageRowsModel" "changeWhose" "[I") : Cond) ∈ wsAll := inA_5 _ (List.mem_of_getElem? (i := 53) rfl)
theorem wd_554 : ((.fieldLink R_MD 124 "PackageRowsModel" "changeRow" "[I") : Cond) ∈ wsAll := inA_5 _ (List.mem_of_getElem? (i := 54) rfl)
theorem wd_555 : ((.fieldLink R_MD 127 "PackageRowsModel" "taken" "[Z") : Cond) ∈ wsAll := inA_5 _ (List.mem_of_getElem? (i := 55) rfl)
theorem wd_556 : ((.constant R_MD 130 60000) : Cond) ∈ wsAll := inA_5 _ (List.mem_of_getElem? (i := 56) rfl)
theorem wd_557 : ((.fieldLink R_MD 131 "PackageRowsModel" "print" "[B") : Cond) ∈ wsAll := inA_5 _ (List.mem_of_getElem? (i := 57) rfl)
theorem wd_558 : ((.fieldLink R_MD 138 "PackageRowsModel" "size" "I") : Cond) ∈ wsAll := inA_5 _ (List.mem_of_getElem? (i := 58) rfl)
theorem wd_559 : ((.fieldLink R_MD 134 "PackageRowsModel" "thrown" "I") : Cond) ∈ wsAll := inA_5 _ (List.mem_of_getElem? (i := 59) rfl)
theorem wd_560 : ((.fieldLink R_MD 147 "PackageRowsModel" "from" "I") : Cond) ∈ wsAll := inA_5 _ (List.mem_of_getElem? (i := 60) rfl)
theorem wd_561 : ((.fieldLink R_MD 141 "PackageRowsModel" "to" "I") : Cond) ∈ wsAll := inA_5 _ (List.mem_of_getElem? (i := 61) rfl)
theorem wd_562 : ((.methodLink R_MD 153 y_MD_isLetter) : Cond) ∈ wsAll := inA_5 _ (List.mem_of_getElem? (i := 62) rfl)
theorem wd_563 : ((.static y_MD_isLetter) : Cond) ∈ wsAll := inA_5 _ (List.mem_of_getElem? (i := 63) rfl)
theorem wd_564 : ((.initialized R_MD) : Cond) ∈ wsAll := inA_5 _ (List.mem_of_getElem? (i := 64) rfl)
theorem wd_565 : ((.code y_MD_isLetter b_MD_isLetter 1 (some .boolean)) : Cond) ∈ wsAll := inA_5 _ (List.mem_of_getElem? (i := 65) rfl)
theorem wd_566 : ((.methodLink R_MD 157 y_MD_isDigit) : Cond) ∈ wsAll := inA_5 _ (List.mem_of_getElem? (i := 66) rfl)
theorem wd_567 : ((.static y_MD_isDigit) : Cond) ∈ wsAll := inA_5 _ (List.mem_of_getElem? (i := 67) rfl)
theorem wd_568 : ((.code y_MD_isDigit b_MD_isDigit 1 (some .boolean)) : Cond) ∈ wsAll := inA_5 _ (List.mem_of_getElem? (i := 68) rfl)
theorem wd_569 : ((.methodLink R_MD 160 y_MD_isDash) : Cond) ∈ wsAll := inA_5 _ (List.mem_of_getElem? (i := 69) rfl)
theorem wd_570 : ((.static y_MD_isDash) : Cond) ∈ wsAll := inA_5 _ (List.mem_of_getElem? (i := 70) rfl)
theorem wd_571 : ((.code y_MD_isDash b_MD_isDash 1 (some .boolean)) : Cond) ∈ wsAll := inA_5 _ (List.mem_of_getElem? (i := 71) rfl)
theorem wd_572 : ((.fieldLink R_MD 150 "PackageRowsModel" "word" "I") : Cond) ∈ wsAll := inA_5 _ (List.mem_of_getElem? (i := 72) rfl)
theorem wd_573 : ((.fieldLink R_MD 144 "PackageRowsModel" "behind" "I") : Cond) ∈ wsAll := inA_5 _ (List.mem_of_getElem? (i := 73) rfl)
theorem wd_574 : ((.fieldLink R_MD 163 "PackageRowsModel" "wrong" "I") : Cond) ∈ wsAll := inA_5 _ (List.mem_of_getElem? (i := 74) rfl)
theorem wd_575 : ((.methodLink R_MD 166 y_MD_isWrong) : Cond) ∈ wsAll := inA_5 _ (List.mem_of_getElem? (i := 75) rfl)
theorem wd_576 : ((.instanceMethod y_MD_isWrong) : Cond) ∈ wsAll := inA_5 _ (List.mem_of_getElem? (i := 76) rfl)
theorem wd_577 : ((.selects R_MD y_MD_isWrong y_MD_isWrong) : Cond) ∈ wsAll := inA_5 _ (List.mem_of_getElem? (i := 77) rfl)
theorem wd_578 : ((.code y_MD_isWrong b_MD_isWrong 1 (some .boolean)) : Cond) ∈ wsAll := inA_5 _ (List.mem_of_getElem? (i := 78) rfl)
theorem wd_579 : ((.methodLink R_MD 173 y_MD_fail) : Cond) ∈ wsAll := inA_5 _ (List.mem_of_getElem? (i := 79) rfl)
theorem wd_580 : ((.instanceMethod y_MD_fail) : Cond) ∈ wsAll := inA_5 _ (List.mem_of_getElem? (i := 80) rfl)
theorem wd_581 : ((.selects R_MD y_MD_fail y_MD_fail) : Cond) ∈ wsAll := inA_5 _ (List.mem_of_getElem? (i := 81) rfl)
theorem wd_582 : ((.code y_MD_fail b_MD_fail 2 none) : Cond) ∈ wsAll := inA_5 _ (List.mem_of_getElem? (i := 82) rfl)
theorem wd_583 : ((.methodLink R_MD 170 y_MD_next) : Cond) ∈ wsAll := inA_5 _ (List.mem_of_getElem? (i := 83) rfl)
theorem wd_584 : ((.instanceMethod y_MD_next) : Cond) ∈ wsAll := inA_5 _ (List.mem_of_getElem? (i := 84) rfl)
theorem wd_585 : ((.selects R_MD y_MD_next y_MD_next) : Cond) ∈ wsAll := inA_5 _ (List.mem_of_getElem? (i := 85) rfl)
theorem wd_586 : ((.code y_MD_next b_MD_next 3 none) : Cond) ∈ wsAll := inA_5 _ (List.mem_of_getElem? (i := 86) rfl)
theorem wd_587 : ((.constantLong R_MD 177 10) : Cond) ∈ wsAll := inA_5 _ (List.mem_of_getElem? (i := 87) rfl)
theorem wd_588 : ((.constantLong R_MD 179 48) : Cond) ∈ wsAll := inA_5 _ (List.mem_of_getElem? (i := 88) rfl)
theorem wd_589 : ((.constantLong R_MD 187 1000000) : Cond) ∈ wsAll := inA_5 _ (List.mem_of_getElem? (i := 89) rfl)
theorem wd_590 : ((.methodLink R_MD 189 y_MD_number) : Cond) ∈ wsAll := inA_5 _ (List.mem_of_getElem? (i := 90) rfl)
theorem wd_591 : ((.instanceMethod y_MD_number) : Cond) ∈ wsAll := inA_5 _ (List.mem_of_getElem? (i := 91) rfl)
theorem wd_592 : ((.selects R_MD y_MD_number y_MD_number) : Cond) ∈ wsAll := inA_5 _ (List.mem_of_getElem? (i := 92) rfl)
theorem wd_593 : ((.code y_MD_number b_MD_number 4 (some .long)) : Cond) ∈ wsAll := inA_5 _ (List.mem_of_getElem? (i := 93) rfl)
theorem wd_594 : ((.methodLink R_MD 181 y_MD_stayClose) : Cond) ∈ wsAll := inA_5 _ (List.mem_of_getElem? (i := 94) rfl)
theorem wd_595 : ((.instanceMethod y_MD_stayClose) : Cond) ∈ wsAll := inA_5 _ (List.mem_of_getElem? (i := 95) rfl)
theorem wd_596 : ((.selects R_MD y_MD_stayClose y_MD_stayClose) : Cond) ∈ wsAll := inA_5 _ (List.mem_of_getElem? (i := 96) rfl)
theorem wd_597 : ((.code y_MD_stayClose b_MD_stayClose 1 none) : Cond) ∈ wsAll := inA_5 _ (List.mem_of_getElem? (i := 97) rfl)
theorem wd_598 : ((.methodLink R_MD 184 y_MD_sign) : Cond) ∈ wsAll := inA_5 _ (List.mem_of_getElem? (i := 98) rfl)
theorem wd_599 : ((.instanceMethod y_MD_sign) : Cond) ∈ wsAll := inA_5 _ (List.mem_of_getElem? (i := 99) rfl)
theorem wd_600 : ((.selects R_MD y_MD_sign y_MD_sign) : Cond) ∈ wsAll := inA_6 _ (List.mem_of_getElem? (i := 0) rfl)
theorem wd_601 : ((.code y_MD_sign b_MD_sign 2 none) : Cond) ∈ wsAll := inA_6 _ (List.mem_of_getElem? (i := 1) rfl)
theorem wd_602 : ((.fieldLink R_MD 200 "PackageRowsModel" "end" "J") : Cond) ∈ wsAll := inA_6 _ (List.mem_of_getElem? (i := 2) rfl)
theorem wd_603 : ((.fieldLink R_MD 196 "PackageRowsModel" "least" "J") : Cond) ∈ wsAll := inA_6 _ (List.mem_of_getElem? (i := 3) rfl)
theorem wd_604 : ((.methodLink R_MD 193 y_MD_readVersion) : Cond) ∈ wsAll := inA_6 _ (List.mem_of_getElem? (i := 4) rfl)
theorem wd_605 : ((.instanceMethod y_MD_readVersion) : Cond) ∈ wsAll := inA_6 _ (List.mem_of_getElem? (i := 5) rfl)
theorem wd_606 : ((.selects R_MD y_MD_readVersion y_MD_readVersion) : Cond) ∈ wsAll := inA_6 _ (List.mem_of_getElem? (i := 6) rfl)
theorem wd_607 : ((.code y_MD_readVersion b_MD_readVersion 4 (some .long)) : Cond) ∈ wsAll := inA_6 _ (List.mem_of_getElem? (i := 7) rfl)
theorem wd_608 : ((.methodLink R_MD 211 y_MD_close) : Cond) ∈ wsAll := inA_6 _ (List.mem_of_getElem? (i := 8) rfl)
theorem wd_609 : ((.instanceMethod y_MD_close) : Cond) ∈ wsAll := inA_6 _ (List.mem_of_getElem? (i := 9) rfl)
theorem wd_610 : ((.selects R_MD y_MD_close y_MD_close) : Cond) ∈ wsAll := inA_6 _ (List.mem_of_getElem? (i := 10) rfl)
theorem wd_611 : ((.code y_MD_close b_MD_close 1 none) : Cond) ∈ wsAll := inA_6 _ (List.mem_of_getElem? (i := 11) rfl)
theorem wd_612 : ((.constantLong R_MD 203 1000000000000000000) : Cond) ∈ wsAll := inA_6 _ (List.mem_of_getElem? (i := 12) rfl)
theorem wd_613 : ((.methodLink R_MD 205 y_MD_isBound) : Cond) ∈ wsAll := inA_6 _ (List.mem_of_getElem? (i := 13) rfl)
theorem wd_614 : ((.instanceMethod y_MD_isBound) : Cond) ∈ wsAll := inA_6 _ (List.mem_of_getElem? (i := 14) rfl)
theorem wd_615 : ((.selects R_MD y_MD_isBound y_MD_isBound) : Cond) ∈ wsAll := inA_6 _ (List.mem_of_getElem? (i := 15) rfl)
theorem wd_616 : ((.code y_MD_isBound b_MD_isBound 1 (some .boolean)) : Cond) ∈ wsAll := inA_6 _ (List.mem_of_getElem? (i := 16) rfl)
theorem wd_617 : ((.methodLink R_MD 208 y_MD_bound) : Cond) ∈ wsAll := inA_6 _ (List.mem_of_getElem? (i := 17) rfl)
theorem wd_618 : ((.instanceMethod y_MD_bound) : Cond) ∈ wsAll := inA_6 _ (List.mem_of_getElem? (i := 18) rfl)
theorem wd_619 : ((.selects R_MD y_MD_bound y_MD_bound) : Cond) ∈ wsAll := inA_6 _ (List.mem_of_getElem? (i := 19) rfl)
theorem wd_620 : ((.code y_MD_bound b_MD_bound 4 none) : Cond) ∈ wsAll := inA_6 _ (List.mem_of_getElem? (i := 20) rfl)
theorem wd_621 : ((.methodLink R_MD 214 y_MD_folded) : Cond) ∈ wsAll := inA_6 _ (List.mem_of_getElem? (i := 21) rfl)
theorem wd_622 : ((.static y_MD_folded) : Cond) ∈ wsAll := inA_6 _ (List.mem_of_getElem? (i := 22) rfl)
theorem wd_623 : ((.code y_MD_folded b_MD_folded 7 (some .int)) : Cond) ∈ wsAll := inA_6 _ (List.mem_of_getElem? (i := 23) rfl)
theorem wd_624 : ((.fieldLink R_MD 218 "PackageRowsModel" "packages" "I") : Cond) ∈ wsAll := inA_6 _ (List.mem_of_getElem? (i := 24) rfl)
theorem wd_625 : ((.methodLink R_MD 237 y_MD_copyName) : Cond) ∈ wsAll := inA_6 _ (List.mem_of_getElem? (i := 25) rfl)
theorem wd_626 : ((.instanceMethod y_MD_copyName) : Cond) ∈ wsAll := inA_6 _ (List.mem_of_getElem? (i := 26) rfl)
theorem wd_627 : ((.selects R_MD y_MD_copyName y_MD_copyName) : Cond) ∈ wsAll := inA_6 _ (List.mem_of_getElem? (i := 27) rfl)
theorem wd_628 : ((.code y_MD_copyName b_MD_copyName 6 none) : Cond) ∈ wsAll := inA_6 _ (List.mem_of_getElem? (i := 28) rfl)
theorem wd_629 : ((.fieldLink R_MD 221 "PackageRowsModel" "written" "I") : Cond) ∈ wsAll := inA_6 _ (List.mem_of_getElem? (i := 29) rfl)
theorem wd_630 : ((.methodLink R_MD 227 y_MD_base) : Cond) ∈ wsAll := inA_6 _ (List.mem_of_getElem? (i := 30) rfl)
theorem wd_631 : ((.instanceMethod y_MD_base) : Cond) ∈ wsAll := inA_6 _ (List.mem_of_getElem? (i := 31) rfl)
theorem wd_632 : ((.selects R_MD y_MD_base y_MD_base) : Cond) ∈ wsAll := inA_6 _ (List.mem_of_getElem? (i := 32) rfl)
theorem wd_633 : ((.code y_MD_base b_MD_base 1 (some .int)) : Cond) ∈ wsAll := inA_6 _ (List.mem_of_getElem? (i := 33) rfl)
theorem wd_634 : ((.fieldLink R_MD 231 "PackageRowsModel" "rowKind" "I") : Cond) ∈ wsAll := inA_6 _ (List.mem_of_getElem? (i := 34) rfl)
theorem wd_635 : ((.fieldLink R_MD 234 "PackageRowsModel" "sets" "I") : Cond) ∈ wsAll := inA_6 _ (List.mem_of_getElem? (i := 35) rfl)
theorem wd_636 : ((.fieldLink R_MD 224 "PackageRowsModel" "rowFrom" "I") : Cond) ∈ wsAll := inA_6 _ (List.mem_of_getElem? (i := 36) rfl)
theorem wd_637 : ((.fieldLink R_MD 241 "PackageRowsModel" "nameLong" "I") : Cond) ∈ wsAll := inA_6 _ (List.mem_of_getElem? (i := 37) rfl)
theorem wd_638 : ((.methodLink R_MD 244 y_MD_isName) : Cond) ∈ wsAll := inA_6 _ (List.mem_of_getElem? (i := 38) rfl)
theorem wd_639 : ((.instanceMethod y_MD_isName) : Cond) ∈ wsAll := inA_6 _ (List.mem_of_getElem? (i := 39) rfl)
theorem wd_640 : ((.selects R_MD y_MD_isName y_MD_isName) : Cond) ∈ wsAll := inA_6 _ (List.mem_of_getElem? (i := 40) rfl)
theorem wd_641 : ((.code y_MD_isName b_MD_isName 1 (some .boolean)) : Cond) ∈ wsAll := inA_6 _ (List.mem_of_getElem? (i := 41) rfl)
theorem wd_642 : ((.methodLink R_MD 253 y_MD_takeName) : Cond) ∈ wsAll := inA_6 _ (List.mem_of_getElem? (i := 42) rfl)
theorem wd_643 : ((.instanceMethod y_MD_takeName) : Cond) ∈ wsAll := inA_6 _ (List.mem_of_getElem? (i := 43) rfl)
theorem wd_644 : ((.selects R_MD y_MD_takeName y_MD_takeName) : Cond) ∈ wsAll := inA_6 _ (List.mem_of_getElem? (i := 44) rfl)
theorem wd_645 : ((.code y_MD_takeName b_MD_takeName 2 (some .int)) : Cond) ∈ wsAll := inA_6 _ (List.mem_of_getElem? (i := 45) rfl)
theorem wd_646 : ((.methodLink R_MD 256 y_MD_readRange) : Cond) ∈ wsAll := inA_6 _ (List.mem_of_getElem? (i := 46) rfl)
theorem wd_647 : ((.instanceMethod y_MD_readRange) : Cond) ∈ wsAll := inA_6 _ (List.mem_of_getElem? (i := 47) rfl)
theorem wd_648 : ((.selects R_MD y_MD_readRange y_MD_readRange) : Cond) ∈ wsAll := inA_6 _ (List.mem_of_getElem? (i := 48) rfl)
theorem wd_649 : ((.code y_MD_readRange b_MD_readRange 1 none) : Cond) ∈ wsAll := inA_6 _ (List.mem_of_getElem? (i := 49) rfl)
theorem wd_650 : ((.methodLink R_MD 259 y_MD_addRow) : Cond) ∈ wsAll := inA_6 _ (List.mem_of_getElem? (i := 50) rfl)
theorem wd_651 : ((.instanceMethod y_MD_addRow) : Cond) ∈ wsAll := inA_6 _ (List.mem_of_getElem? (i := 51) rfl)
theorem wd_652 : ((.selects R_MD y_MD_addRow y_MD_addRow) : Cond) ∈ wsAll := inA_6 _ (List.mem_of_getElem? (i := 52) rfl)
theorem wd_653 : ((.code y_MD_addRow b_MD_addRow 10 (some .boolean)) : Cond) ∈ wsAll := inA_6 _ (List.mem_of_getElem? (i := 53) rfl)
theorem wd_654 : ((.methodLink R_MD 250 y_MD_readRanged) : Cond) ∈ wsAll := inA_6 _ (List.mem_of_getElem? (i := 54) rfl)
theorem wd_655 : ((.instanceMethod y_MD_readRanged) : Cond) ∈ wsAll := inA_6 _ (List.mem_of_getElem? (i := 55) rfl)
theorem wd_656 : ((.selects R_MD y_MD_readRanged y_MD_readRanged) : Cond) ∈ wsAll := inA_6 _ (List.mem_of_getElem? (i := 56) rfl)
theorem wd_657 : ((.code y_MD_readRanged b_MD_readRanged 3 none) : Cond) ∈ wsAll := inA_6 _ (List.mem_of_getElem? (i := 57) rfl)
theorem wd_658 : ((.methodLink R_MD 247 y_MD_key) : Cond) ∈ wsAll := inA_6 _ (List.mem_of_getElem? (i := 58) rfl)
theorem wd_659 : ((.instanceMethod y_MD_key) : Cond) ∈ wsAll := inA_6 _ (List.mem_of_getElem? (i := 59) rfl)
theorem wd_660 : ((.selects R_MD y_MD_key y_MD_key) : Cond) ∈ wsAll := inA_6 _ (List.mem_of_getElem? (i := 60) rfl)
theorem wd_661 : ((.code y_MD_key b_MD_key 4 (some .long)) : Cond) ∈ wsAll := inA_6 _ (List.mem_of_getElem? (i := 61) rfl)
theorem wd_662 : ((.constantLong R_MD 267 (-1)) : Cond) ∈ wsAll := inA_6 _ (List.mem_of_getElem? (i := 62) rfl)
theorem wd_663 : ((.fieldLink R_MD 269 "PackageRowsModel" "defaults" "I") : Cond) ∈ wsAll := inA_6 _ (List.mem_of_getElem? (i := 63) rfl)
theorem wd_664 : ((.methodLink R_MD 263 y_MD_readNames) : Cond) ∈ wsAll := inA_6 _ (List.mem_of_getElem? (i := 64) rfl)
theorem wd_665 : ((.instanceMethod y_MD_readNames) : Cond) ∈ wsAll := inA_6 _ (List.mem_of_getElem? (i := 65) rfl)
theorem wd_666 : ((.selects R_MD y_MD_readNames y_MD_readNames) : Cond) ∈ wsAll := inA_6 _ (List.mem_of_getElem? (i := 66) rfl)
theorem wd_667 : ((.code y_MD_readNames b_MD_readNames 7 none) : Cond) ∈ wsAll := inA_6 _ (List.mem_of_getElem? (i := 67) rfl)
theorem wd_668 : ((.methodLink R_MD 281 y_MD_readPlain) : Cond) ∈ wsAll := inA_6 _ (List.mem_of_getElem? (i := 68) rfl)
theorem wd_669 : ((.instanceMethod y_MD_readPlain) : Cond) ∈ wsAll := inA_6 _ (List.mem_of_getElem? (i := 69) rfl)
theorem wd_670 : ((.selects R_MD y_MD_readPlain y_MD_readPlain) : Cond) ∈ wsAll := inA_6 _ (List.mem_of_getElem? (i := 70) rfl)
theorem wd_671 : ((.code y_MD_readPlain b_MD_readPlain 5 none) : Cond) ∈ wsAll := inA_6 _ (List.mem_of_getElem? (i := 71) rfl)
theorem wd_672 : ((.methodLink R_MD 278 y_MD_readFeature) : Cond) ∈ wsAll := inA_6 _ (List.mem_of_getElem? (i := 72) rfl)
theorem wd_673 : ((.instanceMethod y_MD_readFeature) : Cond) ∈ wsAll := inA_6 _ (List.mem_of_getElem? (i := 73) rfl)
theorem wd_674 : ((.selects R_MD y_MD_readFeature y_MD_readFeature) : Cond) ∈ wsAll := inA_6 _ (List.mem_of_getElem? (i := 74) rfl)
theorem wd_675 : ((.code y_MD_readFeature b_MD_readFeature 4 none) : Cond) ∈ wsAll := inA_6 _ (List.mem_of_getElem? (i := 75) rfl)
theorem wd_676 : ((.methodLink R_MD 275 y_MD_readAny) : Cond) ∈ wsAll := inA_6 _ (List.mem_of_getElem? (i := 76) rfl)
theorem wd_677 : ((.instanceMethod y_MD_readAny) : Cond) ∈ wsAll := inA_6 _ (List.mem_of_getElem? (i := 77) rfl)
theorem wd_678 : ((.selects R_MD y_MD_readAny y_MD_readAny) : Cond) ∈ wsAll := inA_6 _ (List.mem_of_getElem? (i := 78) rfl)
theorem wd_679 : ((.code y_MD_readAny b_MD_readAny 1 none) : Cond) ∈ wsAll := inA_6 _ (List.mem_of_getElem? (i := 79) rfl)
theorem wd_680 : ((.methodLink R_MD 272 y_MD_readNeed) : Cond) ∈ wsAll := inA_6 _ (List.mem_of_getElem? (i := 80) rfl)
theorem wd_681 : ((.instanceMethod y_MD_readNeed) : Cond) ∈ wsAll := inA_6 _ (List.mem_of_getElem? (i := 81) rfl)
theorem wd_682 : ((.selects R_MD y_MD_readNeed y_MD_readNeed) : Cond) ∈ wsAll := inA_6 _ (List.mem_of_getElem? (i := 82) rfl)
theorem wd_683 : ((.code y_MD_readNeed b_MD_readNeed 4 none) : Cond) ∈ wsAll := inA_6 _ (List.mem_of_getElem? (i := 83) rfl)
theorem wd_684 : ((.methodLink R_MD 284 y_MD_compare) : Cond) ∈ wsAll := inA_6 _ (List.mem_of_getElem? (i := 84) rfl)
theorem wd_685 : ((.instanceMethod y_MD_compare) : Cond) ∈ wsAll := inA_6 _ (List.mem_of_getElem? (i := 85) rfl)
theorem wd_686 : ((.selects R_MD y_MD_compare y_MD_compare) : Cond) ∈ wsAll := inA_6 _ (List.mem_of_getElem? (i := 86) rfl)
theorem wd_687 : ((.code y_MD_compare b_MD_compare 10 (some .int)) : Cond) ∈ wsAll := inA_6 _ (List.mem_of_getElem? (i := 87) rfl)
theorem wd_688 : ((.methodLink R_MD 293 y_MD_isFeature) : Cond) ∈ wsAll := inA_6 _ (List.mem_of_getElem? (i := 88) rfl)
theorem wd_689 : ((.instanceMethod y_MD_isFeature) : Cond) ∈ wsAll := inA_6 _ (List.mem_of_getElem? (i := 89) rfl)
theorem wd_690 : ((.selects R_MD y_MD_isFeature y_MD_isFeature) : Cond) ∈ wsAll := inA_6 _ (List.mem_of_getElem? (i := 90) rfl)
theorem wd_691 : ((.code y_MD_isFeature b_MD_isFeature 6 (some .boolean)) : Cond) ∈ wsAll := inA_6 _ (List.mem_of_getElem? (i := 91) rfl)
theorem wd_692 : ((.methodLink R_MD 290 y_MD_readRow) : Cond) ∈ wsAll := inA_6 _ (List.mem_of_getElem? (i := 92) rfl)
theorem wd_693 : ((.instanceMethod y_MD_readRow) : Cond) ∈ wsAll := inA_6 _ (List.mem_of_getElem? (i := 93) rfl)
theorem wd_694 : ((.selects R_MD y_MD_readRow y_MD_readRow) : Cond) ∈ wsAll := inA_6 _ (List.mem_of_getElem? (i := 94) rfl)
theorem wd_695 : ((.code y_MD_readRow b_MD_readRow 4 none) : Cond) ∈ wsAll := inA_6 _ (List.mem_of_getElem? (i := 95) rfl)
theorem wd_696 : ((.constantLong R_MD 288 31632277022795621) : Cond) ∈ wsAll := inA_6 _ (List.mem_of_getElem? (i := 96) rfl)
theorem wd_697 : ((.methodLink R_MD 297 y_MD_order) : Cond) ∈ wsAll := inA_6 _ (List.mem_of_getElem? (i := 97) rfl)
theorem wd_698 : ((.instanceMethod y_MD_order) : Cond) ∈ wsAll := inA_6 _ (List.mem_of_getElem? (i := 98) rfl)
theorem wd_699 : ((.selects R_MD y_MD_order y_MD_order) : Cond) ∈ wsAll := inA_6 _ (List.mem_of_getElem? (i := 99) rfl)
theorem wd_700 : ((.code y_MD_order b_MD_order 4 (some .int)) : Cond) ∈ wsAll := inA_7 _ (List.mem_of_getElem? (i := 0) rfl)
theorem wd_701 : ((.methodLink R_MD 301 y_MD_exchange) : Cond) ∈ wsAll := inA_7 _ (List.mem_of_getElem? (i := 1) rfl)
theorem wd_702 : ((.instanceMethod y_MD_exchange) : Cond) ∈ wsAll := inA_7 _ (List.mem_of_getElem? (i := 2) rfl)
theorem wd_703 : ((.selects R_MD y_MD_exchange y_MD_exchange) : Cond) ∈ wsAll := inA_7 _ (List.mem_of_getElem? (i := 3) rfl)
theorem wd_704 : ((.code y_MD_exchange b_MD_exchange 15 none) : Cond) ∈ wsAll := inA_7 _ (List.mem_of_getElem? (i := 4) rfl)
theorem wd_705 : ((.methodLink R_MD 304 y_MD_joins) : Cond) ∈ wsAll := inA_7 _ (List.mem_of_getElem? (i := 5) rfl)
theorem wd_706 : ((.instanceMethod y_MD_joins) : Cond) ∈ wsAll := inA_7 _ (List.mem_of_getElem? (i := 6) rfl)
theorem wd_707 : ((.selects R_MD y_MD_joins y_MD_joins) : Cond) ∈ wsAll := inA_7 _ (List.mem_of_getElem? (i := 7) rfl)
theorem wd_708 : ((.code y_MD_joins b_MD_joins 4 (some .boolean)) : Cond) ∈ wsAll := inA_7 _ (List.mem_of_getElem? (i := 8) rfl)
theorem wd_709 : ((.methodLink R_MD 308 y_MD_isWritten) : Cond) ∈ wsAll := inA_7 _ (List.mem_of_getElem? (i := 9) rfl)
theorem wd_710 : ((.instanceMethod y_MD_isWritten) : Cond) ∈ wsAll := inA_7 _ (List.mem_of_getElem? (i := 10) rfl)
theorem wd_711 : ((.selects R_MD y_MD_isWritten y_MD_isWritten) : Cond) ∈ wsAll := inA_7 _ (List.mem_of_getElem? (i := 11) rfl)
theorem wd_712 : ((.code y_MD_isWritten b_MD_isWritten 5 (some .boolean)) : Cond) ∈ wsAll := inA_7 _ (List.mem_of_getElem? (i := 12) rfl)
theorem wd_713 : ((.methodLink R_MD 311 y_MD_readAll) : Cond) ∈ wsAll := inA_7 _ (List.mem_of_getElem? (i := 13) rfl)
theorem wd_714 : ((.instanceMethod y_MD_readAll) : Cond) ∈ wsAll := inA_7 _ (List.mem_of_getElem? (i := 14) rfl)
theorem wd_715 : ((.selects R_MD y_MD_readAll y_MD_readAll) : Cond) ∈ wsAll := inA_7 _ (List.mem_of_getElem? (i := 15) rfl)
theorem wd_716 : ((.code y_MD_readAll b_MD_readAll 5 none) : Cond) ∈ wsAll := inA_7 _ (List.mem_of_getElem? (i := 16) rfl)
theorem wd_717 : ((.methodLink R_MD 314 y_MD_settle) : Cond) ∈ wsAll := inA_7 _ (List.mem_of_getElem? (i := 17) rfl)
theorem wd_718 : ((.instanceMethod y_MD_settle) : Cond) ∈ wsAll := inA_7 _ (List.mem_of_getElem? (i := 18) rfl)
theorem wd_719 : ((.selects R_MD y_MD_settle y_MD_settle) : Cond) ∈ wsAll := inA_7 _ (List.mem_of_getElem? (i := 19) rfl)
theorem wd_720 : ((.code y_MD_settle b_MD_settle 6 none) : Cond) ∈ wsAll := inA_7 _ (List.mem_of_getElem? (i := 20) rfl)
theorem wd_721 : ((.methodLink R_MD 317 y_MD_isPackage) : Cond) ∈ wsAll := inA_7 _ (List.mem_of_getElem? (i := 21) rfl)
theorem wd_722 : ((.instanceMethod y_MD_isPackage) : Cond) ∈ wsAll := inA_7 _ (List.mem_of_getElem? (i := 22) rfl)
theorem wd_723 : ((.selects R_MD y_MD_isPackage y_MD_isPackage) : Cond) ∈ wsAll := inA_7 _ (List.mem_of_getElem? (i := 23) rfl)
theorem wd_724 : ((.code y_MD_isPackage b_MD_isPackage 2 (some .boolean)) : Cond) ∈ wsAll := inA_7 _ (List.mem_of_getElem? (i := 24) rfl)
theorem wd_725 : ((.methodLink R_MD 320 y_MD_isOptional) : Cond) ∈ wsAll := inA_7 _ (List.mem_of_getElem? (i := 25) rfl)
theorem wd_726 : ((.instanceMethod y_MD_isOptional) : Cond) ∈ wsAll := inA_7 _ (List.mem_of_getElem? (i := 26) rfl)
theorem wd_727 : ((.selects R_MD y_MD_isOptional y_MD_isOptional) : Cond) ∈ wsAll := inA_7 _ (List.mem_of_getElem? (i := 27) rfl)
theorem wd_728 : ((.code y_MD_isOptional b_MD_isOptional 4 (some .boolean)) : Cond) ∈ wsAll := inA_7 _ (List.mem_of_getElem? (i := 28) rfl)
theorem wd_729 : ((.methodLink R_MD 323 y_MD_isRow) : Cond) ∈ wsAll := inA_7 _ (List.mem_of_getElem? (i := 29) rfl)
theorem wd_730 : ((.instanceMethod y_MD_isRow) : Cond) ∈ wsAll := inA_7 _ (List.mem_of_getElem? (i := 30) rfl)
theorem wd_731 : ((.selects R_MD y_MD_isRow y_MD_isRow) : Cond) ∈ wsAll := inA_7 _ (List.mem_of_getElem? (i := 31) rfl)
theorem wd_732 : ((.code y_MD_isRow b_MD_isRow 3 (some .boolean)) : Cond) ∈ wsAll := inA_7 _ (List.mem_of_getElem? (i := 32) rfl)
theorem wd_733 : ((.methodLink R_MD 326 y_MD_why) : Cond) ∈ wsAll := inA_7 _ (List.mem_of_getElem? (i := 33) rfl)
theorem wd_734 : ((.instanceMethod y_MD_why) : Cond) ∈ wsAll := inA_7 _ (List.mem_of_getElem? (i := 34) rfl)
theorem wd_735 : ((.selects R_MD y_MD_why y_MD_why) : Cond) ∈ wsAll := inA_7 _ (List.mem_of_getElem? (i := 35) rfl)
theorem wd_736 : ((.code y_MD_why b_MD_why 4 (some .int)) : Cond) ∈ wsAll := inA_7 _ (List.mem_of_getElem? (i := 36) rfl)
theorem wd_737 : ((.fieldLink R_MD 329 "PackageRowsModel" "changes" "I") : Cond) ∈ wsAll := inA_7 _ (List.mem_of_getElem? (i := 37) rfl)
theorem wd_738 : ((.methodLink R_MD 335 y_MD_tell) : Cond) ∈ wsAll := inA_7 _ (List.mem_of_getElem? (i := 38) rfl)
theorem wd_739 : ((.instanceMethod y_MD_tell) : Cond) ∈ wsAll := inA_7 _ (List.mem_of_getElem? (i := 39) rfl)
theorem wd_740 : ((.selects R_MD y_MD_tell y_MD_tell) : Cond) ∈ wsAll := inA_7 _ (List.mem_of_getElem? (i := 40) rfl)
theorem wd_741 : ((.code y_MD_tell b_MD_tell 3 none) : Cond) ∈ wsAll := inA_7 _ (List.mem_of_getElem? (i := 41) rfl)
theorem wd_742 : ((.methodLink R_MD 332 y_MD_isLike) : Cond) ∈ wsAll := inA_7 _ (List.mem_of_getElem? (i := 42) rfl)
theorem wd_743 : ((.instanceMethod y_MD_isLike) : Cond) ∈ wsAll := inA_7 _ (List.mem_of_getElem? (i := 43) rfl)
theorem wd_744 : ((.selects R_MD y_MD_isLike y_MD_isLike) : Cond) ∈ wsAll := inA_7 _ (List.mem_of_getElem? (i := 44) rfl)
theorem wd_745 : ((.code y_MD_isLike b_MD_isLike 3 (some .boolean)) : Cond) ∈ wsAll := inA_7 _ (List.mem_of_getElem? (i := 45) rfl)
theorem wd_746 : ((.methodLink R_MD 339 y_MD_hasAll) : Cond) ∈ wsAll := inA_7 _ (List.mem_of_getElem? (i := 46) rfl)
theorem wd_747 : ((.instanceMethod y_MD_hasAll) : Cond) ∈ wsAll := inA_7 _ (List.mem_of_getElem? (i := 47) rfl)
theorem wd_748 : ((.selects R_MD y_MD_hasAll y_MD_hasAll) : Cond) ∈ wsAll := inA_7 _ (List.mem_of_getElem? (i := 48) rfl)
theorem wd_749 : ((.code y_MD_hasAll b_MD_hasAll 5 (some .boolean)) : Cond) ∈ wsAll := inA_7 _ (List.mem_of_getElem? (i := 49) rfl)
theorem wd_750 : ((.methodLink R_MD 342 y_MD_compareRows) : Cond) ∈ wsAll := inA_7 _ (List.mem_of_getElem? (i := 50) rfl)
theorem wd_751 : ((.instanceMethod y_MD_compareRows) : Cond) ∈ wsAll := inA_7 _ (List.mem_of_getElem? (i := 51) rfl)
theorem wd_752 : ((.selects R_MD y_MD_compareRows y_MD_compareRows) : Cond) ∈ wsAll := inA_7 _ (List.mem_of_getElem? (i := 52) rfl)
theorem wd_753 : ((.code y_MD_compareRows b_MD_compareRows 7 (some .int)) : Cond) ∈ wsAll := inA_7 _ (List.mem_of_getElem? (i := 53) rfl)
theorem wd_754 : ((.fieldLink R_MD 346 "PackageRowsModel" "printed" "I") : Cond) ∈ wsAll := inA_7 _ (List.mem_of_getElem? (i := 54) rfl)
theorem wd_755 : ((.methodLink R_MD 349 y_MD_put) : Cond) ∈ wsAll := inA_7 _ (List.mem_of_getElem? (i := 55) rfl)
theorem wd_756 : ((.instanceMethod y_MD_put) : Cond) ∈ wsAll := inA_7 _ (List.mem_of_getElem? (i := 56) rfl)
theorem wd_757 : ((.selects R_MD y_MD_put y_MD_put) : Cond) ∈ wsAll := inA_7 _ (List.mem_of_getElem? (i := 57) rfl)
theorem wd_758 : ((.code y_MD_put b_MD_put 2 none) : Cond) ∈ wsAll := inA_7 _ (List.mem_of_getElem? (i := 58) rfl)
theorem wd_759 : ((.constantLong R_MD 352 255) : Cond) ∈ wsAll := inA_7 _ (List.mem_of_getElem? (i := 59) rfl)
theorem wd_760 : ((.constantLong R_MD 354 1000000000000) : Cond) ∈ wsAll := inA_7 _ (List.mem_of_getElem? (i := 60) rfl)
theorem wd_761 : ((.methodLink R_MD 356 y_MD_putNumber) : Cond) ∈ wsAll := inA_7 _ (List.mem_of_getElem? (i := 61) rfl)
theorem wd_762 : ((.instanceMethod y_MD_putNumber) : Cond) ∈ wsAll := inA_7 _ (List.mem_of_getElem? (i := 62) rfl)
theorem wd_763 : ((.selects R_MD y_MD_putNumber y_MD_putNumber) : Cond) ∈ wsAll := inA_7 _ (List.mem_of_getElem? (i := 63) rfl)
theorem wd_764 : ((.code y_MD_putNumber b_MD_putNumber 5 none) : Cond) ∈ wsAll := inA_7 _ (List.mem_of_getElem? (i := 64) rfl)
theorem wd_765 : ((.methodLink R_MD 360 y_MD_putVersion) : Cond) ∈ wsAll := inA_7 _ (List.mem_of_getElem? (i := 65) rfl)
theorem wd_766 : ((.instanceMethod y_MD_putVersion) : Cond) ∈ wsAll := inA_7 _ (List.mem_of_getElem? (i := 66) rfl)
theorem wd_767 : ((.selects R_MD y_MD_putVersion y_MD_putVersion) : Cond) ∈ wsAll := inA_7 _ (List.mem_of_getElem? (i := 67) rfl)
theorem wd_768 : ((.code y_MD_putVersion b_MD_putVersion 3 none) : Cond) ∈ wsAll := inA_7 _ (List.mem_of_getElem? (i := 68) rfl)
theorem wd_769 : ((.methodLink R_MD 363 y_MD_putBound) : Cond) ∈ wsAll := inA_7 _ (List.mem_of_getElem? (i := 69) rfl)
theorem wd_770 : ((.instanceMethod y_MD_putBound) : Cond) ∈ wsAll := inA_7 _ (List.mem_of_getElem? (i := 70) rfl)
theorem wd_771 : ((.selects R_MD y_MD_putBound y_MD_putBound) : Cond) ∈ wsAll := inA_7 _ (List.mem_of_getElem? (i := 71) rfl)
theorem wd_772 : ((.code y_MD_putBound b_MD_putBound 5 none) : Cond) ∈ wsAll := inA_7 _ (List.mem_of_getElem? (i := 72) rfl)
theorem wd_773 : ((.methodLink R_MD 374 y_MD_putName) : Cond) ∈ wsAll := inA_7 _ (List.mem_of_getElem? (i := 73) rfl)
theorem wd_774 : ((.instanceMethod y_MD_putName) : Cond) ∈ wsAll := inA_7 _ (List.mem_of_getElem? (i := 74) rfl)
theorem wd_775 : ((.selects R_MD y_MD_putName y_MD_putName) : Cond) ∈ wsAll := inA_7 _ (List.mem_of_getElem? (i := 75) rfl)
theorem wd_776 : ((.code y_MD_putName b_MD_putName 5 none) : Cond) ∈ wsAll := inA_7 _ (List.mem_of_getElem? (i := 76) rfl)
theorem wd_777 : ((.methodLink R_MD 367 y_MD_keyOf) : Cond) ∈ wsAll := inA_7 _ (List.mem_of_getElem? (i := 77) rfl)
theorem wd_778 : ((.instanceMethod y_MD_keyOf) : Cond) ∈ wsAll := inA_7 _ (List.mem_of_getElem? (i := 78) rfl)
theorem wd_779 : ((.selects R_MD y_MD_keyOf y_MD_keyOf) : Cond) ∈ wsAll := inA_7 _ (List.mem_of_getElem? (i := 79) rfl)
theorem wd_780 : ((.code y_MD_keyOf b_MD_keyOf 3 (some .long)) : Cond) ∈ wsAll := inA_7 _ (List.mem_of_getElem? (i := 80) rfl)
theorem wd_781 : ((.methodLink R_MD 371 y_MD_putKey) : Cond) ∈ wsAll := inA_7 _ (List.mem_of_getElem? (i := 81) rfl)
theorem wd_782 : ((.instanceMethod y_MD_putKey) : Cond) ∈ wsAll := inA_7 _ (List.mem_of_getElem? (i := 82) rfl)
theorem wd_783 : ((.selects R_MD y_MD_putKey y_MD_putKey) : Cond) ∈ wsAll := inA_7 _ (List.mem_of_getElem? (i := 83) rfl)
theorem wd_784 : ((.code y_MD_putKey b_MD_putKey 5 none) : Cond) ∈ wsAll := inA_7 _ (List.mem_of_getElem? (i := 84) rfl)
theorem wd_785 : ((.methodLink R_MD 384 y_MD_putRange) : Cond) ∈ wsAll := inA_7 _ (List.mem_of_getElem? (i := 85) rfl)
theorem wd_786 : ((.instanceMethod y_MD_putRange) : Cond) ∈ wsAll := inA_7 _ (List.mem_of_getElem? (i := 86) rfl)
theorem wd_787 : ((.selects R_MD y_MD_putRange y_MD_putRange) : Cond) ∈ wsAll := inA_7 _ (List.mem_of_getElem? (i := 87) rfl)
theorem wd_788 : ((.code y_MD_putRange b_MD_putRange 2 none) : Cond) ∈ wsAll := inA_7 _ (List.mem_of_getElem? (i := 88) rfl)
theorem wd_789 : ((.methodLink R_MD 381 y_MD_putBegin) : Cond) ∈ wsAll := inA_7 _ (List.mem_of_getElem? (i := 89) rfl)
theorem wd_790 : ((.instanceMethod y_MD_putBegin) : Cond) ∈ wsAll := inA_7 _ (List.mem_of_getElem? (i := 90) rfl)
theorem wd_791 : ((.selects R_MD y_MD_putBegin y_MD_putBegin) : Cond) ∈ wsAll := inA_7 _ (List.mem_of_getElem? (i := 91) rfl)
theorem wd_792 : ((.code y_MD_putBegin b_MD_putBegin 3 none) : Cond) ∈ wsAll := inA_7 _ (List.mem_of_getElem? (i := 92) rfl)
theorem wd_793 : ((.methodLink R_MD 378 y_MD_goesOn) : Cond) ∈ wsAll := inA_7 _ (List.mem_of_getElem? (i := 93) rfl)
theorem wd_794 : ((.instanceMethod y_MD_goesOn) : Cond) ∈ wsAll := inA_7 _ (List.mem_of_getElem? (i := 94) rfl)
theorem wd_795 : ((.selects R_MD y_MD_goesOn y_MD_goesOn) : Cond) ∈ wsAll := inA_7 _ (List.mem_of_getElem? (i := 95) rfl)
theorem wd_796 : ((.code y_MD_goesOn b_MD_goesOn 4 (some .boolean)) : Cond) ∈ wsAll := inA_7 _ (List.mem_of_getElem? (i := 96) rfl)
theorem wd_797 : ((.methodLink R_MD 390 y_MD_isPrinted) : Cond) ∈ wsAll := inA_7 _ (List.mem_of_getElem? (i := 97) rfl)
theorem wd_798 : ((.instanceMethod y_MD_isPrinted) : Cond) ∈ wsAll := inA_7 _ (List.mem_of_getElem? (i := 98) rfl)
theorem wd_799 : ((.selects R_MD y_MD_isPrinted y_MD_isPrinted) : Cond) ∈ wsAll := inA_7 _ (List.mem_of_getElem? (i := 99) rfl)
theorem wd_800 : ((.code y_MD_isPrinted b_MD_isPrinted 4 (some .boolean)) : Cond) ∈ wsAll := inA_8 _ (List.mem_of_getElem? (i := 0) rfl)
theorem wd_801 : ((.methodLink R_MD 387 y_MD_putRow) : Cond) ∈ wsAll := inA_8 _ (List.mem_of_getElem? (i := 1) rfl)
theorem wd_802 : ((.instanceMethod y_MD_putRow) : Cond) ∈ wsAll := inA_8 _ (List.mem_of_getElem? (i := 2) rfl)
theorem wd_803 : ((.selects R_MD y_MD_putRow y_MD_putRow) : Cond) ∈ wsAll := inA_8 _ (List.mem_of_getElem? (i := 3) rfl)
theorem wd_804 : ((.code y_MD_putRow b_MD_putRow 4 none) : Cond) ∈ wsAll := inA_8 _ (List.mem_of_getElem? (i := 4) rfl)
theorem wd_805 : ((.constantLong R_LW 13 4294967295) : Cond) ∈ wsAll := inA_8 _ (List.mem_of_getElem? (i := 5) rfl)
theorem wd_806 : ((.methodLink R_LW 15 y_PR_type) : Cond) ∈ wsAll := inA_8 _ (List.mem_of_getElem? (i := 6) rfl)
theorem wd_807 : ((.instanceMethod y_PR_type) : Cond) ∈ wsAll := inA_8 _ (List.mem_of_getElem? (i := 7) rfl)
theorem wd_808 : ((.selects R_PR y_PR_type y_PR_type) : Cond) ∈ wsAll := inA_8 _ (List.mem_of_getElem? (i := 8) rfl)
theorem wd_809 : ((.code y_PR_type b_PR_type 4 none) : Cond) ∈ wsAll := inA_8 _ (List.mem_of_getElem? (i := 9) rfl)
theorem wd_810 : ((.methodLink R_LW 19 y_MD_type) : Cond) ∈ wsAll := inA_8 _ (List.mem_of_getElem? (i := 10) rfl)
theorem wd_811 : ((.instanceMethod y_MD_type) : Cond) ∈ wsAll := inA_8 _ (List.mem_of_getElem? (i := 11) rfl)
theorem wd_812 : ((.selects R_MD y_MD_type y_MD_type) : Cond) ∈ wsAll := inA_8 _ (List.mem_of_getElem? (i := 12) rfl)
theorem wd_813 : ((.code y_MD_type b_MD_type 5 none) : Cond) ∈ wsAll := inA_8 _ (List.mem_of_getElem? (i := 13) rfl)
theorem wd_814 : ((.methodLink R_LW 20 y_PR_read) : Cond) ∈ wsAll := inA_8 _ (List.mem_of_getElem? (i := 14) rfl)
theorem wd_815 : ((.instanceMethod y_PR_read) : Cond) ∈ wsAll := inA_8 _ (List.mem_of_getElem? (i := 15) rfl)
theorem wd_816 : ((.selects R_PR y_PR_read y_PR_read) : Cond) ∈ wsAll := inA_8 _ (List.mem_of_getElem? (i := 16) rfl)
theorem wd_817 : ((.code y_PR_read b_PR_read 2 (some .int)) : Cond) ∈ wsAll := inA_8 _ (List.mem_of_getElem? (i := 17) rfl)
theorem wd_818 : ((.methodLink R_LW 24 y_MD_read) : Cond) ∈ wsAll := inA_8 _ (List.mem_of_getElem? (i := 18) rfl)
theorem wd_819 : ((.instanceMethod y_MD_read) : Cond) ∈ wsAll := inA_8 _ (List.mem_of_getElem? (i := 19) rfl)
theorem wd_820 : ((.selects R_MD y_MD_read y_MD_read) : Cond) ∈ wsAll := inA_8 _ (List.mem_of_getElem? (i := 20) rfl)
theorem wd_821 : ((.code y_MD_read b_MD_read 1 (some .int)) : Cond) ∈ wsAll := inA_8 _ (List.mem_of_getElem? (i := 21) rfl)
theorem wd_822 : ((.methodLink R_LW 25 y_PR_rows) : Cond) ∈ wsAll := inA_8 _ (List.mem_of_getElem? (i := 22) rfl)
theorem wd_823 : ((.instanceMethod y_PR_rows) : Cond) ∈ wsAll := inA_8 _ (List.mem_of_getElem? (i := 23) rfl)
theorem wd_824 : ((.selects R_PR y_PR_rows y_PR_rows) : Cond) ∈ wsAll := inA_8 _ (List.mem_of_getElem? (i := 24) rfl)
theorem wd_825 : ((.code y_PR_rows b_PR_rows 3 (some .int)) : Cond) ∈ wsAll := inA_8 _ (List.mem_of_getElem? (i := 25) rfl)
theorem wd_826 : ((.methodLink R_LW 29 y_MD_rows) : Cond) ∈ wsAll := inA_8 _ (List.mem_of_getElem? (i := 26) rfl)
theorem wd_827 : ((.instanceMethod y_MD_rows) : Cond) ∈ wsAll := inA_8 _ (List.mem_of_getElem? (i := 27) rfl)
theorem wd_828 : ((.selects R_MD y_MD_rows y_MD_rows) : Cond) ∈ wsAll := inA_8 _ (List.mem_of_getElem? (i := 28) rfl)
theorem wd_829 : ((.code y_MD_rows b_MD_rows 2 (some .int)) : Cond) ∈ wsAll := inA_8 _ (List.mem_of_getElem? (i := 29) rfl)
theorem wd_830 : ((.methodLink R_LW 30 y_PR_row) : Cond) ∈ wsAll := inA_8 _ (List.mem_of_getElem? (i := 30) rfl)
theorem wd_831 : ((.instanceMethod y_PR_row) : Cond) ∈ wsAll := inA_8 _ (List.mem_of_getElem? (i := 31) rfl)
theorem wd_832 : ((.selects R_PR y_PR_row y_PR_row) : Cond) ∈ wsAll := inA_8 _ (List.mem_of_getElem? (i := 32) rfl)
theorem wd_833 : ((.code y_PR_row b_PR_row 5 (some .int)) : Cond) ∈ wsAll := inA_8 _ (List.mem_of_getElem? (i := 33) rfl)
theorem wd_834 : ((.methodLink R_LW 34 y_MD_row) : Cond) ∈ wsAll := inA_8 _ (List.mem_of_getElem? (i := 34) rfl)
theorem wd_835 : ((.instanceMethod y_MD_row) : Cond) ∈ wsAll := inA_8 _ (List.mem_of_getElem? (i := 35) rfl)
theorem wd_836 : ((.selects R_MD y_MD_row y_MD_row) : Cond) ∈ wsAll := inA_8 _ (List.mem_of_getElem? (i := 36) rfl)
theorem wd_837 : ((.code y_MD_row b_MD_row 5 (some .int)) : Cond) ∈ wsAll := inA_8 _ (List.mem_of_getElem? (i := 37) rfl)
theorem wd_838 : ((.methodLink R_LW 35 y_PR_letter) : Cond) ∈ wsAll := inA_8 _ (List.mem_of_getElem? (i := 38) rfl)
theorem wd_839 : ((.instanceMethod y_PR_letter) : Cond) ∈ wsAll := inA_8 _ (List.mem_of_getElem? (i := 39) rfl)
theorem wd_840 : ((.selects R_PR y_PR_letter y_PR_letter) : Cond) ∈ wsAll := inA_8 _ (List.mem_of_getElem? (i := 40) rfl)
theorem wd_841 : ((.code y_PR_letter b_PR_letter 6 (some .int)) : Cond) ∈ wsAll := inA_8 _ (List.mem_of_getElem? (i := 41) rfl)
theorem wd_842 : ((.methodLink R_LW 39 y_MD_letter) : Cond) ∈ wsAll := inA_8 _ (List.mem_of_getElem? (i := 42) rfl)
theorem wd_843 : ((.instanceMethod y_MD_letter) : Cond) ∈ wsAll := inA_8 _ (List.mem_of_getElem? (i := 43) rfl)
theorem wd_844 : ((.selects R_MD y_MD_letter y_MD_letter) : Cond) ∈ wsAll := inA_8 _ (List.mem_of_getElem? (i := 44) rfl)
theorem wd_845 : ((.code y_MD_letter b_MD_letter 6 (some .int)) : Cond) ∈ wsAll := inA_8 _ (List.mem_of_getElem? (i := 45) rfl)
theorem wd_846 : ((.methodLink R_LW 40 y_PR_low) : Cond) ∈ wsAll := inA_8 _ (List.mem_of_getElem? (i := 46) rfl)
theorem wd_847 : ((.instanceMethod y_PR_low) : Cond) ∈ wsAll := inA_8 _ (List.mem_of_getElem? (i := 47) rfl)
theorem wd_848 : ((.selects R_PR y_PR_low y_PR_low) : Cond) ∈ wsAll := inA_8 _ (List.mem_of_getElem? (i := 48) rfl)
theorem wd_849 : ((.code y_PR_low b_PR_low 4 (some .long)) : Cond) ∈ wsAll := inA_8 _ (List.mem_of_getElem? (i := 49) rfl)
theorem wd_850 : ((.methodLink R_LW 44 y_MD_low) : Cond) ∈ wsAll := inA_8 _ (List.mem_of_getElem? (i := 50) rfl)
theorem wd_851 : ((.instanceMethod y_MD_low) : Cond) ∈ wsAll := inA_8 _ (List.mem_of_getElem? (i := 51) rfl)
theorem wd_852 : ((.selects R_MD y_MD_low y_MD_low) : Cond) ∈ wsAll := inA_8 _ (List.mem_of_getElem? (i := 52) rfl)
theorem wd_853 : ((.code y_MD_low b_MD_low 3 (some .long)) : Cond) ∈ wsAll := inA_8 _ (List.mem_of_getElem? (i := 53) rfl)
theorem wd_854 : ((.methodLink R_LW 45 y_PR_high) : Cond) ∈ wsAll := inA_8 _ (List.mem_of_getElem? (i := 54) rfl)
theorem wd_855 : ((.instanceMethod y_PR_high) : Cond) ∈ wsAll := inA_8 _ (List.mem_of_getElem? (i := 55) rfl)
theorem wd_856 : ((.selects R_PR y_PR_high y_PR_high) : Cond) ∈ wsAll := inA_8 _ (List.mem_of_getElem? (i := 56) rfl)
theorem wd_857 : ((.code y_PR_high b_PR_high 4 (some .long)) : Cond) ∈ wsAll := inA_8 _ (List.mem_of_getElem? (i := 57) rfl)
theorem wd_858 : ((.methodLink R_LW 48 y_MD_high) : Cond) ∈ wsAll := inA_8 _ (List.mem_of_getElem? (i := 58) rfl)
theorem wd_859 : ((.instanceMethod y_MD_high) : Cond) ∈ wsAll := inA_8 _ (List.mem_of_getElem? (i := 59) rfl)
theorem wd_860 : ((.selects R_MD y_MD_high y_MD_high) : Cond) ∈ wsAll := inA_8 _ (List.mem_of_getElem? (i := 60) rfl)
theorem wd_861 : ((.code y_MD_high b_MD_high 3 (some .long)) : Cond) ∈ wsAll := inA_8 _ (List.mem_of_getElem? (i := 61) rfl)
theorem wd_862 : ((.methodLink R_LW 49 y_PR_check) : Cond) ∈ wsAll := inA_8 _ (List.mem_of_getElem? (i := 62) rfl)
theorem wd_863 : ((.instanceMethod y_PR_check) : Cond) ∈ wsAll := inA_8 _ (List.mem_of_getElem? (i := 63) rfl)
theorem wd_864 : ((.selects R_PR y_PR_check y_PR_check) : Cond) ∈ wsAll := inA_8 _ (List.mem_of_getElem? (i := 64) rfl)
theorem wd_865 : ((.code y_PR_check b_PR_check 4 (some .int)) : Cond) ∈ wsAll := inA_8 _ (List.mem_of_getElem? (i := 65) rfl)
theorem wd_866 : ((.methodLink R_LW 52 y_MD_check) : Cond) ∈ wsAll := inA_8 _ (List.mem_of_getElem? (i := 66) rfl)
theorem wd_867 : ((.instanceMethod y_MD_check) : Cond) ∈ wsAll := inA_8 _ (List.mem_of_getElem? (i := 67) rfl)
theorem wd_868 : ((.selects R_MD y_MD_check y_MD_check) : Cond) ∈ wsAll := inA_8 _ (List.mem_of_getElem? (i := 68) rfl)
theorem wd_869 : ((.code y_MD_check b_MD_check 3 (some .int)) : Cond) ∈ wsAll := inA_8 _ (List.mem_of_getElem? (i := 69) rfl)
theorem wd_870 : ((.methodLink R_LW 53 y_PR_same) : Cond) ∈ wsAll := inA_8 _ (List.mem_of_getElem? (i := 70) rfl)
theorem wd_871 : ((.instanceMethod y_PR_same) : Cond) ∈ wsAll := inA_8 _ (List.mem_of_getElem? (i := 71) rfl)
theorem wd_872 : ((.selects R_PR y_PR_same y_PR_same) : Cond) ∈ wsAll := inA_8 _ (List.mem_of_getElem? (i := 72) rfl)
theorem wd_873 : ((.code y_PR_same b_PR_same 5 (some .boolean)) : Cond) ∈ wsAll := inA_8 _ (List.mem_of_getElem? (i := 73) rfl)
theorem wd_874 : ((.methodLink R_LW 57 y_MD_same) : Cond) ∈ wsAll := inA_8 _ (List.mem_of_getElem? (i := 74) rfl)
theorem wd_875 : ((.instanceMethod y_MD_same) : Cond) ∈ wsAll := inA_8 _ (List.mem_of_getElem? (i := 75) rfl)
theorem wd_876 : ((.selects R_MD y_MD_same y_MD_same) : Cond) ∈ wsAll := inA_8 _ (List.mem_of_getElem? (i := 76) rfl)
theorem wd_877 : ((.code y_MD_same b_MD_same 3 (some .boolean)) : Cond) ∈ wsAll := inA_8 _ (List.mem_of_getElem? (i := 77) rfl)
theorem wd_878 : ((.methodLink R_LW 58 y_PR_differ) : Cond) ∈ wsAll := inA_8 _ (List.mem_of_getElem? (i := 78) rfl)
theorem wd_879 : ((.instanceMethod y_PR_differ) : Cond) ∈ wsAll := inA_8 _ (List.mem_of_getElem? (i := 79) rfl)
theorem wd_880 : ((.selects R_PR y_PR_differ y_PR_differ) : Cond) ∈ wsAll := inA_8 _ (List.mem_of_getElem? (i := 80) rfl)
theorem wd_881 : ((.code y_PR_differ b_PR_differ 5 (some .int)) : Cond) ∈ wsAll := inA_8 _ (List.mem_of_getElem? (i := 81) rfl)
theorem wd_882 : ((.methodLink R_LW 62 y_MD_differ) : Cond) ∈ wsAll := inA_8 _ (List.mem_of_getElem? (i := 82) rfl)
theorem wd_883 : ((.instanceMethod y_MD_differ) : Cond) ∈ wsAll := inA_8 _ (List.mem_of_getElem? (i := 83) rfl)
theorem wd_884 : ((.selects R_MD y_MD_differ y_MD_differ) : Cond) ∈ wsAll := inA_8 _ (List.mem_of_getElem? (i := 84) rfl)
theorem wd_885 : ((.code y_MD_differ b_MD_differ 3 (some .int)) : Cond) ∈ wsAll := inA_8 _ (List.mem_of_getElem? (i := 85) rfl)
theorem wd_886 : ((.methodLink R_LW 63 y_PR_change) : Cond) ∈ wsAll := inA_8 _ (List.mem_of_getElem? (i := 86) rfl)
theorem wd_887 : ((.instanceMethod y_PR_change) : Cond) ∈ wsAll := inA_8 _ (List.mem_of_getElem? (i := 87) rfl)
theorem wd_888 : ((.selects R_PR y_PR_change y_PR_change) : Cond) ∈ wsAll := inA_8 _ (List.mem_of_getElem? (i := 88) rfl)
theorem wd_889 : ((.code y_PR_change b_PR_change 3 (some .int)) : Cond) ∈ wsAll := inA_8 _ (List.mem_of_getElem? (i := 89) rfl)
theorem wd_890 : ((.methodLink R_LW 66 y_MD_change) : Cond) ∈ wsAll := inA_8 _ (List.mem_of_getElem? (i := 90) rfl)
theorem wd_891 : ((.instanceMethod y_MD_change) : Cond) ∈ wsAll := inA_8 _ (List.mem_of_getElem? (i := 91) rfl)
theorem wd_892 : ((.selects R_MD y_MD_change y_MD_change) : Cond) ∈ wsAll := inA_8 _ (List.mem_of_getElem? (i := 92) rfl)
theorem wd_893 : ((.code y_MD_change b_MD_change 3 (some .int)) : Cond) ∈ wsAll := inA_8 _ (List.mem_of_getElem? (i := 93) rfl)
theorem wd_894 : ((.methodLink R_LW 67 y_PR_print) : Cond) ∈ wsAll := inA_8 _ (List.mem_of_getElem? (i := 94) rfl)
theorem wd_895 : ((.instanceMethod y_PR_print) : Cond) ∈ wsAll := inA_8 _ (List.mem_of_getElem? (i := 95) rfl)
theorem wd_896 : ((.selects R_PR y_PR_print y_PR_print) : Cond) ∈ wsAll := inA_8 _ (List.mem_of_getElem? (i := 96) rfl)
theorem wd_897 : ((.code y_PR_print b_PR_print 3 (some .int)) : Cond) ∈ wsAll := inA_8 _ (List.mem_of_getElem? (i := 97) rfl)
theorem wd_898 : ((.methodLink R_LW 70 y_MD_print) : Cond) ∈ wsAll := inA_8 _ (List.mem_of_getElem? (i := 98) rfl)
theorem wd_899 : ((.instanceMethod y_MD_print) : Cond) ∈ wsAll := inA_8 _ (List.mem_of_getElem? (i := 99) rfl)
theorem wd_900 : ((.selects R_MD y_MD_print y_MD_print) : Cond) ∈ wsAll := inA_9 _ (List.mem_of_getElem? (i := 0) rfl)
theorem wd_901 : ((.code y_MD_print b_MD_print 3 (some .int)) : Cond) ∈ wsAll := inA_9 _ (List.mem_of_getElem? (i := 1) rfl)
theorem wd_902 : ((.methodLink R_LW 71 y_PR_fold) : Cond) ∈ wsAll := inA_9 _ (List.mem_of_getElem? (i := 2) rfl)
theorem wd_903 : ((.instanceMethod y_PR_fold) : Cond) ∈ wsAll := inA_9 _ (List.mem_of_getElem? (i := 3) rfl)
theorem wd_904 : ((.selects R_PR y_PR_fold y_PR_fold) : Cond) ∈ wsAll := inA_9 _ (List.mem_of_getElem? (i := 4) rfl)
theorem wd_905 : ((.code y_PR_fold b_PR_fold 2 (some .int)) : Cond) ∈ wsAll := inA_9 _ (List.mem_of_getElem? (i := 5) rfl)
theorem wd_906 : ((.methodLink R_LW 74 y_MD_fold) : Cond) ∈ wsAll := inA_9 _ (List.mem_of_getElem? (i := 6) rfl)
theorem wd_907 : ((.instanceMethod y_MD_fold) : Cond) ∈ wsAll := inA_9 _ (List.mem_of_getElem? (i := 7) rfl)
theorem wd_908 : ((.selects R_MD y_MD_fold y_MD_fold) : Cond) ∈ wsAll := inA_9 _ (List.mem_of_getElem? (i := 8) rfl)
theorem wd_909 : ((.code y_MD_fold b_MD_fold 4 (some .int)) : Cond) ∈ wsAll := inA_9 _ (List.mem_of_getElem? (i := 9) rfl)
theorem wd_910 : ((.methodLink R_LW 75 y_PR_at) : Cond) ∈ wsAll := inA_9 _ (List.mem_of_getElem? (i := 10) rfl)
theorem wd_911 : ((.instanceMethod y_PR_at) : Cond) ∈ wsAll := inA_9 _ (List.mem_of_getElem? (i := 11) rfl)
theorem wd_912 : ((.selects R_PR y_PR_at y_PR_at) : Cond) ∈ wsAll := inA_9 _ (List.mem_of_getElem? (i := 12) rfl)
theorem wd_913 : ((.code y_PR_at b_PR_at 2 (some .int)) : Cond) ∈ wsAll := inA_9 _ (List.mem_of_getElem? (i := 13) rfl)
theorem wd_914 : ((.methodLink R_LW 78 y_MD_at) : Cond) ∈ wsAll := inA_9 _ (List.mem_of_getElem? (i := 14) rfl)
theorem wd_915 : ((.instanceMethod y_MD_at) : Cond) ∈ wsAll := inA_9 _ (List.mem_of_getElem? (i := 15) rfl)
theorem wd_916 : ((.selects R_MD y_MD_at y_MD_at) : Cond) ∈ wsAll := inA_9 _ (List.mem_of_getElem? (i := 16) rfl)
theorem wd_917 : ((.code y_MD_at b_MD_at 2 (some .int)) : Cond) ∈ wsAll := inA_9 _ (List.mem_of_getElem? (i := 17) rfl)
theorem wd_918 : ((.classLink R_LW 7 R_PR) : Cond) ∈ wsAll := inA_9 _ (List.mem_of_getElem? (i := 18) rfl)
theorem wd_919 : ((.instantiable R_PR 9) : Cond) ∈ wsAll := inA_9 _ (List.mem_of_getElem? (i := 19) rfl)
theorem wd_920 : ((.code y_PR_init b_PR_init 1 none) : Cond) ∈ wsAll := inA_9 _ (List.mem_of_getElem? (i := 20) rfl)
theorem wd_921 : ((.methodLink R_LW 9 y_PR_init) : Cond) ∈ wsAll := inA_9 _ (List.mem_of_getElem? (i := 21) rfl)
theorem wd_922 : ((.instanceMethod y_PR_init) : Cond) ∈ wsAll := inA_9 _ (List.mem_of_getElem? (i := 22) rfl)
theorem wd_923 : ((.classLink R_LW 10 R_MD) : Cond) ∈ wsAll := inA_9 _ (List.mem_of_getElem? (i := 23) rfl)
theorem wd_924 : ((.instantiable R_MD 46) : Cond) ∈ wsAll := inA_9 _ (List.mem_of_getElem? (i := 24) rfl)
theorem wd_925 : ((.code y_MD_init b_MD_init 1 none) : Cond) ∈ wsAll := inA_9 _ (List.mem_of_getElem? (i := 25) rfl)
theorem wd_926 : ((.methodLink R_LW 12 y_MD_init) : Cond) ∈ wsAll := inA_9 _ (List.mem_of_getElem? (i := 26) rfl)
theorem wd_927 : ((.instanceMethod y_MD_init) : Cond) ∈ wsAll := inA_9 _ (List.mem_of_getElem? (i := 27) rfl)
theorem wd_928 : ((.laysFinal R_PR "PackageRows" "reader" "LPackageRows$Reader;") : Cond) ∈ wsAll := inA_9 _ (List.mem_of_getElem? (i := 28) rfl)
theorem wd_929 : ((.laysFinal R_PR "PackageRows" "scan" "LPackageRows$Scan;") : Cond) ∈ wsAll := inA_9 _ (List.mem_of_getElem? (i := 29) rfl)
theorem wd_930 : ((.laysFinal R_PR "PackageRows" "packs" "[LPackageRows$Pack;") : Cond) ∈ wsAll := inA_9 _ (List.mem_of_getElem? (i := 30) rfl)
theorem wd_931 : ((.lays R_PR "PackageRows" "packCount" "I") : Cond) ∈ wsAll := inA_9 _ (List.mem_of_getElem? (i := 31) rfl)
theorem wd_932 : ((.laysFinal R_PR "PackageRows" "printer" "LPackageRows$Printer;") : Cond) ∈ wsAll := inA_9 _ (List.mem_of_getElem? (i := 32) rfl)
theorem wd_933 : ((.laysFinal R_PR "PackageRows" "pairing" "LPackageRows$Pairing;") : Cond) ∈ wsAll := inA_9 _ (List.mem_of_getElem? (i := 33) rfl)
theorem wd_934 : ((.laysFinal R_PR "PackageRows" "told" "[I") : Cond) ∈ wsAll := inA_9 _ (List.mem_of_getElem? (i := 34) rfl)
theorem wd_935 : ((.lays R_PR "PackageRows" "toldOfFirst" "I") : Cond) ∈ wsAll := inA_9 _ (List.mem_of_getElem? (i := 35) rfl)
theorem wd_936 : ((.lays R_PR "PackageRows" "toldCount" "I") : Cond) ∈ wsAll := inA_9 _ (List.mem_of_getElem? (i := 36) rfl)
theorem wd_937 : ((.lays R_MD "PackageRowsModel" "thrown" "I") : Cond) ∈ wsAll := inA_9 _ (List.mem_of_getElem? (i := 37) rfl)
theorem wd_938 : ((.laysFinal R_MD "PackageRowsModel" "text" "[B") : Cond) ∈ wsAll := inA_9 _ (List.mem_of_getElem? (i := 38) rfl)
theorem wd_939 : ((.lays R_MD "PackageRowsModel" "size" "I") : Cond) ∈ wsAll := inA_9 _ (List.mem_of_getElem? (i := 39) rfl)
theorem wd_940 : ((.lays R_MD "PackageRowsModel" "from" "I") : Cond) ∈ wsAll := inA_9 _ (List.mem_of_getElem? (i := 40) rfl)
theorem wd_941 : ((.lays R_MD "PackageRowsModel" "to" "I") : Cond) ∈ wsAll := inA_9 _ (List.mem_of_getElem? (i := 41) rfl)
theorem wd_942 : ((.lays R_MD "PackageRowsModel" "word" "I") : Cond) ∈ wsAll := inA_9 _ (List.mem_of_getElem? (i := 42) rfl)
theorem wd_943 : ((.lays R_MD "PackageRowsModel" "behind" "I") : Cond) ∈ wsAll := inA_9 _ (List.mem_of_getElem? (i := 43) rfl)
theorem wd_944 : ((.lays R_MD "PackageRowsModel" "wrong" "I") : Cond) ∈ wsAll := inA_9 _ (List.mem_of_getElem? (i := 44) rfl)
theorem wd_945 : ((.laysFinal R_MD "PackageRowsModel" "needs" "[J") : Cond) ∈ wsAll := inA_9 _ (List.mem_of_getElem? (i := 45) rfl)
theorem wd_946 : ((.laysFinal R_MD "PackageRowsModel" "kinds" "[J") : Cond) ∈ wsAll := inA_9 _ (List.mem_of_getElem? (i := 46) rfl)
theorem wd_947 : ((.laysFinal R_MD "PackageRowsModel" "kindOf" "[I") : Cond) ∈ wsAll := inA_9 _ (List.mem_of_getElem? (i := 47) rfl)
theorem wd_948 : ((.lays R_MD "PackageRowsModel" "packages" "I") : Cond) ∈ wsAll := inA_9 _ (List.mem_of_getElem? (i := 48) rfl)
theorem wd_949 : ((.laysFinal R_MD "PackageRowsModel" "packageSize" "[I") : Cond) ∈ wsAll := inA_9 _ (List.mem_of_getElem? (i := 49) rfl)
theorem wd_950 : ((.laysFinal R_MD "PackageRowsModel" "rowMany" "[I") : Cond) ∈ wsAll := inA_9 _ (List.mem_of_getElem? (i := 50) rfl)
theorem wd_951 : ((.laysFinal R_MD "PackageRowsModel" "featureMany" "[I") : Cond) ∈ wsAll := inA_9 _ (List.mem_of_getElem? (i := 51) rfl)
theorem wd_952 : ((.laysFinal R_MD "PackageRowsModel" "packageName" "[B") : Cond) ∈ wsAll := inA_9 _ (List.mem_of_getElem? (i := 52) rfl)
theorem wd_953 : ((.laysFinal R_MD "PackageRowsModel" "version" "[J") : Cond) ∈ wsAll := inA_9 _ (List.mem_of_getElem? (i := 53) rfl)
theorem wd_954 : ((.laysFinal R_MD "PackageRowsModel" "feature" "[B") : Cond) ∈ wsAll := inA_9 _ (List.mem_of_getElem? (i := 54) rfl)
theorem wd_955 : ((.laysFinal R_MD "PackageRowsModel" "featureSize" "[I") : Cond) ∈ wsAll := inA_9 _ (List.mem_of_getElem? (i := 55) rfl)
theorem wd_956 : ((.laysFinal R_MD "PackageRowsModel" "kind" "[B") : Cond) ∈ wsAll := inA_9 _ (List.mem_of_getElem? (i := 56) rfl)
theorem wd_957 : ((.laysFinal R_MD "PackageRowsModel" "set" "[I") : Cond) ∈ wsAll := inA_9 _ (List.mem_of_getElem? (i := 57) rfl)
theorem wd_958 : ((.laysFinal R_MD "PackageRowsModel" "nameSize" "[I") : Cond) ∈ wsAll := inA_9 _ (List.mem_of_getElem? (i := 58) rfl)
theorem wd_959 : ((.laysFinal R_MD "PackageRowsModel" "otherSize" "[I") : Cond) ∈ wsAll := inA_9 _ (List.mem_of_getElem? (i := 59) rfl)
theorem wd_960 : ((.laysFinal R_MD "PackageRowsModel" "name" "[B") : Cond) ∈ wsAll := inA_9 _ (List.mem_of_getElem? (i := 60) rfl)
theorem wd_961 : ((.laysFinal R_MD "PackageRowsModel" "other" "[B") : Cond) ∈ wsAll := inA_9 _ (List.mem_of_getElem? (i := 61) rfl)
theorem wd_962 : ((.laysFinal R_MD "PackageRowsModel" "low" "[J") : Cond) ∈ wsAll := inA_9 _ (List.mem_of_getElem? (i := 62) rfl)
theorem wd_963 : ((.laysFinal R_MD "PackageRowsModel" "high" "[J") : Cond) ∈ wsAll := inA_9 _ (List.mem_of_getElem? (i := 63) rfl)
theorem wd_964 : ((.laysFinal R_MD "PackageRowsModel" "mixed" "[Z") : Cond) ∈ wsAll := inA_9 _ (List.mem_of_getElem? (i := 64) rfl)
theorem wd_965 : ((.lays R_MD "PackageRowsModel" "written" "I") : Cond) ∈ wsAll := inA_9 _ (List.mem_of_getElem? (i := 65) rfl)
theorem wd_966 : ((.lays R_MD "PackageRowsModel" "sets" "I") : Cond) ∈ wsAll := inA_9 _ (List.mem_of_getElem? (i := 66) rfl)
theorem wd_967 : ((.lays R_MD "PackageRowsModel" "rowFrom" "I") : Cond) ∈ wsAll := inA_9 _ (List.mem_of_getElem? (i := 67) rfl)
theorem wd_968 : ((.lays R_MD "PackageRowsModel" "rowKind" "I") : Cond) ∈ wsAll := inA_9 _ (List.mem_of_getElem? (i := 68) rfl)
theorem wd_969 : ((.lays R_MD "PackageRowsModel" "least" "J") : Cond) ∈ wsAll := inA_9 _ (List.mem_of_getElem? (i := 69) rfl)
theorem wd_970 : ((.lays R_MD "PackageRowsModel" "end" "J") : Cond) ∈ wsAll := inA_9 _ (List.mem_of_getElem? (i := 70) rfl)
theorem wd_971 : ((.lays R_MD "PackageRowsModel" "defaults" "I") : Cond) ∈ wsAll := inA_9 _ (List.mem_of_getElem? (i := 71) rfl)
theorem wd_972 : ((.laysFinal R_MD "PackageRowsModel" "defaultAt" "[I") : Cond) ∈ wsAll := inA_9 _ (List.mem_of_getElem? (i := 72) rfl)
theorem wd_973 : ((.laysFinal R_MD "PackageRowsModel" "defaultSize" "[I") : Cond) ∈ wsAll := inA_9 _ (List.mem_of_getElem? (i := 73) rfl)
theorem wd_974 : ((.laysFinal R_MD "PackageRowsModel" "one" "[B") : Cond) ∈ wsAll := inA_9 _ (List.mem_of_getElem? (i := 74) rfl)
theorem wd_975 : ((.laysFinal R_MD "PackageRowsModel" "two" "[B") : Cond) ∈ wsAll := inA_9 _ (List.mem_of_getElem? (i := 75) rfl)
theorem wd_976 : ((.lays R_MD "PackageRowsModel" "changes" "I") : Cond) ∈ wsAll := inA_9 _ (List.mem_of_getElem? (i := 76) rfl)
theorem wd_977 : ((.laysFinal R_MD "PackageRowsModel" "changeWhose" "[I") : Cond) ∈ wsAll := inA_9 _ (List.mem_of_getElem? (i := 77) rfl)
theorem wd_978 : ((.laysFinal R_MD "PackageRowsModel" "changeRow" "[I") : Cond) ∈ wsAll := inA_9 _ (List.mem_of_getElem? (i := 78) rfl)
theorem wd_979 : ((.laysFinal R_MD "PackageRowsModel" "taken" "[Z") : Cond) ∈ wsAll := inA_9 _ (List.mem_of_getElem? (i := 79) rfl)
theorem wd_980 : ((.lays R_MD "PackageRowsModel" "printed" "I") : Cond) ∈ wsAll := inA_9 _ (List.mem_of_getElem? (i := 80) rfl)
theorem wd_981 : ((.laysFinal R_MD "PackageRowsModel" "print" "[B") : Cond) ∈ wsAll := inA_9 _ (List.mem_of_getElem? (i := 81) rfl)
theorem wd_982 : ((.lays R_MD "PackageRowsModel" "nameLong" "I") : Cond) ∈ wsAll := inA_9 _ (List.mem_of_getElem? (i := 82) rfl)
theorem wd_983 : ((.laysFinal R_Name "PackageRows$Name" "written" "[C") : Cond) ∈ wsAll := inA_9 _ (List.mem_of_getElem? (i := 83) rfl)
theorem wd_984 : ((.laysFinal R_Name "PackageRows$Name" "folded" "[C") : Cond) ∈ wsAll := inA_9 _ (List.mem_of_getElem? (i := 84) rfl)
theorem wd_985 : ((.laysFinal R_Name "PackageRows$Name" "foldedLength" "I") : Cond) ∈ wsAll := inA_9 _ (List.mem_of_getElem? (i := 85) rfl)
theorem wd_986 : ((.laysFinal R_Pack "PackageRows$Pack" "name" "LPackageRows$Name;") : Cond) ∈ wsAll := inA_9 _ (List.mem_of_getElem? (i := 86) rfl)
theorem wd_987 : ((.laysFinal R_Pack "PackageRows$Pack" "version" "J") : Cond) ∈ wsAll := inA_9 _ (List.mem_of_getElem? (i := 87) rfl)
theorem wd_988 : ((.laysFinal R_Pack "PackageRows$Pack" "features" "[LPackageRows$Name;") : Cond) ∈ wsAll := inA_9 _ (List.mem_of_getElem? (i := 88) rfl)
theorem wd_989 : ((.laysFinal R_Pack "PackageRows$Pack" "rows" "[LPackageRows$Row;") : Cond) ∈ wsAll := inA_9 _ (List.mem_of_getElem? (i := 89) rfl)
theorem wd_990 : ((.laysFinal R_Pairing "PackageRows$Pairing" "firstPaired" "[Z") : Cond) ∈ wsAll := inA_9 _ (List.mem_of_getElem? (i := 90) rfl)
theorem wd_991 : ((.laysFinal R_Pairing "PackageRows$Pairing" "secondPaired" "[Z") : Cond) ∈ wsAll := inA_9 _ (List.mem_of_getElem? (i := 91) rfl)
theorem wd_992 : ((.laysFinal R_Printer "PackageRows$Printer" "signs" "[C") : Cond) ∈ wsAll := inA_9 _ (List.mem_of_getElem? (i := 92) rfl)
theorem wd_993 : ((.lays R_Printer "PackageRows$Printer" "count" "I") : Cond) ∈ wsAll := inA_9 _ (List.mem_of_getElem? (i := 93) rfl)
theorem wd_994 : ((.laysFinal R_Reader "PackageRows$Reader" "scan" "LPackageRows$Scan;") : Cond) ∈ wsAll := inA_9 _ (List.mem_of_getElem? (i := 94) rfl)
theorem wd_995 : ((.laysFinal R_Reader "PackageRows$Reader" "rows" "[LPackageRows$Row;") : Cond) ∈ wsAll := inA_9 _ (List.mem_of_getElem? (i := 95) rfl)
theorem wd_996 : ((.laysFinal R_Reader "PackageRows$Reader" "namePlaces" "[I") : Cond) ∈ wsAll := inA_9 _ (List.mem_of_getElem? (i := 96) rfl)
theorem wd_997 : ((.lays R_Reader "PackageRows$Reader" "rowCount" "I") : Cond) ∈ wsAll := inA_9 _ (List.mem_of_getElem? (i := 97) rfl)
theorem wd_998 : ((.laysFinal R_Reader "PackageRows$Reader" "features" "[LPackageRows$Name;") : Cond) ∈ wsAll := inA_9 _ (List.mem_of_getElem? (i := 98) rfl)
theorem wd_999 : ((.lays R_Reader "PackageRows$Reader" "featureCount" "I") : Cond) ∈ wsAll := inA_9 _ (List.mem_of_getElem? (i := 99) rfl)
theorem wd_1000 : ((.lays R_Reader "PackageRows$Reader" "name" "LPackageRows$Name;") : Cond) ∈ wsAll := inA_10 _ (List.mem_of_getElem? (i := 0) rfl)
theorem wd_1001 : ((.lays R_Reader "PackageRows$Reader" "version" "J") : Cond) ∈ wsAll := inA_10 _ (List.mem_of_getElem? (i := 1) rfl)
theorem wd_1002 : ((.lays R_Reader "PackageRows$Reader" "textRowPlace" "I") : Cond) ∈ wsAll := inA_10 _ (List.mem_of_getElem? (i := 2) rfl)
theorem wd_1003 : ((.lays R_Reader "PackageRows$Reader" "set" "I") : Cond) ∈ wsAll := inA_10 _ (List.mem_of_getElem? (i := 3) rfl)
theorem wd_1004 : ((.laysFinal R_Row "PackageRows$Row" "kind" "I") : Cond) ∈ wsAll := inA_10 _ (List.mem_of_getElem? (i := 4) rfl)
theorem wd_1005 : ((.laysFinal R_Row "PackageRows$Row" "set" "I") : Cond) ∈ wsAll := inA_10 _ (List.mem_of_getElem? (i := 5) rfl)
theorem wd_1006 : ((.laysFinal R_Row "PackageRows$Row" "name" "LPackageRows$Name;") : Cond) ∈ wsAll := inA_10 _ (List.mem_of_getElem? (i := 6) rfl)
theorem wd_1007 : ((.laysFinal R_Row "PackageRows$Row" "other" "LPackageRows$Name;") : Cond) ∈ wsAll := inA_10 _ (List.mem_of_getElem? (i := 7) rfl)
theorem wd_1008 : ((.lays R_Row "PackageRows$Row" "least" "J") : Cond) ∈ wsAll := inA_10 _ (List.mem_of_getElem? (i := 8) rfl)
theorem wd_1009 : ((.lays R_Row "PackageRows$Row" "end" "J") : Cond) ∈ wsAll := inA_10 _ (List.mem_of_getElem? (i := 9) rfl)
theorem wd_1010 : ((.lays R_Row "PackageRows$Row" "writtenDifferently" "Z") : Cond) ∈ wsAll := inA_10 _ (List.mem_of_getElem? (i := 10) rfl)
theorem wd_1011 : ((.lays R_Row "PackageRows$Row" "why" "I") : Cond) ∈ wsAll := inA_10 _ (List.mem_of_getElem? (i := 11) rfl)
theorem wd_1012 : ((.laysFinal R_Scan "PackageRows$Scan" "signs" "[C") : Cond) ∈ wsAll := inA_10 _ (List.mem_of_getElem? (i := 12) rfl)
theorem wd_1013 : ((.lays R_Scan "PackageRows$Scan" "count" "I") : Cond) ∈ wsAll := inA_10 _ (List.mem_of_getElem? (i := 13) rfl)
theorem wd_1014 : ((.lays R_Scan "PackageRows$Scan" "place" "I") : Cond) ∈ wsAll := inA_10 _ (List.mem_of_getElem? (i := 14) rfl)
theorem wd_1015 : ((.lays R_Scan "PackageRows$Scan" "refused" "I") : Cond) ∈ wsAll := inA_10 _ (List.mem_of_getElem? (i := 15) rfl)
theorem wd_1016 : ((.lays R_Scan "PackageRows$Scan" "wordFrom" "I") : Cond) ∈ wsAll := inA_10 _ (List.mem_of_getElem? (i := 16) rfl)
theorem wd_1017 : ((.lays R_Scan "PackageRows$Scan" "wordTo" "I") : Cond) ∈ wsAll := inA_10 _ (List.mem_of_getElem? (i := 17) rfl)
theorem wd_1018 : ((.lays R_Scan "PackageRows$Scan" "value" "J") : Cond) ∈ wsAll := inA_10 _ (List.mem_of_getElem? (i := 18) rfl)
theorem wd_1019 : ((.lays R_Scan "PackageRows$Scan" "least" "J") : Cond) ∈ wsAll := inA_10 _ (List.mem_of_getElem? (i := 19) rfl)
theorem wd_1020 : ((.lays R_Scan "PackageRows$Scan" "end" "J") : Cond) ∈ wsAll := inA_10 _ (List.mem_of_getElem? (i := 20) rfl)
theorem wd_1021 : ((.instanceMethod y_String_coder) : Cond) ∈ wsAll := inA_10 _ (List.mem_of_getElem? (i := 21) rfl)
theorem wd_1022 : ((.selects "java/lang/String" y_String_coder y_String_coder) : Cond) ∈ wsAll := inA_10 _ (List.mem_of_getElem? (i := 22) rfl)
theorem wd_1023 : ((.instanceMethod y_String_isLatin1) : Cond) ∈ wsAll := inA_10 _ (List.mem_of_getElem? (i := 23) rfl)
theorem wd_1024 : ((.selects "java/lang/String" y_String_isLatin1 y_String_isLatin1) : Cond) ∈ wsAll := inA_10 _ (List.mem_of_getElem? (i := 24) rfl)
theorem wd_1025 : ((.instanceMethod y_String_length) : Cond) ∈ wsAll := inA_10 _ (List.mem_of_getElem? (i := 25) rfl)
theorem wd_1026 : ((.selects "java/lang/String" y_String_length y_String_length) : Cond) ∈ wsAll := inA_10 _ (List.mem_of_getElem? (i := 26) rfl)
theorem wd_1027 : ((.instanceMethod y_String_charAt) : Cond) ∈ wsAll := inA_10 _ (List.mem_of_getElem? (i := 27) rfl)
theorem wd_1028 : ((.selects "java/lang/String" y_String_charAt y_String_charAt) : Cond) ∈ wsAll := inA_10 _ (List.mem_of_getElem? (i := 28) rfl)
theorem wd_1029 : ((.methodLink "java/lang/String" 335 y_String_coder) : Cond) ∈ wsAll := inA_10 _ (List.mem_of_getElem? (i := 29) rfl)
theorem wd_1030 : ((.methodLink "java/lang/String" 492 y_String_isLatin1) : Cond) ∈ wsAll := inA_10 _ (List.mem_of_getElem? (i := 30) rfl)
theorem wd_1031 : ((.methodLink "java/lang/String" 495 y_Latin1_charAt) : Cond) ∈ wsAll := inA_10 _ (List.mem_of_getElem? (i := 31) rfl)
theorem wd_1032 : ((.methodLink "java/lang/StringLatin1" 9 y_String_checkIndex) : Cond) ∈ wsAll := inA_10 _ (List.mem_of_getElem? (i := 32) rfl)
theorem wd_1033 : ((.methodLink "java/lang/String" 1059 y_Pre_checkIndex) : Cond) ∈ wsAll := inA_10 _ (List.mem_of_getElem? (i := 33) rfl)
theorem wd_1034 : ((.static y_Latin1_charAt) : Cond) ∈ wsAll := inA_10 _ (List.mem_of_getElem? (i := 34) rfl)
theorem wd_1035 : ((.static y_String_checkIndex) : Cond) ∈ wsAll := inA_10 _ (List.mem_of_getElem? (i := 35) rfl)
theorem wd_1036 : ((.static y_Pre_checkIndex) : Cond) ∈ wsAll := inA_10 _ (List.mem_of_getElem? (i := 36) rfl)
theorem wd_1037 : ((.code y_String_coder b_String_coder 1 (some .byte)) : Cond) ∈ wsAll := inA_10 _ (List.mem_of_getElem? (i := 37) rfl)
theorem wd_1038 : ((.code y_String_isLatin1 b_String_isLatin1 1 (some .boolean)) : Cond) ∈ wsAll := inA_10 _ (List.mem_of_getElem? (i := 38) rfl)
theorem wd_1039 : ((.code y_String_length b_String_length 1 (some .int)) : Cond) ∈ wsAll := inA_10 _ (List.mem_of_getElem? (i := 39) rfl)
theorem wd_1040 : ((.code y_String_charAt b_String_charAt 2 (some .char)) : Cond) ∈ wsAll := inA_10 _ (List.mem_of_getElem? (i := 40) rfl)
theorem wd_1041 : ((.code y_Latin1_charAt b_Latin1_charAt 2 (some .char)) : Cond) ∈ wsAll := inA_10 _ (List.mem_of_getElem? (i := 41) rfl)
theorem wd_1042 : ((.code y_String_checkIndex b_String_checkIndex 2 none) : Cond) ∈ wsAll := inA_10 _ (List.mem_of_getElem? (i := 42) rfl)
theorem wd_1043 : ((.code y_Pre_checkIndex b_Pre_checkIndex 3 (some .int)) : Cond) ∈ wsAll := inA_10 _ (List.mem_of_getElem? (i := 43) rfl)
theorem wd_1044 : ((.initialized "java/lang/String") : Cond) ∈ wsAll := inA_10 _ (List.mem_of_getElem? (i := 44) rfl)
theorem wd_1045 : ((.initialized "java/lang/StringLatin1") : Cond) ∈ wsAll := inA_10 _ (List.mem_of_getElem? (i := 45) rfl)
theorem wd_1046 : ((.initialized "jdk/internal/util/Preconditions") : Cond) ∈ wsAll := inA_10 _ (List.mem_of_getElem? (i := 46) rfl)
theorem wd_1047 : ((.fieldLink "java/lang/String" 38 "java/lang/String" "COMPACT_STRINGS" "Z") : Cond) ∈ wsAll := inA_10 _ (List.mem_of_getElem? (i := 47) rfl)
theorem wd_1048 : ((.fieldLink "java/lang/String" 1053 "jdk/internal/util/Preconditions" "SIOOBE_FORMATTER" "Ljava/util/function/BiFunction;") : Cond) ∈ wsAll := inA_10 _ (List.mem_of_getElem? (i := 48) rfl)
theorem wd_1049 : ((.fieldLink "java/lang/String" 9 "java/lang/String" "value" "[B") : Cond) ∈ wsAll := inA_10 _ (List.mem_of_getElem? (i := 49) rfl)
theorem wd_1050 : ((.fieldLink "java/lang/String" 15 "java/lang/String" "coder" "B") : Cond) ∈ wsAll := inA_10 _ (List.mem_of_getElem? (i := 50) rfl)
theorem wsAll_good : wsAll.all goodWord = true := by decide +kernel
theorem wsAll_ok {w : Cond} (h : w ∈ wsAll) : (w.onTables && w.keeps) = true ∨ ∃ ty, w = .arrayClass ty := good_of_word (List.all_eq_true.mp wsAll_good w h)
theorem gi_I {cd k : Cond} (h : k ∈ wsAll) : GoodIn (cd :: wsAll) (k :: wsAll) := by
  intro w hw
  have hm : w ∈ wsAll := by
    rcases List.mem_cons.mp hw with e | e
    · rw [e]; exact h
    · exact e
  exact ⟨List.mem_cons_of_mem _ hm, wsAll_ok hm⟩
theorem gi_V {cd k : Cond} {own C : String} {idx : Nat} {y : MethodName} (h1 : Cond.methodLink own idx y ∈ wsAll) (h2 : Cond.instanceMethod y ∈ wsAll) (h3 : Cond.selects C y y ∈ wsAll) (h4 : Cond.initialized C ∈ wsAll) (h5 : k ∈ wsAll) : GoodIn (cd :: wsAll) (wsV own idx C y (k :: wsAll)) := by
  intro w hw
  unfold wsV at hw
  rcases List.mem_append.mp hw with e | e
  · have hm : w ∈ wsAll := by
      simp only [List.mem_cons, List.not_mem_nil, or_false] at e
      rcases e with e | e | e | e <;> rw [e] <;> assumption
    exact ⟨List.mem_cons_of_mem _ hm, wsAll_ok hm⟩
  · exact gi_I h5 w e
theorem gi_S {cd k : Cond} {own : String} {idx : Nat} {y : MethodName} (h1 : Cond.methodLink own idx y ∈ wsAll) (h2 : Cond.static y ∈ wsAll) (h4 : Cond.initialized y.cls ∈ wsAll) (h5 : k ∈ wsAll) : GoodIn (cd :: wsAll) (va_wsS own idx y (k :: wsAll)) := by
  intro w hw
  unfold va_wsS at hw
  rcases List.mem_append.mp hw with e | e
  · have hm : w ∈ wsAll := by
      simp only [List.mem_cons, List.not_mem_nil, or_false] at e
      rcases e with e | e | e <;> rw [e] <;> assumption
    exact ⟨List.mem_cons_of_mem _ hm, wsAll_ok hm⟩
  · exact gi_I h5 w e
theorem i_PR : ∀ w ∈ u_ws R_PR F_PR 9, w ∈ wsAll := by decide +kernel
theorem i_MD : ∀ w ∈ u_ws R_MD F_MD 46, w ∈ wsAll := by decide +kernel
theorem i_Name : ∀ w ∈ u_ws R_Name F_Name 3, w ∈ wsAll := by decide +kernel
theorem i_Pack : ∀ w ∈ u_ws R_Pack F_Pack 4, w ∈ wsAll := by decide +kernel
theorem i_Pairing : ∀ w ∈ u_ws R_Pairing F_Pairing 2, w ∈ wsAll := by decide +kernel
theorem i_Printer : ∀ w ∈ u_ws R_Printer F_Printer 2, w ∈ wsAll := by decide +kernel
theorem i_Reader : ∀ w ∈ u_ws R_Reader F_Reader 10, w ∈ wsAll := by decide +kernel
theorem i_Row : ∀ w ∈ u_ws R_Row F_Row 8, w ∈ wsAll := by decide +kernel
theorem i_Scan : ∀ w ∈ u_ws R_Scan F_Scan 9, w ∈ wsAll := by decide +kernel
def w_Scan_init : List Cond := .code y_Scan_init b_Scan_init 1 none :: wsAll
def w_Reader_init : List Cond := .code y_Reader_init b_Reader_init 1 none :: wsAll
def w_Printer_init : List Cond := .code y_Printer_init b_Printer_init 1 none :: wsAll
def w_Pairing_init : List Cond := .code y_Pairing_init b_Pairing_init 1 none :: wsAll
def w_PR_init : List Cond := .code y_PR_init b_PR_init 1 none :: wsAll
def w_Scan_collect : List Cond := .code y_Scan_collect b_Scan_collect 2 none :: wsAll
def w_PR_type : List Cond := .code y_PR_type b_PR_type 4 none :: wsAll
def w_Scan_begin : List Cond := .code y_Scan_begin b_Scan_begin 1 none :: wsAll
def w_Name_order : List Cond := .code y_Name_order b_Name_order 4 (some .int) :: wsAll
def w_Name_foldsLikeOneOf : List Cond := .code y_Name_foldsLikeOneOf b_Name_foldsLikeOneOf 4 (some .boolean) :: wsAll
def w_Scan_refuse : List Cond := .code y_Scan_refuse b_Scan_refuse 2 (some .boolean) :: wsAll
def w_Reader_defaultsStand : List Cond := .code y_Reader_defaultsStand b_Reader_defaultsStand 2 (some .boolean) :: wsAll
def w_Scan_skipBlanks : List Cond := .code y_Scan_skipBlanks b_Scan_skipBlanks 1 none :: wsAll
def w_Scan_atEnd : List Cond := .code y_Scan_atEnd b_Scan_atEnd 1 (some .boolean) :: wsAll
def w_Scan_isLetter : List Cond := .code y_Scan_isLetter b_Scan_isLetter 1 (some .boolean) :: wsAll
def w_Scan_isDigit : List Cond := .code y_Scan_isDigit b_Scan_isDigit 1 (some .boolean) :: wsAll
def w_Name_isBar : List Cond := .code y_Name_isBar b_Name_isBar 1 (some .boolean) :: wsAll
def w_Scan_signHere : List Cond := .code y_Scan_signHere b_Scan_signHere 1 (some .char) :: wsAll
def w_Scan_takeWord : List Cond := .code y_Scan_takeWord b_Scan_takeWord 1 (some .boolean) :: wsAll
def w_Scan_takeName : List Cond := .code y_Scan_takeName b_Scan_takeName 1 (some .boolean) :: wsAll
def w_Name_smallLetter : List Cond := .code y_Name_smallLetter b_Name_smallLetter 1 (some .char) :: wsAll
def w_Name_init : List Cond := .code y_Name_init b_Name_init 9 none :: wsAll
def w_Scan_takenName : List Cond := .code y_Scan_takenName b_Scan_takenName 1 (some (.object "PackageRows$Name")) :: wsAll
def w_Scan_takeNumber : List Cond := .code y_Scan_takeNumber b_Scan_takeNumber 4 (some .boolean) :: wsAll
def w_Scan_takeVersion : List Cond := .code y_Scan_takeVersion b_Scan_takeVersion 5 (some .boolean) :: wsAll
def w_Row_init : List Cond := .code y_Row_init b_Row_init 9 none :: wsAll
def w_Reader_addRow : List Cond := .code y_Reader_addRow b_Reader_addRow 8 (some .boolean) :: wsAll
def w_Reader_takeProvided : List Cond := .code y_Reader_takeProvided b_Reader_takeProvided 2 (some .boolean) :: wsAll
def w_Scan_takeIfNext : List Cond := .code y_Scan_takeIfNext b_Scan_takeIfNext 2 (some .boolean) :: wsAll
def w_Scan_takeSign : List Cond := .code y_Scan_takeSign b_Scan_takeSign 2 (some .boolean) :: wsAll
def w_Scan_isNext : List Cond := .code y_Scan_isNext b_Scan_isNext 2 (some .boolean) :: wsAll
def w_Reader_takeNames : List Cond := .code y_Reader_takeNames b_Reader_takeNames 4 (some .boolean) :: wsAll
def w_Reader_takeFeature : List Cond := .code y_Reader_takeFeature b_Reader_takeFeature 2 (some .boolean) :: wsAll
def w_Reader_takeScript : List Cond := .code y_Reader_takeScript b_Reader_takeScript 2 (some .boolean) :: wsAll
def w_Reader_takeFile : List Cond := .code y_Reader_takeFile b_Reader_takeFile 2 (some .boolean) :: wsAll
def w_Kind_isList : List Cond := .code y_Kind_isList b_Kind_isList 1 (some .boolean) :: wsAll
def w_Scan_narrow : List Cond := .code y_Scan_narrow b_Scan_narrow 5 none :: wsAll
def w_Scan_takeRange : List Cond := .code y_Scan_takeRange b_Scan_takeRange 4 (some .boolean) :: wsAll
def w_Reader_takeRanged : List Cond := .code y_Reader_takeRanged b_Reader_takeRanged 5 (some .boolean) :: wsAll
def w_Kind_firstWord : List Cond := .code y_Kind_firstWord b_Kind_firstWord 1 (some (.object "java/lang/String")) :: wsAll
def w_Scan_isWord : List Cond := .code y_Scan_isWord b_Scan_isWord 3 (some .boolean) :: wsAll
def w_Reader_kindOfFirstWord : List Cond := .code y_Reader_kindOfFirstWord b_Reader_kindOfFirstWord 2 (some .int) :: wsAll
def w_Kind_needWord : List Cond := .code y_Kind_needWord b_Kind_needWord 1 (some (.object "java/lang/String")) :: wsAll
def w_Reader_kindOfNeedWord : List Cond := .code y_Reader_kindOfNeedWord b_Reader_kindOfNeedWord 2 (some .int) :: wsAll
def w_Reader_takeTextRow : List Cond := .code y_Reader_takeTextRow b_Reader_takeTextRow 2 (some .boolean) :: wsAll
def w_Reader_takeHead : List Cond := .code y_Reader_takeHead b_Reader_takeHead 1 (some .boolean) :: wsAll
def w_Reader_takeText : List Cond := .code y_Reader_takeText b_Reader_takeText 2 (some .boolean) :: wsAll
def w_Scan_useUp : List Cond := .code y_Scan_useUp b_Scan_useUp 1 none :: wsAll
def w_Pack_init : List Cond := .code y_Pack_init b_Pack_init 6 none :: wsAll
def w_Kind_hasRange : List Cond := .code y_Kind_hasRange b_Kind_hasRange 1 (some .boolean) :: wsAll
def w_Row_hasEmptyRange : List Cond := .code y_Row_hasEmptyRange b_Row_hasEmptyRange 1 (some .boolean) :: wsAll
def w_Pack_hasFeature : List Cond := .code y_Pack_hasFeature b_Pack_hasFeature 2 (some .boolean) :: wsAll
def w_Name_foldsLike : List Cond := .code y_Name_foldsLike b_Name_foldsLike 2 (some .boolean) :: wsAll
def w_Pack_hasOptionalNeed : List Cond := .code y_Pack_hasOptionalNeed b_Pack_hasOptionalNeed 3 (some .boolean) :: wsAll
def w_Kind_isNeed : List Cond := .code y_Kind_isNeed b_Kind_isNeed 1 (some .boolean) :: wsAll
def w_Pack_whyBroken : List Cond := .code y_Pack_whyBroken b_Pack_whyBroken 3 (some .int) :: wsAll
def w_Pack_markBroken : List Cond := .code y_Pack_markBroken b_Pack_markBroken 2 none :: wsAll
def w_Row_order : List Cond := .code y_Row_order b_Row_order 3 (some .int) :: wsAll
def w_Reader_sortRows : List Cond := .code y_Reader_sortRows b_Reader_sortRows 4 none :: wsAll
def w_Kind_joins : List Cond := .code y_Kind_joins b_Kind_joins 1 (some .boolean) :: wsAll
def w_Row_joins : List Cond := .code y_Row_joins b_Row_joins 2 (some .boolean) :: wsAll
def w_Name_isWrittenLike : List Cond := .code y_Name_isWrittenLike b_Name_isWrittenLike 3 (some .boolean) :: wsAll
def w_Row_join : List Cond := .code y_Row_join b_Row_join 2 none :: wsAll
def w_Reader_joinRows : List Cond := .code y_Reader_joinRows b_Reader_joinRows 3 none :: wsAll
def w_Reader_makePack : List Cond := .code y_Reader_makePack b_Reader_makePack 4 (some (.object "PackageRows$Pack")) :: wsAll
def w_Scan_refusal : List Cond := .code y_Scan_refusal b_Scan_refusal 1 (some .int) :: wsAll
def w_PR_read : List Cond := .code y_PR_read b_PR_read 2 (some .int) :: wsAll
def w_PR_packOf : List Cond := .code y_PR_packOf b_PR_packOf 2 (some (.object "PackageRows$Pack")) :: wsAll
def w_PR_rows : List Cond := .code y_PR_rows b_PR_rows 3 (some .int) :: wsAll
def w_PR_rowOf : List Cond := .code y_PR_rowOf b_PR_rowOf 4 (some (.object "PackageRows$Row")) :: wsAll
def w_PR_row : List Cond := .code y_PR_row b_PR_row 5 (some .int) :: wsAll
def w_Name_writtenAt : List Cond := .code y_Name_writtenAt b_Name_writtenAt 2 (some .int) :: wsAll
def w_Name_foldedAt : List Cond := .code y_Name_foldedAt b_Name_foldedAt 2 (some .int) :: wsAll
def w_PR_letter : List Cond := .code y_PR_letter b_PR_letter 6 (some .int) :: wsAll
def w_PR_low : List Cond := .code y_PR_low b_PR_low 4 (some .long) :: wsAll
def w_PR_high : List Cond := .code y_PR_high b_PR_high 4 (some .long) :: wsAll
def w_PR_check : List Cond := .code y_PR_check b_PR_check 4 (some .int) :: wsAll
def w_Pack_headsAlike : List Cond := .code y_Pack_headsAlike b_Pack_headsAlike 3 (some .boolean) :: wsAll
def w_Row_holdsLike : List Cond := .code y_Row_holdsLike b_Row_holdsLike 2 (some .boolean) :: wsAll
def w_Pairing_pairFrom : List Cond := .code y_Pairing_pairFrom b_Pairing_pairFrom 5 (some .boolean) :: wsAll
def w_Pairing_clear : List Cond := .code y_Pairing_clear b_Pairing_clear 2 none :: wsAll
def w_Pairing_countAlone : List Cond := .code y_Pairing_countAlone b_Pairing_countAlone 7 (some .int) :: wsAll
def w_PR_same : List Cond := .code y_PR_same b_PR_same 5 (some .boolean) :: wsAll
def w_PR_tellAlone : List Cond := .code y_PR_tellAlone b_PR_tellAlone 4 none :: wsAll
def w_PR_differ : List Cond := .code y_PR_differ b_PR_differ 5 (some .int) :: wsAll
def w_PR_change : List Cond := .code y_PR_change b_PR_change 3 (some .int) :: wsAll
def w_Printer_put : List Cond := .code y_Printer_put b_Printer_put 2 none :: wsAll
def w_Printer_putName : List Cond := .code y_Printer_putName b_Printer_putName 3 none :: wsAll
def w_Printer_putNumber : List Cond := .code y_Printer_putNumber b_Printer_putNumber 6 none :: wsAll
def w_Printer_putVersion : List Cond := .code y_Printer_putVersion b_Printer_putVersion 3 none :: wsAll
def w_Printer_putText : List Cond := .code y_Printer_putText b_Printer_putText 3 none :: wsAll
def w_Printer_putRange : List Cond := .code y_Printer_putRange b_Printer_putRange 5 none :: wsAll
def w_Printer_putRest : List Cond := .code y_Printer_putRest b_Printer_putRest 2 none :: wsAll
def w_Printer_putBeginning : List Cond := .code y_Printer_putBeginning b_Printer_putBeginning 2 none :: wsAll
def w_Row_isOfFeature : List Cond := .code y_Row_isOfFeature b_Row_isOfFeature 2 (some .boolean) :: wsAll
def w_Pack_hasNamesOf : List Cond := .code y_Pack_hasNamesOf b_Pack_hasNamesOf 3 (some .boolean) :: wsAll
def w_Printer_putBareFeatures : List Cond := .code y_Printer_putBareFeatures b_Printer_putBareFeatures 3 none :: wsAll
def w_Row_sharesTextRow : List Cond := .code y_Row_sharesTextRow b_Row_sharesTextRow 2 (some .boolean) :: wsAll
def w_Printer_printPack : List Cond := .code y_Printer_printPack b_Printer_printPack 4 none :: wsAll
def w_PR_print : List Cond := .code y_PR_print b_PR_print 3 (some .int) :: wsAll
def w_Printer_printFolded : List Cond := .code y_Printer_printFolded b_Printer_printFolded 3 none :: wsAll
def w_Scan_takeEnd : List Cond := .code y_Scan_takeEnd b_Scan_takeEnd 1 (some .boolean) :: wsAll
def w_PR_fold : List Cond := .code y_PR_fold b_PR_fold 2 (some .int) :: wsAll
def w_PR_at : List Cond := .code y_PR_at b_PR_at 2 (some .int) :: wsAll
def w_MD_init : List Cond := .code y_MD_init b_MD_init 1 none :: wsAll
def w_MD_type : List Cond := .code y_MD_type b_MD_type 5 none :: wsAll
def w_MD_isLetter : List Cond := .code y_MD_isLetter b_MD_isLetter 1 (some .boolean) :: wsAll
def w_MD_isDigit : List Cond := .code y_MD_isDigit b_MD_isDigit 1 (some .boolean) :: wsAll
def w_MD_isDash : List Cond := .code y_MD_isDash b_MD_isDash 1 (some .boolean) :: wsAll
def w_MD_next : List Cond := .code y_MD_next b_MD_next 3 none :: wsAll
def w_MD_fail : List Cond := .code y_MD_fail b_MD_fail 2 none :: wsAll
def w_MD_isWrong : List Cond := .code y_MD_isWrong b_MD_isWrong 1 (some .boolean) :: wsAll
def w_MD_sign : List Cond := .code y_MD_sign b_MD_sign 2 none :: wsAll
def w_MD_key : List Cond := .code y_MD_key b_MD_key 4 (some .long) :: wsAll
def w_MD_isName : List Cond := .code y_MD_isName b_MD_isName 1 (some .boolean) :: wsAll
def w_MD_number : List Cond := .code y_MD_number b_MD_number 4 (some .long) :: wsAll
def w_MD_stayClose : List Cond := .code y_MD_stayClose b_MD_stayClose 1 none :: wsAll
def w_MD_readVersion : List Cond := .code y_MD_readVersion b_MD_readVersion 4 (some .long) :: wsAll
def w_MD_isBound : List Cond := .code y_MD_isBound b_MD_isBound 1 (some .boolean) :: wsAll
def w_MD_bound : List Cond := .code y_MD_bound b_MD_bound 4 none :: wsAll
def w_MD_close : List Cond := .code y_MD_close b_MD_close 1 none :: wsAll
def w_MD_readRange : List Cond := .code y_MD_readRange b_MD_readRange 1 none :: wsAll
def w_MD_folded : List Cond := .code y_MD_folded b_MD_folded 7 (some .int) :: wsAll
def w_MD_compare : List Cond := .code y_MD_compare b_MD_compare 10 (some .int) :: wsAll
def w_MD_base : List Cond := .code y_MD_base b_MD_base 1 (some .int) :: wsAll
def w_MD_copyName : List Cond := .code y_MD_copyName b_MD_copyName 6 none :: wsAll
def w_MD_addRow : List Cond := .code y_MD_addRow b_MD_addRow 10 (some .boolean) :: wsAll
def w_MD_takeName : List Cond := .code y_MD_takeName b_MD_takeName 2 (some .int) :: wsAll
def w_MD_readRanged : List Cond := .code y_MD_readRanged b_MD_readRanged 3 none :: wsAll
def w_MD_readNeed : List Cond := .code y_MD_readNeed b_MD_readNeed 4 none :: wsAll
def w_MD_readAny : List Cond := .code y_MD_readAny b_MD_readAny 1 none :: wsAll
def w_MD_readNames : List Cond := .code y_MD_readNames b_MD_readNames 7 none :: wsAll
def w_MD_readFeature : List Cond := .code y_MD_readFeature b_MD_readFeature 4 none :: wsAll
def w_MD_readPlain : List Cond := .code y_MD_readPlain b_MD_readPlain 5 none :: wsAll
def w_MD_readRow : List Cond := .code y_MD_readRow b_MD_readRow 4 none :: wsAll
def w_MD_isFeature : List Cond := .code y_MD_isFeature b_MD_isFeature 6 (some .boolean) :: wsAll
def w_MD_readAll : List Cond := .code y_MD_readAll b_MD_readAll 5 none :: wsAll
def w_MD_order : List Cond := .code y_MD_order b_MD_order 4 (some .int) :: wsAll
def w_MD_exchange : List Cond := .code y_MD_exchange b_MD_exchange 15 none :: wsAll
def w_MD_joins : List Cond := .code y_MD_joins b_MD_joins 4 (some .boolean) :: wsAll
def w_MD_isWritten : List Cond := .code y_MD_isWritten b_MD_isWritten 5 (some .boolean) :: wsAll
def w_MD_settle : List Cond := .code y_MD_settle b_MD_settle 6 none :: wsAll
def w_MD_read : List Cond := .code y_MD_read b_MD_read 1 (some .int) :: wsAll
def w_MD_isPackage : List Cond := .code y_MD_isPackage b_MD_isPackage 2 (some .boolean) :: wsAll
def w_MD_isRow : List Cond := .code y_MD_isRow b_MD_isRow 3 (some .boolean) :: wsAll
def w_MD_rows : List Cond := .code y_MD_rows b_MD_rows 2 (some .int) :: wsAll
def w_MD_isOptional : List Cond := .code y_MD_isOptional b_MD_isOptional 4 (some .boolean) :: wsAll
def w_MD_why : List Cond := .code y_MD_why b_MD_why 4 (some .int) :: wsAll
def w_MD_row : List Cond := .code y_MD_row b_MD_row 5 (some .int) :: wsAll
def w_MD_letter : List Cond := .code y_MD_letter b_MD_letter 6 (some .int) :: wsAll
def w_MD_low : List Cond := .code y_MD_low b_MD_low 3 (some .long) :: wsAll
def w_MD_high : List Cond := .code y_MD_high b_MD_high 3 (some .long) :: wsAll
def w_MD_check : List Cond := .code y_MD_check b_MD_check 3 (some .int) :: wsAll
def w_MD_isLike : List Cond := .code y_MD_isLike b_MD_isLike 3 (some .boolean) :: wsAll
def w_MD_tell : List Cond := .code y_MD_tell b_MD_tell 3 none :: wsAll
def w_MD_compareRows : List Cond := .code y_MD_compareRows b_MD_compareRows 7 (some .int) :: wsAll
def w_MD_hasAll : List Cond := .code y_MD_hasAll b_MD_hasAll 5 (some .boolean) :: wsAll
def w_MD_same : List Cond := .code y_MD_same b_MD_same 3 (some .boolean) :: wsAll
def w_MD_differ : List Cond := .code y_MD_differ b_MD_differ 3 (some .int) :: wsAll
def w_MD_change : List Cond := .code y_MD_change b_MD_change 3 (some .int) :: wsAll
def w_MD_put : List Cond := .code y_MD_put b_MD_put 2 none :: wsAll
def w_MD_putName : List Cond := .code y_MD_putName b_MD_putName 5 none :: wsAll
def w_MD_putKey : List Cond := .code y_MD_putKey b_MD_putKey 5 none :: wsAll
def w_MD_putNumber : List Cond := .code y_MD_putNumber b_MD_putNumber 5 none :: wsAll
def w_MD_putVersion : List Cond := .code y_MD_putVersion b_MD_putVersion 3 none :: wsAll
def w_MD_putBound : List Cond := .code y_MD_putBound b_MD_putBound 5 none :: wsAll
def w_MD_putRange : List Cond := .code y_MD_putRange b_MD_putRange 2 none :: wsAll
def w_MD_keyOf : List Cond := .code y_MD_keyOf b_MD_keyOf 3 (some .long) :: wsAll
def w_MD_goesOn : List Cond := .code y_MD_goesOn b_MD_goesOn 4 (some .boolean) :: wsAll
def w_MD_putBegin : List Cond := .code y_MD_putBegin b_MD_putBegin 3 none :: wsAll
def w_MD_putRow : List Cond := .code y_MD_putRow b_MD_putRow 4 none :: wsAll
def w_MD_isPrinted : List Cond := .code y_MD_isPrinted b_MD_isPrinted 4 (some .boolean) :: wsAll
def w_MD_print : List Cond := .code y_MD_print b_MD_print 3 (some .int) :: wsAll
def w_MD_fold : List Cond := .code y_MD_fold b_MD_fold 4 (some .int) :: wsAll
def w_MD_at : List Cond := .code y_MD_at b_MD_at 2 (some .int) :: wsAll
