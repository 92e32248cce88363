def wsX5_typeAt : List Cond := .code yX5_typeAt cX5_typeAt 2 (some .long) :: ([.fieldLink RX5 39 "ResourceLedger$Program" "typeCount" "I", .fieldLink RX5 9 "ResourceLedger$Program" "types" "[J"] ++ wsX50)
def wsX5_endsInStructure : List Cond := .code yX5_endsInStructure cX5_endsInStructure 2 (some .boolean) :: ([.constantLong RX5 85 (255), .constantLong RX5 87 (6)])
def wsX5_structureColumn : List Cond := .code yX5_structureColumn cX5_structureColumn 3 (some .int) :: ([.fieldLink RX5 52 "ResourceLedger$Program" "allStructures" "I", .fieldLink RX5 19 "ResourceLedger$Program" "structureRows" "[I"] ++ wsX50)
def wsX5_headShift : List Cond := .code yX5_headShift cX5_headShift 3 (some .int) :: ([])
def wsX5_fieldType : List Cond := .code yX5_fieldType cX5_fieldType 3 (some .long) :: ([.methodLink RX5 72 yX5_structureColumn, .instanceMethod yX5_structureColumn, .selects RX5 yX5_structureColumn yX5_structureColumn, .initialized RX5, .code yX5_structureColumn cX5_structureColumn 3 (some .int), .fieldLink RX5 52 "ResourceLedger$Program" "allStructures" "I", .fieldLink RX5 19 "ResourceLedger$Program" "structureRows" "[I", .methodLink RX5 65 yX5_typeAt, .instanceMethod yX5_typeAt, .selects RX5 yX5_typeAt yX5_typeAt, .code yX5_typeAt cX5_typeAt 2 (some .long), .fieldLink RX5 39 "ResourceLedger$Program" "typeCount" "I", .fieldLink RX5 9 "ResourceLedger$Program" "types" "[J"] ++ wsX50)
def wsX5_fieldCount : List Cond := .code yX5_fieldCount cX5_fieldCount 2 (some .int) :: ([.methodLink RX5 72 yX5_structureColumn, .instanceMethod yX5_structureColumn, .selects RX5 yX5_structureColumn yX5_structureColumn, .initialized RX5, .code yX5_structureColumn cX5_structureColumn 3 (some .int), .fieldLink RX5 52 "ResourceLedger$Program" "allStructures" "I", .fieldLink RX5 19 "ResourceLedger$Program" "structureRows" "[I"] ++ wsX50)
def wsX5_clear : List Cond := .code yX5_clear cX5_clear 1 none :: ([.fieldLink RX5 36 "ResourceLedger$Program" "number" "I", .fieldLink RX5 39 "ResourceLedger$Program" "typeCount" "I", .fieldLink RX5 42 "ResourceLedger$Program" "startCount" "I", .fieldLink RX5 45 "ResourceLedger$Program" "foreignFunctions" "I"] ++ wsX50)
def wsX5_lay : List Cond := .code yX5_lay cX5_lay 2 none :: ([.fieldLink RX5 25 "ResourceLedger$Program" "bytes" "[B", .fieldLink RX5 29 "ResourceLedger$Program" "length" "I", .methodLink RX5 33 yX5_clear, .instanceMethod yX5_clear, .selects RX5 yX5_clear yX5_clear, .initialized RX5, .code yX5_clear cX5_clear 1 none, .fieldLink RX5 36 "ResourceLedger$Program" "number" "I", .fieldLink RX5 39 "ResourceLedger$Program" "typeCount" "I", .fieldLink RX5 42 "ResourceLedger$Program" "startCount" "I", .fieldLink RX5 45 "ResourceLedger$Program" "foreignFunctions" "I"] ++ wsX50)
def wsX5_addType : List Cond := .code yX5_addType cX5_addType 3 none :: ([.fieldLink RX5 39 "ResourceLedger$Program" "typeCount" "I", .fieldLink RX5 9 "ResourceLedger$Program" "types" "[J"] ++ wsX50)
def wsX5_addStart : List Cond := .code yX5_addStart cX5_addStart 2 none :: ([.fieldLink RX5 42 "ResourceLedger$Program" "startCount" "I", .fieldLink RX5 15 "ResourceLedger$Program" "starts" "[I"] ++ wsX50)
def wsX5_setStructure : List Cond := .code yX5_setStructure cX5_setStructure 4 none :: ([.fieldLink RX5 19 "ResourceLedger$Program" "structureRows" "[I"] ++ wsX50)
def wsX5_setFunction : List Cond := .code yX5_setFunction cX5_setFunction 4 none :: ([.fieldLink RX5 22 "ResourceLedger$Program" "functionRows" "[I"] ++ wsX50)
def wsX5_depthOf : List Cond := .code yX5_depthOf cX5_depthOf 5 (some .int) :: ([.constantLong RX5 85 (255), .constantLong RX5 143 (7), .methodLink RX5 89 yX5_endsInStructure, .static yX5_endsInStructure, .initialized RX5, .code yX5_endsInStructure cX5_endsInStructure 2 (some .boolean), .constantLong RX5 87 (6), .methodLink RX5 72 yX5_structureColumn, .instanceMethod yX5_structureColumn, .selects RX5 yX5_structureColumn yX5_structureColumn, .code yX5_structureColumn cX5_structureColumn 3 (some .int), .fieldLink RX5 52 "ResourceLedger$Program" "allStructures" "I", .fieldLink RX5 19 "ResourceLedger$Program" "structureRows" "[I", .methodLink RX5 82 yX5_headShift, .static yX5_headShift, .code yX5_headShift cX5_headShift 3 (some .int)] ++ wsX50)
def wsX5_measure_r1 : List Cond := [Cond.fieldLink RX5 52 "ResourceLedger$Program" "allStructures" "I", Cond.fieldLink RX5 99 "ResourceLedger$Program" "ownStructures" "I", Cond.methodLink RX5 138 Lib.Math.max.name, Cond.static Lib.Math.max.name, Cond.initialized "java/lang/Math", Cond.code Lib.Math.max.name Lib.Math.max.code 2 (some .int), Cond.methodLink RX5 72 yX5_structureColumn, Cond.instanceMethod yX5_structureColumn, Cond.selects RX5 yX5_structureColumn yX5_structureColumn, Cond.initialized RX5, Cond.code yX5_structureColumn cX5_structureColumn 3 (some .int), Cond.fieldLink RX5 19 "ResourceLedger$Program" "structureRows" "[I", Cond.methodLink RX5 102 yX7_findProgram, Cond.instanceMethod yX7_findProgram, Cond.selects RX7 yX7_findProgram yX7_findProgram, Cond.initialized RX7, Cond.code yX7_findProgram cX7_findProgram 3 (some (.object "ResourceLedger$Program")), Cond.fieldLink RX7 55 "ResourceLedger$State" "moduleCount" "I", Cond.fieldLink RX7 23 "ResourceLedger$State" "programs" "[LResourceLedger$Program;", Cond.fieldLink RX7 86 "ResourceLedger$Program" "number" "I", Cond.methodLink RX5 131 yX5_setStructure, Cond.instanceMethod yX5_setStructure, Cond.selects RX5 yX5_setStructure yX5_setStructure, Cond.code yX5_setStructure cX5_setStructure 4 none]
def wsX5_measure_r2 : List Cond := [Cond.methodLink RX5 122 yX5_fieldCount, Cond.instanceMethod yX5_fieldCount, Cond.selects RX5 yX5_fieldCount yX5_fieldCount, Cond.code yX5_fieldCount cX5_fieldCount 2 (some .int), Cond.methodLink RX5 125 yX5_fieldType, Cond.instanceMethod yX5_fieldType, Cond.selects RX5 yX5_fieldType yX5_fieldType, Cond.code yX5_fieldType cX5_fieldType 3 (some .long), Cond.methodLink RX5 65 yX5_typeAt, Cond.instanceMethod yX5_typeAt, Cond.selects RX5 yX5_typeAt yX5_typeAt, Cond.code yX5_typeAt cX5_typeAt 2 (some .long), Cond.fieldLink RX5 39 "ResourceLedger$Program" "typeCount" "I", Cond.fieldLink RX5 9 "ResourceLedger$Program" "types" "[J", Cond.methodLink RX5 135 yX5_depthOf, Cond.instanceMethod yX5_depthOf, Cond.selects RX5 yX5_depthOf yX5_depthOf, Cond.code yX5_depthOf cX5_depthOf 5 (some .int), Cond.constantLong RX5 85 (255), Cond.constantLong RX5 143 (7), Cond.methodLink RX5 89 yX5_endsInStructure, Cond.static yX5_endsInStructure, Cond.code yX5_endsInStructure cX5_endsInStructure 2 (some .boolean), Cond.constantLong RX5 87 (6)]
def wsX5_measure_r3 : List Cond := [Cond.methodLink RX5 82 yX5_headShift, Cond.static yX5_headShift, Cond.code yX5_headShift cX5_headShift 3 (some .int)]
def wsX5_measure : List Cond := .code yX5_measure cX5_measure 6 none :: ((wsX5_measure_r1 ++ (wsX5_measure_r2 ++ wsX5_measure_r3)) ++ wsX50 ++ wsX70)
def wsX6_readByte : List Cond := .code yX6_readByte cX6_readByte 1 (some .int) :: ([.fieldLink RX6 21 "ResourceLedger$Reader" "fault" "I", .fieldLink RX6 32 "ResourceLedger$Reader" "at" "I", .fieldLink RX6 17 "ResourceLedger$Reader" "p" "LResourceLedger$Program;", .fieldLink RX6 73 "ResourceLedger$Program" "length" "I", .fieldLink RX6 25 "ResourceLedger$Reader" "place" "I", .fieldLink RX6 83 "ResourceLedger$Program" "bytes" "[B"] ++ wsX60 ++ wsX50)
def wsX6_fail : List Cond := .code yX6_fail cX6_fail 3 none :: ([.fieldLink RX6 21 "ResourceLedger$Reader" "fault" "I", .fieldLink RX6 25 "ResourceLedger$Reader" "place" "I"] ++ wsX60)
def wsX6_readShort : List Cond := .code yX6_readShort cX6_readShort 2 (some .int) :: ([.methodLink RX6 87 yX6_readByte, .instanceMethod yX6_readByte, .selects RX6 yX6_readByte yX6_readByte, .initialized RX6, .code yX6_readByte cX6_readByte 1 (some .int), .fieldLink RX6 21 "ResourceLedger$Reader" "fault" "I", .fieldLink RX6 32 "ResourceLedger$Reader" "at" "I", .fieldLink RX6 17 "ResourceLedger$Reader" "p" "LResourceLedger$Program;", .fieldLink RX6 73 "ResourceLedger$Program" "length" "I", .fieldLink RX6 25 "ResourceLedger$Reader" "place" "I", .fieldLink RX6 83 "ResourceLedger$Program" "bytes" "[B"] ++ wsX60 ++ wsX50)
def wsX6_readBeginning : List Cond := .code yX6_readBeginning cX6_readBeginning 3 none :: ([.fieldLink RX6 32 "ResourceLedger$Reader" "at" "I", .fieldLink RX6 91 "ResourceLedger$Program" "COIN_BYTES" "[B", .fieldLink RX6 17 "ResourceLedger$Reader" "p" "LResourceLedger$Program;", .fieldLink RX6 97 "ResourceLedger$Program" "number" "I", .methodLink RX6 87 yX6_readByte, .instanceMethod yX6_readByte, .selects RX6 yX6_readByte yX6_readByte, .initialized RX6, .code yX6_readByte cX6_readByte 1 (some .int), .fieldLink RX6 21 "ResourceLedger$Reader" "fault" "I", .fieldLink RX6 73 "ResourceLedger$Program" "length" "I", .fieldLink RX6 25 "ResourceLedger$Reader" "place" "I", .fieldLink RX6 83 "ResourceLedger$Program" "bytes" "[B", .methodLink RX6 76 yX6_fail, .instanceMethod yX6_fail, .selects RX6 yX6_fail yX6_fail, .code yX6_fail cX6_fail 3 none, .methodLink RX6 94 yX6_readShort, .instanceMethod yX6_readShort, .selects RX6 yX6_readShort yX6_readShort, .code yX6_readShort cX6_readShort 2 (some .int)] ++ wsX60 ++ wsX50)
def wsX6_readNumber : List Cond := .code yX6_readNumber cX6_readNumber 5 (some .int) :: ([.fieldLink RX6 32 "ResourceLedger$Reader" "at" "I", .fieldLink RX6 21 "ResourceLedger$Reader" "fault" "I", .methodLink RX6 87 yX6_readByte, .instanceMethod yX6_readByte, .selects RX6 yX6_readByte yX6_readByte, .initialized RX6, .code yX6_readByte cX6_readByte 1 (some .int), .fieldLink RX6 17 "ResourceLedger$Reader" "p" "LResourceLedger$Program;", .fieldLink RX6 73 "ResourceLedger$Program" "length" "I", .fieldLink RX6 25 "ResourceLedger$Reader" "place" "I", .fieldLink RX6 83 "ResourceLedger$Program" "bytes" "[B", .methodLink RX6 76 yX6_fail, .instanceMethod yX6_fail, .selects RX6 yX6_fail yX6_fail, .code yX6_fail cX6_fail 3 none] ++ wsX60 ++ wsX50)
def wsX6_readOneType : List Cond := .code yX6_readOneType cX6_readOneType 7 (some .long) :: ([.fieldLink RX6 32 "ResourceLedger$Reader" "at" "I", .fieldLink RX6 28 "ResourceLedger$Reader" "judging" "Z", .fieldLink RX6 17 "ResourceLedger$Reader" "p" "LResourceLedger$Program;", .fieldLink RX6 103 "ResourceLedger$Program" "allStructures" "I", .methodLink RX6 87 yX6_readByte, .instanceMethod yX6_readByte, .selects RX6 yX6_readByte yX6_readByte, .initialized RX6, .code yX6_readByte cX6_readByte 1 (some .int), .fieldLink RX6 21 "ResourceLedger$Reader" "fault" "I", .fieldLink RX6 73 "ResourceLedger$Program" "length" "I", .fieldLink RX6 25 "ResourceLedger$Reader" "place" "I", .fieldLink RX6 83 "ResourceLedger$Program" "bytes" "[B", .methodLink RX6 76 yX6_fail, .instanceMethod yX6_fail, .selects RX6 yX6_fail yX6_fail, .code yX6_fail cX6_fail 3 none] ++ wsX60 ++ wsX50)
def wsX6_readTypes_r1 : List Cond := [Cond.fieldLink RX6 21 "ResourceLedger$Reader" "fault" "I", Cond.fieldLink RX6 17 "ResourceLedger$Reader" "p" "LResourceLedger$Program;", Cond.methodLink RX6 135 yX6_readOneType, Cond.instanceMethod yX6_readOneType, Cond.selects RX6 yX6_readOneType yX6_readOneType, Cond.initialized RX6, Cond.code yX6_readOneType cX6_readOneType 7 (some .long), Cond.fieldLink RX6 32 "ResourceLedger$Reader" "at" "I", Cond.fieldLink RX6 28 "ResourceLedger$Reader" "judging" "Z", Cond.fieldLink RX6 103 "ResourceLedger$Program" "allStructures" "I", Cond.methodLink RX6 87 yX6_readByte, Cond.instanceMethod yX6_readByte, Cond.selects RX6 yX6_readByte yX6_readByte, Cond.code yX6_readByte cX6_readByte 1 (some .int), Cond.fieldLink RX6 73 "ResourceLedger$Program" "length" "I", Cond.fieldLink RX6 25 "ResourceLedger$Reader" "place" "I", Cond.fieldLink RX6 83 "ResourceLedger$Program" "bytes" "[B", Cond.methodLink RX6 76 yX6_fail, Cond.instanceMethod yX6_fail, Cond.selects RX6 yX6_fail yX6_fail, Cond.code yX6_fail cX6_fail 3 none, Cond.methodLink RX6 139 yX5_addType, Cond.instanceMethod yX5_addType, Cond.selects RX5 yX5_addType yX5_addType]
def wsX6_readTypes_r2 : List Cond := [Cond.initialized RX5, Cond.code yX5_addType cX5_addType 3 none, Cond.fieldLink RX5 39 "ResourceLedger$Program" "typeCount" "I", Cond.fieldLink RX5 9 "ResourceLedger$Program" "types" "[J"]
def wsX6_readTypes : List Cond := .code yX6_readTypes cX6_readTypes 4 none :: ((wsX6_readTypes_r1 ++ wsX6_readTypes_r2) ++ wsX60 ++ wsX50)
def wsX6_readStructures_r1 : List Cond := [Cond.fieldLink RX6 17 "ResourceLedger$Reader" "p" "LResourceLedger$Program;", Cond.fieldLink RX6 100 "ResourceLedger$Program" "ownStructures" "I", Cond.fieldLink RX6 28 "ResourceLedger$Reader" "judging" "Z", Cond.fieldLink RX6 103 "ResourceLedger$Program" "allStructures" "I", Cond.fieldLink RX6 21 "ResourceLedger$Reader" "fault" "I", Cond.fieldLink RX6 32 "ResourceLedger$Reader" "at" "I", Cond.fieldLink RX6 53 "ResourceLedger$Program" "typeCount" "I", Cond.fieldLink RX6 97 "ResourceLedger$Program" "number" "I", Cond.methodLink RX6 59 yX6_readNumber, Cond.instanceMethod yX6_readNumber, Cond.selects RX6 yX6_readNumber yX6_readNumber, Cond.initialized RX6, Cond.code yX6_readNumber cX6_readNumber 5 (some .int), Cond.methodLink RX6 87 yX6_readByte, Cond.instanceMethod yX6_readByte, Cond.selects RX6 yX6_readByte yX6_readByte, Cond.code yX6_readByte cX6_readByte 1 (some .int), Cond.fieldLink RX6 73 "ResourceLedger$Program" "length" "I", Cond.fieldLink RX6 25 "ResourceLedger$Reader" "place" "I", Cond.fieldLink RX6 83 "ResourceLedger$Program" "bytes" "[B", Cond.methodLink RX6 76 yX6_fail, Cond.instanceMethod yX6_fail, Cond.selects RX6 yX6_fail yX6_fail, Cond.code yX6_fail cX6_fail 3 none]
def wsX6_readStructures_r2 : List Cond := [Cond.methodLink RX6 106 yX5_setStructure, Cond.instanceMethod yX5_setStructure, Cond.selects RX5 yX5_setStructure yX5_setStructure, Cond.initialized RX5, Cond.code yX5_setStructure cX5_setStructure 4 none, Cond.fieldLink RX5 19 "ResourceLedger$Program" "structureRows" "[I", Cond.methodLink RX6 66 yX6_readTypes, Cond.instanceMethod yX6_readTypes, Cond.selects RX6 yX6_readTypes yX6_readTypes, Cond.code yX6_readTypes cX6_readTypes 4 none, Cond.methodLink RX6 135 yX6_readOneType, Cond.instanceMethod yX6_readOneType, Cond.selects RX6 yX6_readOneType yX6_readOneType, Cond.code yX6_readOneType cX6_readOneType 7 (some .long), Cond.methodLink RX6 139 yX5_addType, Cond.instanceMethod yX5_addType, Cond.selects RX5 yX5_addType yX5_addType, Cond.code yX5_addType cX5_addType 3 none, Cond.fieldLink RX5 39 "ResourceLedger$Program" "typeCount" "I", Cond.fieldLink RX5 9 "ResourceLedger$Program" "types" "[J"]
def wsX6_readStructures : List Cond := .code yX6_readStructures cX6_readStructures 3 none :: ((wsX6_readStructures_r1 ++ wsX6_readStructures_r2) ++ wsX60 ++ wsX50)
def wsX6_readForeignStructures_r1 : List Cond := [Cond.fieldLink RX6 17 "ResourceLedger$Reader" "p" "LResourceLedger$Program;", Cond.fieldLink RX6 100 "ResourceLedger$Program" "ownStructures" "I", Cond.fieldLink RX6 103 "ResourceLedger$Program" "allStructures" "I", Cond.fieldLink RX6 21 "ResourceLedger$Reader" "fault" "I", Cond.methodLink RX6 59 yX6_readNumber, Cond.instanceMethod yX6_readNumber, Cond.selects RX6 yX6_readNumber yX6_readNumber, Cond.initialized RX6, Cond.code yX6_readNumber cX6_readNumber 5 (some .int), Cond.fieldLink RX6 32 "ResourceLedger$Reader" "at" "I", Cond.methodLink RX6 87 yX6_readByte, Cond.instanceMethod yX6_readByte, Cond.selects RX6 yX6_readByte yX6_readByte, Cond.code yX6_readByte cX6_readByte 1 (some .int), Cond.fieldLink RX6 73 "ResourceLedger$Program" "length" "I", Cond.fieldLink RX6 25 "ResourceLedger$Reader" "place" "I", Cond.fieldLink RX6 83 "ResourceLedger$Program" "bytes" "[B", Cond.methodLink RX6 76 yX6_fail, Cond.instanceMethod yX6_fail, Cond.selects RX6 yX6_fail yX6_fail, Cond.code yX6_fail cX6_fail 3 none, Cond.methodLink RX6 94 yX6_readShort, Cond.instanceMethod yX6_readShort, Cond.selects RX6 yX6_readShort yX6_readShort]
def wsX6_readForeignStructures_r2 : List Cond := [Cond.code yX6_readShort cX6_readShort 2 (some .int), Cond.methodLink RX6 106 yX5_setStructure, Cond.instanceMethod yX5_setStructure, Cond.selects RX5 yX5_setStructure yX5_setStructure, Cond.initialized RX5, Cond.code yX5_setStructure cX5_setStructure 4 none, Cond.fieldLink RX5 19 "ResourceLedger$Program" "structureRows" "[I"]
def wsX6_readForeignStructures : List Cond := .code yX6_readForeignStructures cX6_readForeignStructures 3 none :: ((wsX6_readForeignStructures_r1 ++ wsX6_readForeignStructures_r2) ++ wsX60 ++ wsX50)
def wsX6_readList_r1 : List Cond := [Cond.methodLink RX6 59 yX6_readNumber, Cond.instanceMethod yX6_readNumber, Cond.selects RX6 yX6_readNumber yX6_readNumber, Cond.initialized RX6, Cond.code yX6_readNumber cX6_readNumber 5 (some .int), Cond.fieldLink RX6 32 "ResourceLedger$Reader" "at" "I", Cond.fieldLink RX6 21 "ResourceLedger$Reader" "fault" "I", Cond.methodLink RX6 87 yX6_readByte, Cond.instanceMethod yX6_readByte, Cond.selects RX6 yX6_readByte yX6_readByte, Cond.code yX6_readByte cX6_readByte 1 (some .int), Cond.fieldLink RX6 17 "ResourceLedger$Reader" "p" "LResourceLedger$Program;", Cond.fieldLink RX6 73 "ResourceLedger$Program" "length" "I", Cond.fieldLink RX6 25 "ResourceLedger$Reader" "place" "I", Cond.fieldLink RX6 83 "ResourceLedger$Program" "bytes" "[B", Cond.methodLink RX6 76 yX6_fail, Cond.instanceMethod yX6_fail, Cond.selects RX6 yX6_fail yX6_fail, Cond.code yX6_fail cX6_fail 3 none, Cond.methodLink RX6 66 yX6_readTypes, Cond.instanceMethod yX6_readTypes, Cond.selects RX6 yX6_readTypes yX6_readTypes, Cond.code yX6_readTypes cX6_readTypes 4 none, Cond.methodLink RX6 135 yX6_readOneType]
def wsX6_readList_r2 : List Cond := [Cond.instanceMethod yX6_readOneType, Cond.selects RX6 yX6_readOneType yX6_readOneType, Cond.code yX6_readOneType cX6_readOneType 7 (some .long), Cond.fieldLink RX6 28 "ResourceLedger$Reader" "judging" "Z", Cond.fieldLink RX6 103 "ResourceLedger$Program" "allStructures" "I", Cond.methodLink RX6 139 yX5_addType, Cond.instanceMethod yX5_addType, Cond.selects RX5 yX5_addType yX5_addType, Cond.initialized RX5, Cond.code yX5_addType cX5_addType 3 none, Cond.fieldLink RX5 39 "ResourceLedger$Program" "typeCount" "I", Cond.fieldLink RX5 9 "ResourceLedger$Program" "types" "[J"]
def wsX6_readList : List Cond := .code yX6_readList cX6_readList 3 (some .int) :: ((wsX6_readList_r1 ++ wsX6_readList_r2) ++ wsX60 ++ wsX50)
def wsX6_readForeignFunctions_r1 : List Cond := [Cond.fieldLink RX6 17 "ResourceLedger$Reader" "p" "LResourceLedger$Program;", Cond.fieldLink RX6 110 "ResourceLedger$Program" "foreignFunctions" "I", Cond.fieldLink RX6 21 "ResourceLedger$Reader" "fault" "I", Cond.fieldLink RX6 53 "ResourceLedger$Program" "typeCount" "I", Cond.methodLink RX6 59 yX6_readNumber, Cond.instanceMethod yX6_readNumber, Cond.selects RX6 yX6_readNumber yX6_readNumber, Cond.initialized RX6, Cond.code yX6_readNumber cX6_readNumber 5 (some .int), Cond.fieldLink RX6 32 "ResourceLedger$Reader" "at" "I", Cond.methodLink RX6 87 yX6_readByte, Cond.instanceMethod yX6_readByte, Cond.selects RX6 yX6_readByte yX6_readByte, Cond.code yX6_readByte cX6_readByte 1 (some .int), Cond.fieldLink RX6 73 "ResourceLedger$Program" "length" "I", Cond.fieldLink RX6 25 "ResourceLedger$Reader" "place" "I", Cond.fieldLink RX6 83 "ResourceLedger$Program" "bytes" "[B", Cond.methodLink RX6 76 yX6_fail, Cond.instanceMethod yX6_fail, Cond.selects RX6 yX6_fail yX6_fail, Cond.code yX6_fail cX6_fail 3 none, Cond.methodLink RX6 94 yX6_readShort, Cond.instanceMethod yX6_readShort, Cond.selects RX6 yX6_readShort yX6_readShort]
def wsX6_readForeignFunctions_r2 : List Cond := [Cond.code yX6_readShort cX6_readShort 2 (some .int), Cond.methodLink RX6 113 yX5_setFunction, Cond.instanceMethod yX5_setFunction, Cond.selects RX5 yX5_setFunction yX5_setFunction, Cond.initialized RX5, Cond.code yX5_setFunction cX5_setFunction 4 none, Cond.fieldLink RX5 22 "ResourceLedger$Program" "functionRows" "[I", Cond.methodLink RX6 116 yX6_readList, Cond.instanceMethod yX6_readList, Cond.selects RX6 yX6_readList yX6_readList, Cond.code yX6_readList cX6_readList 3 (some .int), Cond.methodLink RX6 66 yX6_readTypes, Cond.instanceMethod yX6_readTypes, Cond.selects RX6 yX6_readTypes yX6_readTypes, Cond.code yX6_readTypes cX6_readTypes 4 none, Cond.methodLink RX6 135 yX6_readOneType, Cond.instanceMethod yX6_readOneType, Cond.selects RX6 yX6_readOneType yX6_readOneType, Cond.code yX6_readOneType cX6_readOneType 7 (some .long), Cond.fieldLink RX6 28 "ResourceLedger$Reader" "judging" "Z", Cond.fieldLink RX6 103 "ResourceLedger$Program" "allStructures" "I", Cond.methodLink RX6 139 yX5_addType, Cond.instanceMethod yX5_addType, Cond.selects RX5 yX5_addType yX5_addType]
def wsX6_readForeignFunctions_r3 : List Cond := [Cond.code yX5_addType cX5_addType 3 none, Cond.fieldLink RX5 39 "ResourceLedger$Program" "typeCount" "I", Cond.fieldLink RX5 9 "ResourceLedger$Program" "types" "[J"]
def wsX6_readForeignFunctions : List Cond := .code yX6_readForeignFunctions cX6_readForeignFunctions 3 none :: ((wsX6_readForeignFunctions_r1 ++ (wsX6_readForeignFunctions_r2 ++ wsX6_readForeignFunctions_r3)) ++ wsX60 ++ wsX50)
def wsX6_pass : List Cond := .code yX6_pass cX6_pass 3 none :: ([.fieldLink RX6 21 "ResourceLedger$Reader" "fault" "I", .methodLink RX6 87 yX6_readByte, .instanceMethod yX6_readByte, .selects RX6 yX6_readByte yX6_readByte, .initialized RX6, .code yX6_readByte cX6_readByte 1 (some .int), .fieldLink RX6 32 "ResourceLedger$Reader" "at" "I", .fieldLink RX6 17 "ResourceLedger$Reader" "p" "LResourceLedger$Program;", .fieldLink RX6 73 "ResourceLedger$Program" "length" "I", .fieldLink RX6 25 "ResourceLedger$Reader" "place" "I", .fieldLink RX6 83 "ResourceLedger$Program" "bytes" "[B"] ++ wsX60 ++ wsX50)
def wsX6_readJudged : List Cond := .code yX6_readJudged cX6_readJudged 5 (some .int) :: ([.fieldLink RX6 32 "ResourceLedger$Reader" "at" "I", .fieldLink RX6 28 "ResourceLedger$Reader" "judging" "Z", .methodLink RX6 87 yX6_readByte, .instanceMethod yX6_readByte, .selects RX6 yX6_readByte yX6_readByte, .initialized RX6, .code yX6_readByte cX6_readByte 1 (some .int), .fieldLink RX6 21 "ResourceLedger$Reader" "fault" "I", .fieldLink RX6 17 "ResourceLedger$Reader" "p" "LResourceLedger$Program;", .fieldLink RX6 73 "ResourceLedger$Program" "length" "I", .fieldLink RX6 25 "ResourceLedger$Reader" "place" "I", .fieldLink RX6 83 "ResourceLedger$Program" "bytes" "[B", .methodLink RX6 76 yX6_fail, .instanceMethod yX6_fail, .selects RX6 yX6_fail yX6_fail, .code yX6_fail cX6_fail 3 none] ++ wsX60 ++ wsX50)
def wsX6_readOwnStructure : List Cond := .code yX6_readOwnStructure cX6_readOwnStructure 3 (some .int) :: ([.fieldLink RX6 32 "ResourceLedger$Reader" "at" "I", .fieldLink RX6 17 "ResourceLedger$Reader" "p" "LResourceLedger$Program;", .fieldLink RX6 103 "ResourceLedger$Program" "allStructures" "I", .fieldLink RX6 28 "ResourceLedger$Reader" "judging" "Z", .fieldLink RX6 100 "ResourceLedger$Program" "ownStructures" "I", .methodLink RX6 143 yX6_readJudged, .instanceMethod yX6_readJudged, .selects RX6 yX6_readJudged yX6_readJudged, .initialized RX6, .code yX6_readJudged cX6_readJudged 5 (some .int), .methodLink RX6 87 yX6_readByte, .instanceMethod yX6_readByte, .selects RX6 yX6_readByte yX6_readByte, .code yX6_readByte cX6_readByte 1 (some .int), .fieldLink RX6 21 "ResourceLedger$Reader" "fault" "I", .fieldLink RX6 73 "ResourceLedger$Program" "length" "I", .fieldLink RX6 25 "ResourceLedger$Reader" "place" "I", .fieldLink RX6 83 "ResourceLedger$Program" "bytes" "[B", .methodLink RX6 76 yX6_fail, .instanceMethod yX6_fail, .selects RX6 yX6_fail yX6_fail, .code yX6_fail cX6_fail 3 none] ++ wsX60 ++ wsX50)
def wsX6_readInstruction_r1 : List Cond := [Cond.fieldLink RX6 17 "ResourceLedger$Reader" "p" "LResourceLedger$Program;", Cond.fieldLink RX6 32 "ResourceLedger$Reader" "at" "I", Cond.fieldLink RX6 126 "ResourceLedger$Reader" "instructions" "I", Cond.fieldLink RX6 28 "ResourceLedger$Reader" "judging" "Z", Cond.fieldLink RX6 123 "ResourceLedger$Reader" "locals" "I", Cond.fieldLink RX6 120 "ResourceLedger$Program" "ownFunctions" "I", Cond.fieldLink RX6 110 "ResourceLedger$Program" "foreignFunctions" "I", Cond.fieldLink RX6 63 "ResourceLedger$Program" "elementCount" "I", Cond.methodLink RX6 146 yX5_addStart, Cond.instanceMethod yX5_addStart, Cond.selects RX5 yX5_addStart yX5_addStart, Cond.initialized RX5, Cond.code yX5_addStart cX5_addStart 2 none, Cond.fieldLink RX5 42 "ResourceLedger$Program" "startCount" "I", Cond.fieldLink RX5 15 "ResourceLedger$Program" "starts" "[I", Cond.methodLink RX6 87 yX6_readByte, Cond.instanceMethod yX6_readByte, Cond.selects RX6 yX6_readByte yX6_readByte, Cond.initialized RX6, Cond.code yX6_readByte cX6_readByte 1 (some .int), Cond.fieldLink RX6 21 "ResourceLedger$Reader" "fault" "I", Cond.fieldLink RX6 73 "ResourceLedger$Program" "length" "I", Cond.fieldLink RX6 25 "ResourceLedger$Reader" "place" "I", Cond.fieldLink RX6 83 "ResourceLedger$Program" "bytes" "[B"]
def wsX6_readInstruction_r2 : List Cond := [Cond.methodLink RX6 76 yX6_fail, Cond.instanceMethod yX6_fail, Cond.selects RX6 yX6_fail yX6_fail, Cond.code yX6_fail cX6_fail 3 none, Cond.methodLink RX6 94 yX6_readShort, Cond.instanceMethod yX6_readShort, Cond.selects RX6 yX6_readShort yX6_readShort, Cond.code yX6_readShort cX6_readShort 2 (some .int), Cond.methodLink RX6 150 yX6_pass, Cond.instanceMethod yX6_pass, Cond.selects RX6 yX6_pass yX6_pass, Cond.code yX6_pass cX6_pass 3 none, Cond.methodLink RX6 143 yX6_readJudged, Cond.instanceMethod yX6_readJudged, Cond.selects RX6 yX6_readJudged yX6_readJudged, Cond.code yX6_readJudged cX6_readJudged 5 (some .int), Cond.methodLink RX6 153 yX6_readOwnStructure, Cond.instanceMethod yX6_readOwnStructure, Cond.selects RX6 yX6_readOwnStructure yX6_readOwnStructure, Cond.code yX6_readOwnStructure cX6_readOwnStructure 3 (some .int), Cond.fieldLink RX6 103 "ResourceLedger$Program" "allStructures" "I", Cond.fieldLink RX6 100 "ResourceLedger$Program" "ownStructures" "I", Cond.methodLink RX6 156 yX5_fieldCount, Cond.instanceMethod yX5_fieldCount]
def wsX6_readInstruction_r3 : List Cond := [Cond.selects RX5 yX5_fieldCount yX5_fieldCount, Cond.code yX5_fieldCount cX5_fieldCount 2 (some .int), Cond.methodLink RX5 72 yX5_structureColumn, Cond.instanceMethod yX5_structureColumn, Cond.selects RX5 yX5_structureColumn yX5_structureColumn, Cond.code yX5_structureColumn cX5_structureColumn 3 (some .int), Cond.fieldLink RX5 52 "ResourceLedger$Program" "allStructures" "I", Cond.fieldLink RX5 19 "ResourceLedger$Program" "structureRows" "[I", Cond.methodLink RX6 59 yX6_readNumber, Cond.instanceMethod yX6_readNumber, Cond.selects RX6 yX6_readNumber yX6_readNumber, Cond.code yX6_readNumber cX6_readNumber 5 (some .int)]
def wsX6_readInstruction : List Cond := .code yX6_readInstruction cX6_readInstruction 4 none :: ((wsX6_readInstruction_r1 ++ (wsX6_readInstruction_r2 ++ wsX6_readInstruction_r3)) ++ wsX60 ++ wsX50)
def wsX6_readFunctions_r1 : List Cond := [Cond.fieldLink RX6 17 "ResourceLedger$Reader" "p" "LResourceLedger$Program;", Cond.fieldLink RX6 120 "ResourceLedger$Program" "ownFunctions" "I", Cond.fieldLink RX6 21 "ResourceLedger$Reader" "fault" "I", Cond.fieldLink RX6 97 "ResourceLedger$Program" "number" "I", Cond.fieldLink RX6 53 "ResourceLedger$Program" "typeCount" "I", Cond.fieldLink RX6 123 "ResourceLedger$Reader" "locals" "I", Cond.fieldLink RX6 32 "ResourceLedger$Reader" "at" "I", Cond.fieldLink RX6 126 "ResourceLedger$Reader" "instructions" "I", Cond.fieldLink RX6 35 "ResourceLedger$Reader" "told" "I", Cond.fieldLink RX6 129 "ResourceLedger$Program" "startCount" "I", Cond.methodLink RX6 59 yX6_readNumber, Cond.instanceMethod yX6_readNumber, Cond.selects RX6 yX6_readNumber yX6_readNumber, Cond.initialized RX6, Cond.code yX6_readNumber cX6_readNumber 5 (some .int), Cond.methodLink RX6 87 yX6_readByte, Cond.instanceMethod yX6_readByte, Cond.selects RX6 yX6_readByte yX6_readByte, Cond.code yX6_readByte cX6_readByte 1 (some .int), Cond.fieldLink RX6 73 "ResourceLedger$Program" "length" "I", Cond.fieldLink RX6 25 "ResourceLedger$Reader" "place" "I", Cond.fieldLink RX6 83 "ResourceLedger$Program" "bytes" "[B", Cond.methodLink RX6 76 yX6_fail, Cond.instanceMethod yX6_fail]
def wsX6_readFunctions_r2 : List Cond := [Cond.selects RX6 yX6_fail yX6_fail, Cond.code yX6_fail cX6_fail 3 none, Cond.methodLink RX6 113 yX5_setFunction, Cond.instanceMethod yX5_setFunction, Cond.selects RX5 yX5_setFunction yX5_setFunction, Cond.initialized RX5, Cond.code yX5_setFunction cX5_setFunction 4 none, Cond.fieldLink RX5 22 "ResourceLedger$Program" "functionRows" "[I", Cond.methodLink RX6 116 yX6_readList, Cond.instanceMethod yX6_readList, Cond.selects RX6 yX6_readList yX6_readList, Cond.code yX6_readList cX6_readList 3 (some .int), Cond.methodLink RX6 66 yX6_readTypes, Cond.instanceMethod yX6_readTypes, Cond.selects RX6 yX6_readTypes yX6_readTypes, Cond.code yX6_readTypes cX6_readTypes 4 none, Cond.methodLink RX6 135 yX6_readOneType, Cond.instanceMethod yX6_readOneType, Cond.selects RX6 yX6_readOneType yX6_readOneType, Cond.code yX6_readOneType cX6_readOneType 7 (some .long), Cond.fieldLink RX6 28 "ResourceLedger$Reader" "judging" "Z", Cond.fieldLink RX6 103 "ResourceLedger$Program" "allStructures" "I", Cond.methodLink RX6 139 yX5_addType, Cond.instanceMethod yX5_addType]
def wsX6_readFunctions_r3 : List Cond := [Cond.selects RX5 yX5_addType yX5_addType, Cond.code yX5_addType cX5_addType 3 none, Cond.fieldLink RX5 39 "ResourceLedger$Program" "typeCount" "I", Cond.fieldLink RX5 9 "ResourceLedger$Program" "types" "[J", Cond.methodLink RX6 94 yX6_readShort, Cond.instanceMethod yX6_readShort, Cond.selects RX6 yX6_readShort yX6_readShort, Cond.code yX6_readShort cX6_readShort 2 (some .int), Cond.methodLink RX6 132 yX6_readInstruction, Cond.instanceMethod yX6_readInstruction, Cond.selects RX6 yX6_readInstruction yX6_readInstruction, Cond.code yX6_readInstruction cX6_readInstruction 4 none, Cond.fieldLink RX6 110 "ResourceLedger$Program" "foreignFunctions" "I", Cond.fieldLink RX6 63 "ResourceLedger$Program" "elementCount" "I", Cond.methodLink RX6 146 yX5_addStart, Cond.instanceMethod yX5_addStart, Cond.selects RX5 yX5_addStart yX5_addStart, Cond.code yX5_addStart cX5_addStart 2 none, Cond.fieldLink RX5 42 "ResourceLedger$Program" "startCount" "I", Cond.fieldLink RX5 15 "ResourceLedger$Program" "starts" "[I", Cond.methodLink RX6 150 yX6_pass, Cond.instanceMethod yX6_pass, Cond.selects RX6 yX6_pass yX6_pass, Cond.code yX6_pass cX6_pass 3 none]
def wsX6_readFunctions_r4 : List Cond := [Cond.methodLink RX6 143 yX6_readJudged, Cond.instanceMethod yX6_readJudged, Cond.selects RX6 yX6_readJudged yX6_readJudged, Cond.code yX6_readJudged cX6_readJudged 5 (some .int), Cond.methodLink RX6 153 yX6_readOwnStructure, Cond.instanceMethod yX6_readOwnStructure, Cond.selects RX6 yX6_readOwnStructure yX6_readOwnStructure, Cond.code yX6_readOwnStructure cX6_readOwnStructure 3 (some .int), Cond.fieldLink RX6 100 "ResourceLedger$Program" "ownStructures" "I", Cond.methodLink RX6 156 yX5_fieldCount, Cond.instanceMethod yX5_fieldCount, Cond.selects RX5 yX5_fieldCount yX5_fieldCount, Cond.code yX5_fieldCount cX5_fieldCount 2 (some .int), Cond.methodLink RX5 72 yX5_structureColumn, Cond.instanceMethod yX5_structureColumn, Cond.selects RX5 yX5_structureColumn yX5_structureColumn, Cond.code yX5_structureColumn cX5_structureColumn 3 (some .int), Cond.fieldLink RX5 52 "ResourceLedger$Program" "allStructures" "I", Cond.fieldLink RX5 19 "ResourceLedger$Program" "structureRows" "[I"]
def wsX6_readFunctions : List Cond := .code yX6_readFunctions cX6_readFunctions 7 none :: ((wsX6_readFunctions_r1 ++ (wsX6_readFunctions_r2 ++ (wsX6_readFunctions_r3 ++ wsX6_readFunctions_r4))) ++ wsX60 ++ wsX50)
def wsX6_findRound_r1 : List Cond := [Cond.fieldLink RX6 17 "ResourceLedger$Reader" "p" "LResourceLedger$Program;", Cond.fieldLink RX6 100 "ResourceLedger$Program" "ownStructures" "I", Cond.fieldLink RX6 11 "ResourceLedger$Reader" "holds" "[I", Cond.methodLink RX6 156 yX5_fieldCount, Cond.instanceMethod yX5_fieldCount, Cond.selects RX5 yX5_fieldCount yX5_fieldCount, Cond.initialized RX5, Cond.code yX5_fieldCount cX5_fieldCount 2 (some .int), Cond.methodLink RX5 72 yX5_structureColumn, Cond.instanceMethod yX5_structureColumn, Cond.selects RX5 yX5_structureColumn yX5_structureColumn, Cond.code yX5_structureColumn cX5_structureColumn 3 (some .int), Cond.fieldLink RX5 52 "ResourceLedger$Program" "allStructures" "I", Cond.fieldLink RX5 19 "ResourceLedger$Program" "structureRows" "[I", Cond.methodLink RX6 159 yX5_fieldType, Cond.instanceMethod yX5_fieldType, Cond.selects RX5 yX5_fieldType yX5_fieldType, Cond.code yX5_fieldType cX5_fieldType 3 (some .long), Cond.methodLink RX5 65 yX5_typeAt, Cond.instanceMethod yX5_typeAt, Cond.selects RX5 yX5_typeAt yX5_typeAt, Cond.code yX5_typeAt cX5_typeAt 2 (some .long), Cond.fieldLink RX5 39 "ResourceLedger$Program" "typeCount" "I", Cond.fieldLink RX5 9 "ResourceLedger$Program" "types" "[J"]
def wsX6_findRound_r2 : List Cond := [Cond.methodLink RX6 163 yX5_endsInStructure, Cond.static yX5_endsInStructure, Cond.code yX5_endsInStructure cX5_endsInStructure 2 (some .boolean), Cond.constantLong RX5 85 (255), Cond.constantLong RX5 87 (6), Cond.methodLink RX6 167 yX5_structureColumn, Cond.methodLink RX6 76 yX6_fail, Cond.instanceMethod yX6_fail, Cond.selects RX6 yX6_fail yX6_fail, Cond.initialized RX6, Cond.code yX6_fail cX6_fail 3 none, Cond.fieldLink RX6 21 "ResourceLedger$Reader" "fault" "I", Cond.fieldLink RX6 25 "ResourceLedger$Reader" "place" "I"]
def wsX6_findRound : List Cond := .code yX6_findRound cX6_findRound 7 none :: ((wsX6_findRound_r1 ++ wsX6_findRound_r2) ++ wsX60 ++ wsX50)
def wsX6_read_r1 : List Cond := [Cond.fieldLink RX6 17 "ResourceLedger$Reader" "p" "LResourceLedger$Program;", Cond.fieldLink RX6 21 "ResourceLedger$Reader" "fault" "I", Cond.fieldLink RX6 25 "ResourceLedger$Reader" "place" "I", Cond.fieldLink RX6 28 "ResourceLedger$Reader" "judging" "Z", Cond.fieldLink RX6 32 "ResourceLedger$Reader" "at" "I", Cond.fieldLink RX6 35 "ResourceLedger$Reader" "told" "I", Cond.fieldLink RX6 53 "ResourceLedger$Program" "typeCount" "I", Cond.fieldLink RX6 56 "ResourceLedger$Program" "firstElement" "I", Cond.fieldLink RX6 63 "ResourceLedger$Program" "elementCount" "I", Cond.fieldLink RX6 73 "ResourceLedger$Program" "length" "I", Cond.methodLink RX6 38 yX5_clear, Cond.instanceMethod yX5_clear, Cond.selects RX5 yX5_clear yX5_clear, Cond.initialized RX5, Cond.code yX5_clear cX5_clear 1 none, Cond.fieldLink RX5 36 "ResourceLedger$Program" "number" "I", Cond.fieldLink RX5 39 "ResourceLedger$Program" "typeCount" "I", Cond.fieldLink RX5 42 "ResourceLedger$Program" "startCount" "I", Cond.fieldLink RX5 45 "ResourceLedger$Program" "foreignFunctions" "I", Cond.methodLink RX6 41 yX6_readBeginning, Cond.instanceMethod yX6_readBeginning, Cond.selects RX6 yX6_readBeginning yX6_readBeginning, Cond.initialized RX6, Cond.code yX6_readBeginning cX6_readBeginning 3 none]
def wsX6_read_r2 : List Cond := [Cond.fieldLink RX6 91 "ResourceLedger$Program" "COIN_BYTES" "[B", Cond.fieldLink RX6 97 "ResourceLedger$Program" "number" "I", Cond.methodLink RX6 87 yX6_readByte, Cond.instanceMethod yX6_readByte, Cond.selects RX6 yX6_readByte yX6_readByte, Cond.code yX6_readByte cX6_readByte 1 (some .int), Cond.fieldLink RX6 83 "ResourceLedger$Program" "bytes" "[B", Cond.methodLink RX6 76 yX6_fail, Cond.instanceMethod yX6_fail, Cond.selects RX6 yX6_fail yX6_fail, Cond.code yX6_fail cX6_fail 3 none, Cond.methodLink RX6 94 yX6_readShort, Cond.instanceMethod yX6_readShort, Cond.selects RX6 yX6_readShort yX6_readShort, Cond.code yX6_readShort cX6_readShort 2 (some .int), Cond.methodLink RX6 44 yX6_readStructures, Cond.instanceMethod yX6_readStructures, Cond.selects RX6 yX6_readStructures yX6_readStructures, Cond.code yX6_readStructures cX6_readStructures 3 none, Cond.fieldLink RX6 100 "ResourceLedger$Program" "ownStructures" "I", Cond.fieldLink RX6 103 "ResourceLedger$Program" "allStructures" "I", Cond.methodLink RX6 59 yX6_readNumber, Cond.instanceMethod yX6_readNumber, Cond.selects RX6 yX6_readNumber yX6_readNumber]
def wsX6_read_r3 : List Cond := [Cond.code yX6_readNumber cX6_readNumber 5 (some .int), Cond.methodLink RX6 106 yX5_setStructure, Cond.instanceMethod yX5_setStructure, Cond.selects RX5 yX5_setStructure yX5_setStructure, Cond.code yX5_setStructure cX5_setStructure 4 none, Cond.fieldLink RX5 19 "ResourceLedger$Program" "structureRows" "[I", Cond.methodLink RX6 66 yX6_readTypes, Cond.instanceMethod yX6_readTypes, Cond.selects RX6 yX6_readTypes yX6_readTypes, Cond.code yX6_readTypes cX6_readTypes 4 none, Cond.methodLink RX6 135 yX6_readOneType, Cond.instanceMethod yX6_readOneType, Cond.selects RX6 yX6_readOneType yX6_readOneType, Cond.code yX6_readOneType cX6_readOneType 7 (some .long), Cond.methodLink RX6 139 yX5_addType, Cond.instanceMethod yX5_addType, Cond.selects RX5 yX5_addType yX5_addType, Cond.code yX5_addType cX5_addType 3 none, Cond.fieldLink RX5 9 "ResourceLedger$Program" "types" "[J", Cond.methodLink RX6 47 yX6_readForeignStructures, Cond.instanceMethod yX6_readForeignStructures, Cond.selects RX6 yX6_readForeignStructures yX6_readForeignStructures, Cond.code yX6_readForeignStructures cX6_readForeignStructures 3 none, Cond.methodLink RX6 50 yX6_readForeignFunctions]
def wsX6_read_r4 : List Cond := [Cond.instanceMethod yX6_readForeignFunctions, Cond.selects RX6 yX6_readForeignFunctions yX6_readForeignFunctions, Cond.code yX6_readForeignFunctions cX6_readForeignFunctions 3 none, Cond.fieldLink RX6 110 "ResourceLedger$Program" "foreignFunctions" "I", Cond.methodLink RX6 113 yX5_setFunction, Cond.instanceMethod yX5_setFunction, Cond.selects RX5 yX5_setFunction yX5_setFunction, Cond.code yX5_setFunction cX5_setFunction 4 none, Cond.fieldLink RX5 22 "ResourceLedger$Program" "functionRows" "[I", Cond.methodLink RX6 116 yX6_readList, Cond.instanceMethod yX6_readList, Cond.selects RX6 yX6_readList yX6_readList, Cond.code yX6_readList cX6_readList 3 (some .int), Cond.methodLink RX6 70 yX6_readFunctions, Cond.instanceMethod yX6_readFunctions, Cond.selects RX6 yX6_readFunctions yX6_readFunctions, Cond.code yX6_readFunctions cX6_readFunctions 7 none, Cond.fieldLink RX6 120 "ResourceLedger$Program" "ownFunctions" "I", Cond.fieldLink RX6 123 "ResourceLedger$Reader" "locals" "I", Cond.fieldLink RX6 126 "ResourceLedger$Reader" "instructions" "I", Cond.fieldLink RX6 129 "ResourceLedger$Program" "startCount" "I", Cond.methodLink RX6 132 yX6_readInstruction, Cond.instanceMethod yX6_readInstruction, Cond.selects RX6 yX6_readInstruction yX6_readInstruction]
def wsX6_read_r5 : List Cond := [Cond.code yX6_readInstruction cX6_readInstruction 4 none, Cond.methodLink RX6 146 yX5_addStart, Cond.instanceMethod yX5_addStart, Cond.selects RX5 yX5_addStart yX5_addStart, Cond.code yX5_addStart cX5_addStart 2 none, Cond.fieldLink RX5 15 "ResourceLedger$Program" "starts" "[I", Cond.methodLink RX6 150 yX6_pass, Cond.instanceMethod yX6_pass, Cond.selects RX6 yX6_pass yX6_pass, Cond.code yX6_pass cX6_pass 3 none, Cond.methodLink RX6 143 yX6_readJudged, Cond.instanceMethod yX6_readJudged, Cond.selects RX6 yX6_readJudged yX6_readJudged, Cond.code yX6_readJudged cX6_readJudged 5 (some .int), Cond.methodLink RX6 153 yX6_readOwnStructure, Cond.instanceMethod yX6_readOwnStructure, Cond.selects RX6 yX6_readOwnStructure yX6_readOwnStructure, Cond.code yX6_readOwnStructure cX6_readOwnStructure 3 (some .int), Cond.methodLink RX6 156 yX5_fieldCount, Cond.instanceMethod yX5_fieldCount, Cond.selects RX5 yX5_fieldCount yX5_fieldCount, Cond.code yX5_fieldCount cX5_fieldCount 2 (some .int), Cond.methodLink RX5 72 yX5_structureColumn, Cond.instanceMethod yX5_structureColumn]
def wsX6_read_r6 : List Cond := [Cond.selects RX5 yX5_structureColumn yX5_structureColumn, Cond.code yX5_structureColumn cX5_structureColumn 3 (some .int), Cond.fieldLink RX5 52 "ResourceLedger$Program" "allStructures" "I", Cond.methodLink RX6 80 yX6_findRound, Cond.instanceMethod yX6_findRound, Cond.selects RX6 yX6_findRound yX6_findRound, Cond.code yX6_findRound cX6_findRound 7 none, Cond.fieldLink RX6 11 "ResourceLedger$Reader" "holds" "[I", Cond.methodLink RX6 159 yX5_fieldType, Cond.instanceMethod yX5_fieldType, Cond.selects RX5 yX5_fieldType yX5_fieldType, Cond.code yX5_fieldType cX5_fieldType 3 (some .long), Cond.methodLink RX5 65 yX5_typeAt, Cond.instanceMethod yX5_typeAt, Cond.selects RX5 yX5_typeAt yX5_typeAt, Cond.code yX5_typeAt cX5_typeAt 2 (some .long), Cond.methodLink RX6 163 yX5_endsInStructure, Cond.static yX5_endsInStructure, Cond.code yX5_endsInStructure cX5_endsInStructure 2 (some .boolean), Cond.constantLong RX5 85 (255), Cond.constantLong RX5 87 (6), Cond.methodLink RX6 167 yX5_structureColumn]
def wsX6_read : List Cond := .code yX6_read cX6_read 3 (some .int) :: ((wsX6_read_r1 ++ (wsX6_read_r2 ++ (wsX6_read_r3 ++ (wsX6_read_r4 ++ (wsX6_read_r5 ++ wsX6_read_r6))))) ++ wsX60 ++ wsX50)
set_option maxRecDepth 20000 in
theorem ggX5_lay_X5_clear : GoodIn wsX5_lay wsX5_clear := goodIn_r _ [7, 8, 9, 10, 11, 12, 13, 14, 15, 16, 17, 18, 19, 20, 21, 22, 23, 24, 25, 26] rfl (by decide +kernel)
set_option maxRecDepth 20000 in
theorem gX5_lay_X5_clear : GoodIn wsX5_lay (wsV RX5 33 RX5 yX5_clear wsX5_clear) := goodIn_app (goodIn_of _ (by decide +kernel)) ggX5_lay_X5_clear
theorem dX5_lay_0 : decode cX5_lay 0 = .ok (.aload_n 0, 1) := by decide +kernel
theorem dX5_lay_1 : decode cX5_lay 1 = .ok (.aload_n 1, 1) := by decide +kernel
theorem dX5_lay_2 : decode cX5_lay 2 = .ok (.putfield 25, 3) := by decide +kernel
theorem dX5_lay_5 : decode cX5_lay 5 = .ok (.aload_n 0, 1) := by decide +kernel
theorem dX5_lay_6 : decode cX5_lay 6 = .ok (.aload_n 1, 1) := by decide +kernel
theorem dX5_lay_7 : decode cX5_lay 7 = .ok (.arraylength, 1) := by decide +kernel
theorem dX5_lay_8 : decode cX5_lay 8 = .ok (.putfield 29, 3) := by decide +kernel
theorem dX5_lay_11 : decode cX5_lay 11 = .ok (.aload_n 0, 1) := by decide +kernel
theorem dX5_lay_12 : decode cX5_lay 12 = .ok (.invokevirtual 33, 3) := by decide +kernel
theorem dX5_lay_15 : decode cX5_lay 15 = .ok (.return_, 1) := by decide +kernel
theorem dX5_clear_0 : decode cX5_clear 0 = .ok (.aload_n 0, 1) := by decide +kernel
theorem dX5_clear_1 : decode cX5_clear 1 = .ok (.iconst 0, 1) := by decide +kernel
theorem dX5_clear_2 : decode cX5_clear 2 = .ok (.putfield 36, 3) := by decide +kernel
theorem dX5_clear_5 : decode cX5_clear 5 = .ok (.aload_n 0, 1) := by decide +kernel
theorem dX5_clear_6 : decode cX5_clear 6 = .ok (.iconst 0, 1) := by decide +kernel
theorem dX5_clear_7 : decode cX5_clear 7 = .ok (.putfield 39, 3) := by decide +kernel
theorem dX5_clear_10 : decode cX5_clear 10 = .ok (.aload_n 0, 1) := by decide +kernel
theorem dX5_clear_11 : decode cX5_clear 11 = .ok (.iconst 0, 1) := by decide +kernel
theorem dX5_clear_12 : decode cX5_clear 12 = .ok (.putfield 42, 3) := by decide +kernel
theorem dX5_clear_15 : decode cX5_clear 15 = .ok (.aload_n 0, 1) := by decide +kernel
theorem dX5_clear_16 : decode cX5_clear 16 = .ok (.iconst 0, 1) := by decide +kernel
theorem dX5_clear_17 : decode cX5_clear 17 = .ok (.putfield 45, 3) := by decide +kernel
theorem dX5_clear_20 : decode cX5_clear 20 = .ok (.return_, 1) := by decide +kernel
theorem dX5_addType_0 : decode cX5_addType 0 = .ok (.aload_n 0, 1) := by decide +kernel
theorem dX5_addType_1 : decode cX5_addType 1 = .ok (.getfield 39, 3) := by decide +kernel
theorem dX5_addType_4 : decode cX5_addType 4 = .ok (.aload_n 0, 1) := by decide +kernel
theorem dX5_addType_5 : decode cX5_addType 5 = .ok (.getfield 9, 3) := by decide +kernel
theorem dX5_addType_8 : decode cX5_addType 8 = .ok (.arraylength, 1) := by decide +kernel
theorem dX5_addType_9 : decode cX5_addType 9 = .ok (.if_icmp .ge 20, 3) := by decide +kernel
theorem dX5_addType_12 : decode cX5_addType 12 = .ok (.aload_n 0, 1) := by decide +kernel
theorem dX5_addType_13 : decode cX5_addType 13 = .ok (.getfield 9, 3) := by decide +kernel
theorem dX5_addType_16 : decode cX5_addType 16 = .ok (.aload_n 0, 1) := by decide +kernel
theorem dX5_addType_17 : decode cX5_addType 17 = .ok (.dup, 1) := by decide +kernel
theorem dX5_addType_18 : decode cX5_addType 18 = .ok (.getfield 39, 3) := by decide +kernel
theorem dX5_addType_21 : decode cX5_addType 21 = .ok (.dup_x1, 1) := by decide +kernel
theorem dX5_addType_22 : decode cX5_addType 22 = .ok (.iconst 1, 1) := by decide +kernel
theorem dX5_addType_23 : decode cX5_addType 23 = .ok (.iadd, 1) := by decide +kernel
theorem dX5_addType_24 : decode cX5_addType 24 = .ok (.putfield 39, 3) := by decide +kernel
theorem dX5_addType_27 : decode cX5_addType 27 = .ok (.lload_n 1, 1) := by decide +kernel
theorem dX5_addType_28 : decode cX5_addType 28 = .ok (.lastore, 1) := by decide +kernel
theorem dX5_addType_29 : decode cX5_addType 29 = .ok (.return_, 1) := by decide +kernel
theorem dX5_addStart_0 : decode cX5_addStart 0 = .ok (.aload_n 0, 1) := by decide +kernel
theorem dX5_addStart_1 : decode cX5_addStart 1 = .ok (.getfield 42, 3) := by decide +kernel
theorem dX5_addStart_4 : decode cX5_addStart 4 = .ok (.aload_n 0, 1) := by decide +kernel
theorem dX5_addStart_5 : decode cX5_addStart 5 = .ok (.getfield 15, 3) := by decide +kernel
theorem dX5_addStart_8 : decode cX5_addStart 8 = .ok (.arraylength, 1) := by decide +kernel
theorem dX5_addStart_9 : decode cX5_addStart 9 = .ok (.if_icmp .ge 20, 3) := by decide +kernel
theorem dX5_addStart_12 : decode cX5_addStart 12 = .ok (.aload_n 0, 1) := by decide +kernel
theorem dX5_addStart_13 : decode cX5_addStart 13 = .ok (.getfield 15, 3) := by decide +kernel
theorem dX5_addStart_16 : decode cX5_addStart 16 = .ok (.aload_n 0, 1) := by decide +kernel
theorem dX5_addStart_17 : decode cX5_addStart 17 = .ok (.dup, 1) := by decide +kernel
theorem dX5_addStart_18 : decode cX5_addStart 18 = .ok (.getfield 42, 3) := by decide +kernel
theorem dX5_addStart_21 : decode cX5_addStart 21 = .ok (.dup_x1, 1) := by decide +kernel
theorem dX5_addStart_22 : decode cX5_addStart 22 = .ok (.iconst 1, 1) := by decide +kernel
theorem dX5_addStart_23 : decode cX5_addStart 23 = .ok (.iadd, 1) := by decide +kernel
theorem dX5_addStart_24 : decode cX5_addStart 24 = .ok (.putfield 42, 3) := by decide +kernel
theorem dX5_addStart_27 : decode cX5_addStart 27 = .ok (.iload_n 1, 1) := by decide +kernel
theorem dX5_addStart_28 : decode cX5_addStart 28 = .ok (.iastore, 1) := by decide +kernel
theorem dX5_addStart_29 : decode cX5_addStart 29 = .ok (.return_, 1) := by decide +kernel
theorem dX5_typeAt_0 : decode cX5_typeAt 0 = .ok (.iload_n 1, 1) := by decide +kernel
theorem dX5_typeAt_1 : decode cX5_typeAt 1 = .ok (.ifCond .lt 11, 3) := by decide +kernel
theorem dX5_typeAt_4 : decode cX5_typeAt 4 = .ok (.iload_n 1, 1) := by decide +kernel
theorem dX5_typeAt_5 : decode cX5_typeAt 5 = .ok (.aload_n 0, 1) := by decide +kernel
theorem dX5_typeAt_6 : decode cX5_typeAt 6 = .ok (.getfield 39, 3) := by decide +kernel
theorem dX5_typeAt_9 : decode cX5_typeAt 9 = .ok (.if_icmp .lt 7, 3) := by decide +kernel
theorem dX5_typeAt_12 : decode cX5_typeAt 12 = .ok (.lconst 0, 1) := by decide +kernel
theorem dX5_typeAt_13 : decode cX5_typeAt 13 = .ok (.goto 9, 3) := by decide +kernel
theorem dX5_typeAt_16 : decode cX5_typeAt 16 = .ok (.aload_n 0, 1) := by decide +kernel
theorem dX5_typeAt_17 : decode cX5_typeAt 17 = .ok (.getfield 9, 3) := by decide +kernel
theorem dX5_typeAt_20 : decode cX5_typeAt 20 = .ok (.iload_n 1, 1) := by decide +kernel
theorem dX5_typeAt_21 : decode cX5_typeAt 21 = .ok (.laload, 1) := by decide +kernel
theorem dX5_typeAt_22 : decode cX5_typeAt 22 = .ok (.lreturn, 1) := by decide +kernel
theorem dX5_structureColumn_0 : decode cX5_structureColumn 0 = .ok (.iload_n 1, 1) := by decide +kernel
theorem dX5_structureColumn_1 : decode cX5_structureColumn 1 = .ok (.ifCond .lt 11, 3) := by decide +kernel
theorem dX5_structureColumn_4 : decode cX5_structureColumn 4 = .ok (.iload_n 1, 1) := by decide +kernel
theorem dX5_structureColumn_5 : decode cX5_structureColumn 5 = .ok (.aload_n 0, 1) := by decide +kernel
theorem dX5_structureColumn_6 : decode cX5_structureColumn 6 = .ok (.getfield 52, 3) := by decide +kernel
theorem dX5_structureColumn_9 : decode cX5_structureColumn 9 = .ok (.if_icmp .lt 7, 3) := by decide +kernel
theorem dX5_structureColumn_12 : decode cX5_structureColumn 12 = .ok (.iconst 0, 1) := by decide +kernel
theorem dX5_structureColumn_13 : decode cX5_structureColumn 13 = .ok (.goto 14, 3) := by decide +kernel
theorem dX5_structureColumn_16 : decode cX5_structureColumn 16 = .ok (.aload_n 0, 1) := by decide +kernel
theorem dX5_structureColumn_17 : decode cX5_structureColumn 17 = .ok (.getfield 19, 3) := by decide +kernel
theorem dX5_structureColumn_20 : decode cX5_structureColumn 20 = .ok (.iload_n 1, 1) := by decide +kernel
theorem dX5_structureColumn_21 : decode cX5_structureColumn 21 = .ok (.bipush 7, 2) := by decide +kernel
theorem dX5_structureColumn_23 : decode cX5_structureColumn 23 = .ok (.imul, 1) := by decide +kernel
theorem dX5_structureColumn_24 : decode cX5_structureColumn 24 = .ok (.iload_n 2, 1) := by decide +kernel
theorem dX5_structureColumn_25 : decode cX5_structureColumn 25 = .ok (.iadd, 1) := by decide +kernel
theorem dX5_structureColumn_26 : decode cX5_structureColumn 26 = .ok (.iaload, 1) := by decide +kernel
theorem dX5_structureColumn_27 : decode cX5_structureColumn 27 = .ok (.ireturn, 1) := by decide +kernel
theorem dX5_setStructure_0 : decode cX5_setStructure 0 = .ok (.iload_n 1, 1) := by decide +kernel
theorem dX5_setStructure_1 : decode cX5_setStructure 1 = .ok (.ifCond .lt 21, 3) := by decide +kernel
theorem dX5_setStructure_4 : decode cX5_setStructure 4 = .ok (.iload_n 1, 1) := by decide +kernel
theorem dX5_setStructure_5 : decode cX5_setStructure 5 = .ok (.bipush 64, 2) := by decide +kernel
theorem dX5_setStructure_7 : decode cX5_setStructure 7 = .ok (.if_icmp .ge 15, 3) := by decide +kernel
theorem dX5_setStructure_10 : decode cX5_setStructure 10 = .ok (.aload_n 0, 1) := by decide +kernel
theorem dX5_setStructure_11 : decode cX5_setStructure 11 = .ok (.getfield 19, 3) := by decide +kernel
theorem dX5_setStructure_14 : decode cX5_setStructure 14 = .ok (.iload_n 1, 1) := by decide +kernel
theorem dX5_setStructure_15 : decode cX5_setStructure 15 = .ok (.bipush 7, 2) := by decide +kernel
theorem dX5_setStructure_17 : decode cX5_setStructure 17 = .ok (.imul, 1) := by decide +kernel
theorem dX5_setStructure_18 : decode cX5_setStructure 18 = .ok (.iload_n 2, 1) := by decide +kernel
theorem dX5_setStructure_19 : decode cX5_setStructure 19 = .ok (.iadd, 1) := by decide +kernel
theorem dX5_setStructure_20 : decode cX5_setStructure 20 = .ok (.iload_n 3, 1) := by decide +kernel
theorem dX5_setStructure_21 : decode cX5_setStructure 21 = .ok (.iastore, 1) := by decide +kernel
theorem dX5_setStructure_22 : decode cX5_setStructure 22 = .ok (.return_, 1) := by decide +kernel
theorem dX5_setFunction_0 : decode cX5_setFunction 0 = .ok (.iload_n 1, 1) := by decide +kernel
theorem dX5_setFunction_1 : decode cX5_setFunction 1 = .ok (.ifCond .lt 21, 3) := by decide +kernel
theorem dX5_setFunction_4 : decode cX5_setFunction 4 = .ok (.iload_n 1, 1) := by decide +kernel
theorem dX5_setFunction_5 : decode cX5_setFunction 5 = .ok (.bipush 96, 2) := by decide +kernel
theorem dX5_setFunction_7 : decode cX5_setFunction 7 = .ok (.if_icmp .ge 15, 3) := by decide +kernel
theorem dX5_setFunction_10 : decode cX5_setFunction 10 = .ok (.aload_n 0, 1) := by decide +kernel
theorem dX5_setFunction_11 : decode cX5_setFunction 11 = .ok (.getfield 22, 3) := by decide +kernel
theorem dX5_setFunction_14 : decode cX5_setFunction 14 = .ok (.iload_n 1, 1) := by decide +kernel
theorem dX5_setFunction_15 : decode cX5_setFunction 15 = .ok (.bipush 9, 2) := by decide +kernel
theorem dX5_setFunction_17 : decode cX5_setFunction 17 = .ok (.imul, 1) := by decide +kernel
theorem dX5_setFunction_18 : decode cX5_setFunction 18 = .ok (.iload_n 2, 1) := by decide +kernel
theorem dX5_setFunction_19 : decode cX5_setFunction 19 = .ok (.iadd, 1) := by decide +kernel
theorem dX5_setFunction_20 : decode cX5_setFunction 20 = .ok (.iload_n 3, 1) := by decide +kernel
theorem dX5_setFunction_21 : decode cX5_setFunction 21 = .ok (.iastore, 1) := by decide +kernel
theorem dX5_setFunction_22 : decode cX5_setFunction 22 = .ok (.return_, 1) := by decide +kernel
set_option maxRecDepth 20000 in
theorem ggX5_fieldCount_X5_structureColumn : GoodIn wsX5_fieldCount wsX5_structureColumn := goodIn_r _ [5, 6, 7, 8, 9, 10, 11, 12, 13, 14, 15, 16, 17, 18, 19, 20, 21, 22] rfl (by decide +kernel)
set_option maxRecDepth 20000 in
theorem gX5_fieldCount_X5_structureColumn : GoodIn wsX5_fieldCount (wsV RX5 72 RX5 yX5_structureColumn wsX5_structureColumn) := goodIn_app (goodIn_of _ (by decide +kernel)) ggX5_fieldCount_X5_structureColumn
theorem dX5_fieldCount_0 : decode cX5_fieldCount 0 = .ok (.aload_n 0, 1) := by decide +kernel
theorem dX5_fieldCount_1 : decode cX5_fieldCount 1 = .ok (.iload_n 1, 1) := by decide +kernel
theorem dX5_fieldCount_2 : decode cX5_fieldCount 2 = .ok (.iconst 3, 1) := by decide +kernel
theorem dX5_fieldCount_3 : decode cX5_fieldCount 3 = .ok (.invokevirtual 72, 3) := by decide +kernel
theorem dX5_fieldCount_6 : decode cX5_fieldCount 6 = .ok (.ireturn, 1) := by decide +kernel
set_option maxRecDepth 20000 in
theorem ggX5_fieldType_X5_structureColumn : GoodIn wsX5_fieldType wsX5_structureColumn := goodIn_r _ [5, 6, 7, 14, 15, 16, 17, 18, 19, 20, 21, 22, 23, 24, 25, 26, 27, 28] rfl (by decide +kernel)
set_option maxRecDepth 20000 in
theorem gX5_fieldType_X5_structureColumn : GoodIn wsX5_fieldType (wsV RX5 72 RX5 yX5_structureColumn wsX5_structureColumn) := goodIn_app (goodIn_of _ (by decide +kernel)) ggX5_fieldType_X5_structureColumn
set_option maxRecDepth 20000 in
theorem ggX5_fieldType_X5_typeAt : GoodIn wsX5_fieldType wsX5_typeAt := goodIn_r _ [11, 12, 13, 14, 15, 16, 17, 18, 19, 20, 21, 22, 23, 24, 25, 26, 27, 28] rfl (by decide +kernel)
set_option maxRecDepth 20000 in
theorem gX5_fieldType_X5_typeAt : GoodIn wsX5_fieldType (wsV RX5 65 RX5 yX5_typeAt wsX5_typeAt) := goodIn_app (goodIn_of _ (by decide +kernel)) ggX5_fieldType_X5_typeAt
theorem dX5_fieldType_0 : decode cX5_fieldType 0 = .ok (.aload_n 0, 1) := by decide +kernel
theorem dX5_fieldType_1 : decode cX5_fieldType 1 = .ok (.aload_n 0, 1) := by decide +kernel
theorem dX5_fieldType_2 : decode cX5_fieldType 2 = .ok (.iload_n 1, 1) := by decide +kernel
theorem dX5_fieldType_3 : decode cX5_fieldType 3 = .ok (.iconst 2, 1) := by decide +kernel
theorem dX5_fieldType_4 : decode cX5_fieldType 4 = .ok (.invokevirtual 72, 3) := by decide +kernel
theorem dX5_fieldType_7 : decode cX5_fieldType 7 = .ok (.iload_n 2, 1) := by decide +kernel
theorem dX5_fieldType_8 : decode cX5_fieldType 8 = .ok (.iadd, 1) := by decide +kernel
theorem dX5_fieldType_9 : decode cX5_fieldType 9 = .ok (.invokevirtual 65, 3) := by decide +kernel
theorem dX5_fieldType_12 : decode cX5_fieldType 12 = .ok (.lreturn, 1) := by decide +kernel
theorem dX5_headShift_0 : decode cX5_headShift 0 = .ok (.bipush 56, 2) := by decide +kernel
theorem dX5_headShift_2 : decode cX5_headShift 2 = .ok (.istore_n 2, 1) := by decide +kernel
theorem dX5_headShift_3 : decode cX5_headShift 3 = .ok (.iload_n 2, 1) := by decide +kernel
theorem dX5_headShift_4 : decode cX5_headShift 4 = .ok (.ifCond .le 17, 3) := by decide +kernel
theorem dX5_headShift_7 : decode cX5_headShift 7 = .ok (.lload_n 0, 1) := by decide +kernel
theorem dX5_headShift_8 : decode cX5_headShift 8 = .ok (.iload_n 2, 1) := by decide +kernel
theorem dX5_headShift_9 : decode cX5_headShift 9 = .ok (.lushr, 1) := by decide +kernel
theorem dX5_headShift_10 : decode cX5_headShift 10 = .ok (.lconst 0, 1) := by decide +kernel
theorem dX5_headShift_11 : decode cX5_headShift 11 = .ok (.lcmp, 1) := by decide +kernel
theorem dX5_headShift_12 : decode cX5_headShift 12 = .ok (.ifCond .ne 9, 3) := by decide +kernel
theorem dX5_headShift_15 : decode cX5_headShift 15 = .ok (.iinc 2 (-8), 3) := by decide +kernel
theorem dX5_headShift_18 : decode cX5_headShift 18 = .ok (.goto (-15), 3) := by decide +kernel
theorem dX5_headShift_21 : decode cX5_headShift 21 = .ok (.iload_n 2, 1) := by decide +kernel
theorem dX5_headShift_22 : decode cX5_headShift 22 = .ok (.ireturn, 1) := by decide +kernel
theorem dX5_endsInStructure_0 : decode cX5_endsInStructure 0 = .ok (.lload_n 0, 1) := by decide +kernel
theorem dX5_endsInStructure_1 : decode cX5_endsInStructure 1 = .ok (.bipush 8, 2) := by decide +kernel
theorem dX5_endsInStructure_3 : decode cX5_endsInStructure 3 = .ok (.lushr, 1) := by decide +kernel
theorem dX5_endsInStructure_4 : decode cX5_endsInStructure 4 = .ok (.ldc2_w 85, 3) := by decide +kernel
theorem dX5_endsInStructure_7 : decode cX5_endsInStructure 7 = .ok (.land, 1) := by decide +kernel
theorem dX5_endsInStructure_8 : decode cX5_endsInStructure 8 = .ok (.ldc2_w 87, 3) := by decide +kernel
theorem dX5_endsInStructure_11 : decode cX5_endsInStructure 11 = .ok (.lcmp, 1) := by decide +kernel
theorem dX5_endsInStructure_12 : decode cX5_endsInStructure 12 = .ok (.ifCond .ne 7, 3) := by decide +kernel
theorem dX5_endsInStructure_15 : decode cX5_endsInStructure 15 = .ok (.iconst 1, 1) := by decide +kernel
theorem dX5_endsInStructure_16 : decode cX5_endsInStructure 16 = .ok (.goto 4, 3) := by decide +kernel
theorem dX5_endsInStructure_19 : decode cX5_endsInStructure 19 = .ok (.iconst 0, 1) := by decide +kernel
theorem dX5_endsInStructure_20 : decode cX5_endsInStructure 20 = .ok (.ireturn, 1) := by decide +kernel
set_option maxRecDepth 20000 in
theorem ggX5_measure_X5_structureColumn : GoodIn wsX5_measure wsX5_structureColumn := goodIn_r _ [11, 1, 12, 52, 53, 54, 55, 56, 57, 58, 59, 60, 61, 62, 63, 64, 65, 66] rfl (by decide +kernel)
set_option maxRecDepth 20000 in
theorem gX5_measure_X5_structureColumn : GoodIn wsX5_measure (wsV RX5 72 RX5 yX5_structureColumn wsX5_structureColumn) := goodIn_app (goodIn_of _ (by decide +kernel)) ggX5_measure_X5_structureColumn
set_option maxRecDepth 20000 in
theorem ggX5_measure_X5_setStructure : GoodIn wsX5_measure wsX5_setStructure := goodIn_r _ [24, 12, 52, 53, 54, 55, 56, 57, 58, 59, 60, 61, 62, 63, 64, 65, 66] rfl (by decide +kernel)
set_option maxRecDepth 20000 in
theorem gX5_measure_X5_setStructure : GoodIn wsX5_measure (wsV RX5 131 RX5 yX5_setStructure wsX5_setStructure) := goodIn_app (goodIn_of _ (by decide +kernel)) ggX5_measure_X5_setStructure
set_option maxRecDepth 20000 in
theorem ggX5_measure_X5_fieldCount : GoodIn wsX5_measure wsX5_fieldCount := goodIn_r _ [28, 7, 8, 9, 10, 11, 1, 12, 52, 53, 54, 55, 56, 57, 58, 59, 60, 61, 62, 63, 64, 65, 66] rfl (by decide +kernel)
set_option maxRecDepth 20000 in
theorem gX5_measure_X5_fieldCount : GoodIn wsX5_measure (wsV RX5 122 RX5 yX5_fieldCount wsX5_fieldCount) := goodIn_app (goodIn_of _ (by decide +kernel)) ggX5_measure_X5_fieldCount
set_option maxRecDepth 20000 in
theorem ggX5_measure_X5_fieldType : GoodIn wsX5_measure wsX5_fieldType := goodIn_r _ [32, 7, 8, 9, 10, 11, 1, 12, 33, 34, 35, 36, 37, 38, 52, 53, 54, 55, 56, 57, 58, 59, 60, 61, 62, 63, 64, 65, 66] rfl (by decide +kernel)
set_option maxRecDepth 20000 in
theorem gX5_measure_X5_fieldType : GoodIn wsX5_measure (wsV RX5 125 RX5 yX5_fieldType wsX5_fieldType) := goodIn_app (goodIn_of _ (by decide +kernel)) ggX5_measure_X5_fieldType
set_option maxRecDepth 20000 in
theorem ggX5_measure_X5_depthOf : GoodIn wsX5_measure wsX5_depthOf := goodIn_r _ [42, 43, 44, 45, 46, 10, 47, 48, 7, 8, 9, 11, 1, 12, 49, 50, 51, 52, 53, 54, 55, 56, 57, 58, 59, 60, 61, 62, 63, 64, 65, 66] rfl (by decide +kernel)
set_option maxRecDepth 20000 in
theorem gX5_measure_X5_depthOf : GoodIn wsX5_measure (wsV RX5 135 RX5 yX5_depthOf wsX5_depthOf) := goodIn_app (goodIn_of _ (by decide +kernel)) ggX5_measure_X5_depthOf
theorem dX5_measure_0 : decode cX5_measure 0 = .ok (.iconst 0, 1) := by decide +kernel
theorem dX5_measure_1 : decode cX5_measure 1 = .ok (.istore_n 2, 1) := by decide +kernel
theorem dX5_measure_2 : decode cX5_measure 2 = .ok (.iload_n 2, 1) := by decide +kernel
theorem dX5_measure_3 : decode cX5_measure 3 = .ok (.aload_n 0, 1) := by decide +kernel
theorem dX5_measure_4 : decode cX5_measure 4 = .ok (.getfield 52, 3) := by decide +kernel
theorem dX5_measure_7 : decode cX5_measure 7 = .ok (.if_icmp .ge 59, 3) := by decide +kernel
theorem dX5_measure_10 : decode cX5_measure 10 = .ok (.iload_n 2, 1) := by decide +kernel
theorem dX5_measure_11 : decode cX5_measure 11 = .ok (.aload_n 0, 1) := by decide +kernel
theorem dX5_measure_12 : decode cX5_measure 12 = .ok (.getfield 99, 3) := by decide +kernel
theorem dX5_measure_15 : decode cX5_measure 15 = .ok (.if_icmp .ge 7, 3) := by decide +kernel
theorem dX5_measure_18 : decode cX5_measure 18 = .ok (.aconst_null, 1) := by decide +kernel
theorem dX5_measure_19 : decode cX5_measure 19 = .ok (.goto 13, 3) := by decide +kernel
theorem dX5_measure_22 : decode cX5_measure 22 = .ok (.aload_n 1, 1) := by decide +kernel
theorem dX5_measure_23 : decode cX5_measure 23 = .ok (.aload_n 0, 1) := by decide +kernel
theorem dX5_measure_24 : decode cX5_measure 24 = .ok (.iload_n 2, 1) := by decide +kernel
theorem dX5_measure_25 : decode cX5_measure 25 = .ok (.iconst 4, 1) := by decide +kernel
theorem dX5_measure_26 : decode cX5_measure 26 = .ok (.invokevirtual 72, 3) := by decide +kernel
theorem dX5_measure_29 : decode cX5_measure 29 = .ok (.invokevirtual 102, 3) := by decide +kernel
theorem dX5_measure_32 : decode cX5_measure 32 = .ok (.astore_n 3, 1) := by decide +kernel
theorem dX5_measure_33 : decode cX5_measure 33 = .ok (.aload_n 0, 1) := by decide +kernel
theorem dX5_measure_34 : decode cX5_measure 34 = .ok (.iload_n 2, 1) := by decide +kernel
theorem dX5_measure_35 : decode cX5_measure 35 = .ok (.bipush 6, 2) := by decide +kernel
theorem dX5_measure_37 : decode cX5_measure 37 = .ok (.aload_n 3, 1) := by decide +kernel
theorem dX5_measure_38 : decode cX5_measure 38 = .ok (.ifnonnull 7, 3) := by decide +kernel
theorem dX5_measure_41 : decode cX5_measure 41 = .ok (.iconst 0, 1) := by decide +kernel
theorem dX5_measure_42 : decode cX5_measure 42 = .ok (.goto 15, 3) := by decide +kernel
theorem dX5_measure_45 : decode cX5_measure 45 = .ok (.aload_n 3, 1) := by decide +kernel
theorem dX5_measure_46 : decode cX5_measure 46 = .ok (.aload_n 0, 1) := by decide +kernel
theorem dX5_measure_47 : decode cX5_measure 47 = .ok (.iload_n 2, 1) := by decide +kernel
theorem dX5_measure_48 : decode cX5_measure 48 = .ok (.iconst 5, 1) := by decide +kernel
theorem dX5_measure_49 : decode cX5_measure 49 = .ok (.invokevirtual 72, 3) := by decide +kernel
theorem dX5_measure_52 : decode cX5_measure 52 = .ok (.bipush 6, 2) := by decide +kernel
theorem dX5_measure_54 : decode cX5_measure 54 = .ok (.invokevirtual 72, 3) := by decide +kernel
theorem dX5_measure_57 : decode cX5_measure 57 = .ok (.invokevirtual 131, 3) := by decide +kernel
theorem dX5_measure_60 : decode cX5_measure 60 = .ok (.iinc 2 1, 3) := by decide +kernel
theorem dX5_measure_63 : decode cX5_measure 63 = .ok (.goto (-61), 3) := by decide +kernel
theorem dX5_measure_66 : decode cX5_measure 66 = .ok (.iconst 0, 1) := by decide +kernel
theorem dX5_measure_67 : decode cX5_measure 67 = .ok (.istore_n 2, 1) := by decide +kernel
theorem dX5_measure_68 : decode cX5_measure 68 = .ok (.iload_n 2, 1) := by decide +kernel
theorem dX5_measure_69 : decode cX5_measure 69 = .ok (.aload_n 0, 1) := by decide +kernel
theorem dX5_measure_70 : decode cX5_measure 70 = .ok (.getfield 99, 3) := by decide +kernel
theorem dX5_measure_73 : decode cX5_measure 73 = .ok (.if_icmp .ge 76, 3) := by decide +kernel
theorem dX5_measure_76 : decode cX5_measure 76 = .ok (.iconst 0, 1) := by decide +kernel
theorem dX5_measure_77 : decode cX5_measure 77 = .ok (.istore_n 3, 1) := by decide +kernel
theorem dX5_measure_78 : decode cX5_measure 78 = .ok (.iload_n 3, 1) := by decide +kernel
theorem dX5_measure_79 : decode cX5_measure 79 = .ok (.aload_n 0, 1) := by decide +kernel
theorem dX5_measure_80 : decode cX5_measure 80 = .ok (.getfield 99, 3) := by decide +kernel
theorem dX5_measure_83 : decode cX5_measure 83 = .ok (.if_icmp .ge 60, 3) := by decide +kernel
theorem dX5_measure_86 : decode cX5_measure 86 = .ok (.iconst 0, 1) := by decide +kernel
theorem dX5_measure_87 : decode cX5_measure 87 = .ok (.istore 4, 2) := by decide +kernel
theorem dX5_measure_89 : decode cX5_measure 89 = .ok (.iconst 0, 1) := by decide +kernel
theorem dX5_measure_90 : decode cX5_measure 90 = .ok (.istore 5, 2) := by decide +kernel
theorem dX5_measure_92 : decode cX5_measure 92 = .ok (.iload 5, 2) := by decide +kernel
theorem dX5_measure_94 : decode cX5_measure 94 = .ok (.aload_n 0, 1) := by decide +kernel
theorem dX5_measure_95 : decode cX5_measure 95 = .ok (.iload_n 3, 1) := by decide +kernel
theorem dX5_measure_96 : decode cX5_measure 96 = .ok (.invokevirtual 122, 3) := by decide +kernel
theorem dX5_measure_99 : decode cX5_measure 99 = .ok (.if_icmp .ge 27, 3) := by decide +kernel
theorem dX5_measure_102 : decode cX5_measure 102 = .ok (.iload 4, 2) := by decide +kernel
theorem dX5_measure_104 : decode cX5_measure 104 = .ok (.aload_n 0, 1) := by decide +kernel
theorem dX5_measure_105 : decode cX5_measure 105 = .ok (.aload_n 0, 1) := by decide +kernel
theorem dX5_measure_106 : decode cX5_measure 106 = .ok (.iload_n 3, 1) := by decide +kernel
theorem dX5_measure_107 : decode cX5_measure 107 = .ok (.iload 5, 2) := by decide +kernel
theorem dX5_measure_109 : decode cX5_measure 109 = .ok (.invokevirtual 125, 3) := by decide +kernel
theorem dX5_measure_112 : decode cX5_measure 112 = .ok (.invokevirtual 135, 3) := by decide +kernel
theorem dX5_measure_115 : decode cX5_measure 115 = .ok (.invokestatic 138, 3) := by decide +kernel
theorem dX5_measure_118 : decode cX5_measure 118 = .ok (.istore 4, 2) := by decide +kernel
theorem dX5_measure_120 : decode cX5_measure 120 = .ok (.iinc 5 1, 3) := by decide +kernel
theorem dX5_measure_123 : decode cX5_measure 123 = .ok (.goto (-31), 3) := by decide +kernel
theorem dX5_measure_126 : decode cX5_measure 126 = .ok (.aload_n 0, 1) := by decide +kernel
theorem dX5_measure_127 : decode cX5_measure 127 = .ok (.iload_n 3, 1) := by decide +kernel
theorem dX5_measure_128 : decode cX5_measure 128 = .ok (.bipush 6, 2) := by decide +kernel
theorem dX5_measure_130 : decode cX5_measure 130 = .ok (.iload 4, 2) := by decide +kernel
theorem dX5_measure_132 : decode cX5_measure 132 = .ok (.iconst 1, 1) := by decide +kernel
theorem dX5_measure_133 : decode cX5_measure 133 = .ok (.iadd, 1) := by decide +kernel
theorem dX5_measure_134 : decode cX5_measure 134 = .ok (.invokevirtual 131, 3) := by decide +kernel
theorem dX5_measure_137 : decode cX5_measure 137 = .ok (.iinc 3 1, 3) := by decide +kernel
theorem dX5_measure_140 : decode cX5_measure 140 = .ok (.goto (-62), 3) := by decide +kernel
theorem dX5_measure_143 : decode cX5_measure 143 = .ok (.iinc 2 1, 3) := by decide +kernel
theorem dX5_measure_146 : decode cX5_measure 146 = .ok (.goto (-78), 3) := by decide +kernel
theorem dX5_measure_149 : decode cX5_measure 149 = .ok (.return_, 1) := by decide +kernel
set_option maxRecDepth 20000 in
theorem ggX5_depthOf_X5_endsInStructure : GoodIn wsX5_depthOf wsX5_endsInStructure := goodIn_r _ [6, 1, 7] rfl (by decide +kernel)
set_option maxRecDepth 20000 in
theorem gX5_depthOf_X5_endsInStructure : GoodIn wsX5_depthOf (va_wsS RX5 89 yX5_endsInStructure wsX5_endsInStructure) := goodIn_app (goodIn_of _ (by decide +kernel)) ggX5_depthOf_X5_endsInStructure
set_option maxRecDepth 20000 in
theorem ggX5_depthOf_X5_structureColumn : GoodIn wsX5_depthOf wsX5_structureColumn := goodIn_r _ [11, 12, 13, 17, 18, 19, 20, 21, 22, 23, 24, 25, 26, 27, 28, 29, 30, 31] rfl (by decide +kernel)
set_option maxRecDepth 20000 in
theorem gX5_depthOf_X5_structureColumn : GoodIn wsX5_depthOf (wsV RX5 72 RX5 yX5_structureColumn wsX5_structureColumn) := goodIn_app (goodIn_of _ (by decide +kernel)) ggX5_depthOf_X5_structureColumn
set_option maxRecDepth 20000 in
theorem ggX5_depthOf_X5_headShift : GoodIn wsX5_depthOf wsX5_headShift := goodIn_r _ [16] rfl (by decide +kernel)
set_option maxRecDepth 20000 in
theorem gX5_depthOf_X5_headShift : GoodIn wsX5_depthOf (va_wsS RX5 82 yX5_headShift wsX5_headShift) := goodIn_app (goodIn_of _ (by decide +kernel)) ggX5_depthOf_X5_headShift
theorem dX5_depthOf_0 : decode cX5_depthOf 0 = .ok (.lload_n 1, 1) := by decide +kernel
theorem dX5_depthOf_1 : decode cX5_depthOf 1 = .ok (.invokestatic 89, 3) := by decide +kernel
theorem dX5_depthOf_4 : decode cX5_depthOf 4 = .ok (.ifCond .eq 18, 3) := by decide +kernel
theorem dX5_depthOf_7 : decode cX5_depthOf 7 = .ok (.aload_n 0, 1) := by decide +kernel
theorem dX5_depthOf_8 : decode cX5_depthOf 8 = .ok (.lload_n 1, 1) := by decide +kernel
theorem dX5_depthOf_9 : decode cX5_depthOf 9 = .ok (.l2i, 1) := by decide +kernel
theorem dX5_depthOf_10 : decode cX5_depthOf 10 = .ok (.sipush 255, 3) := by decide +kernel
theorem dX5_depthOf_13 : decode cX5_depthOf 13 = .ok (.iand, 1) := by decide +kernel
theorem dX5_depthOf_14 : decode cX5_depthOf 14 = .ok (.bipush 6, 2) := by decide +kernel
theorem dX5_depthOf_16 : decode cX5_depthOf 16 = .ok (.invokevirtual 72, 3) := by decide +kernel
theorem dX5_depthOf_19 : decode cX5_depthOf 19 = .ok (.goto 4, 3) := by decide +kernel
theorem dX5_depthOf_22 : decode cX5_depthOf 22 = .ok (.iconst 1, 1) := by decide +kernel
theorem dX5_depthOf_23 : decode cX5_depthOf 23 = .ok (.istore_n 3, 1) := by decide +kernel
theorem dX5_depthOf_24 : decode cX5_depthOf 24 = .ok (.lload_n 1, 1) := by decide +kernel
theorem dX5_depthOf_25 : decode cX5_depthOf 25 = .ok (.invokestatic 82, 3) := by decide +kernel
theorem dX5_depthOf_28 : decode cX5_depthOf 28 = .ok (.istore 4, 2) := by decide +kernel
theorem dX5_depthOf_30 : decode cX5_depthOf 30 = .ok (.iload 4, 2) := by decide +kernel
theorem dX5_depthOf_32 : decode cX5_depthOf 32 = .ok (.ifCond .le 27, 3) := by decide +kernel
theorem dX5_depthOf_35 : decode cX5_depthOf 35 = .ok (.lload_n 1, 1) := by decide +kernel
theorem dX5_depthOf_36 : decode cX5_depthOf 36 = .ok (.iload 4, 2) := by decide +kernel
theorem dX5_depthOf_38 : decode cX5_depthOf 38 = .ok (.lushr, 1) := by decide +kernel
theorem dX5_depthOf_39 : decode cX5_depthOf 39 = .ok (.ldc2_w 85, 3) := by decide +kernel
theorem dX5_depthOf_42 : decode cX5_depthOf 42 = .ok (.land, 1) := by decide +kernel
theorem dX5_depthOf_43 : decode cX5_depthOf 43 = .ok (.ldc2_w 143, 3) := by decide +kernel
theorem dX5_depthOf_46 : decode cX5_depthOf 46 = .ok (.lcmp, 1) := by decide +kernel
theorem dX5_depthOf_47 : decode cX5_depthOf 47 = .ok (.ifCond .ne 12, 3) := by decide +kernel
theorem dX5_depthOf_50 : decode cX5_depthOf 50 = .ok (.iinc 3 1, 3) := by decide +kernel
theorem dX5_depthOf_53 : decode cX5_depthOf 53 = .ok (.iinc 4 (-8), 3) := by decide +kernel
theorem dX5_depthOf_56 : decode cX5_depthOf 56 = .ok (.goto (-26), 3) := by decide +kernel
theorem dX5_depthOf_59 : decode cX5_depthOf 59 = .ok (.iload_n 3, 1) := by decide +kernel
theorem dX5_depthOf_60 : decode cX5_depthOf 60 = .ok (.ireturn, 1) := by decide +kernel
set_option maxRecDepth 20000 in
theorem ggX6_read_X5_clear : GoodIn wsX6_read wsX5_clear := goodIn_r _ [15, 16, 17, 18, 19, 152, 153, 154, 155, 156, 157, 158, 159, 160, 161, 162, 163, 164, 165, 166] rfl (by decide +kernel)
set_option maxRecDepth 20000 in
theorem gX6_read_X5_clear : GoodIn wsX6_read (wsV RX6 38 RX5 yX5_clear wsX5_clear) := goodIn_app (goodIn_of _ (by decide +kernel)) ggX6_read_X5_clear
set_option maxRecDepth 20000 in
theorem ggX6_read_X6_readBeginning : GoodIn wsX6_read wsX6_readBeginning := goodIn_r _ [24, 5, 25, 1, 26, 27, 28, 29, 23, 30, 2, 10, 3, 31, 32, 33, 34, 35, 36, 37, 38, 39, 143, 144, 145, 146, 147, 148, 149, 150, 151, 152, 153, 154, 155, 156, 157, 158, 159, 160, 161, 162, 163, 164, 165, 166] rfl (by decide +kernel)
set_option maxRecDepth 20000 in
theorem gX6_read_X6_readBeginning : GoodIn wsX6_read (wsV RX6 41 RX6 yX6_readBeginning wsX6_readBeginning) := goodIn_app (goodIn_of _ (by decide +kernel)) ggX6_read_X6_readBeginning
set_option maxRecDepth 20000 in
theorem ggX6_read_X6_readStructures : GoodIn wsX6_read wsX6_readStructures := goodIn_r _ [43, 1, 44, 4, 45, 2, 5, 7, 26, 46, 47, 48, 23, 49, 27, 28, 29, 30, 10, 3, 31, 32, 33, 34, 35, 50, 51, 52, 14, 53, 54, 55, 56, 57, 58, 59, 60, 61, 62, 63, 64, 65, 66, 17, 67, 143, 144, 145, 146, 147, 148, 149, 150, 151, 152, 153, 154, 155, 156, 157, 158, 159, 160, 161, 162, 163, 164, 165, 166] rfl (by decide +kernel)
set_option maxRecDepth 20000 in
theorem gX6_read_X6_readStructures : GoodIn wsX6_read (wsV RX6 44 RX6 yX6_readStructures wsX6_readStructures) := goodIn_app (goodIn_of _ (by decide +kernel)) ggX6_read_X6_readStructures
set_option maxRecDepth 20000 in
theorem ggX6_read_X6_readForeignStructures : GoodIn wsX6_read wsX6_readForeignStructures := goodIn_r _ [71, 1, 44, 45, 2, 46, 47, 48, 23, 49, 5, 27, 28, 29, 30, 10, 3, 31, 32, 33, 34, 35, 36, 37, 38, 39, 50, 51, 52, 14, 53, 54, 143, 144, 145, 146, 147, 148, 149, 150, 151, 152, 153, 154, 155, 156, 157, 158, 159, 160, 161, 162, 163, 164, 165, 166] rfl (by decide +kernel)
set_option maxRecDepth 20000 in
theorem gX6_read_X6_readForeignStructures : GoodIn wsX6_read (wsV RX6 47 RX6 yX6_readForeignStructures wsX6_readForeignStructures) := goodIn_app (goodIn_of _ (by decide +kernel)) ggX6_read_X6_readForeignStructures
set_option maxRecDepth 20000 in
theorem ggX6_read_X6_readForeignFunctions : GoodIn wsX6_read wsX6_readForeignFunctions := goodIn_r _ [75, 1, 76, 2, 7, 46, 47, 48, 23, 49, 5, 27, 28, 29, 30, 10, 3, 31, 32, 33, 34, 35, 36, 37, 38, 39, 77, 78, 79, 14, 80, 81, 82, 83, 84, 85, 55, 56, 57, 58, 59, 60, 61, 62, 4, 45, 63, 64, 65, 66, 17, 67, 143, 144, 145, 146, 147, 148, 149, 150, 151, 152, 153, 154, 155, 156, 157, 158, 159, 160, 161, 162, 163, 164, 165, 166] rfl (by decide +kernel)
set_option maxRecDepth 20000 in
theorem gX6_read_X6_readForeignFunctions : GoodIn wsX6_read (wsV RX6 50 RX6 yX6_readForeignFunctions wsX6_readForeignFunctions) := goodIn_app (goodIn_of _ (by decide +kernel)) ggX6_read_X6_readForeignFunctions
set_option maxRecDepth 20000 in
theorem ggX6_read_X6_readNumber : GoodIn wsX6_read wsX6_readNumber := goodIn_r _ [49, 5, 2, 27, 28, 29, 23, 30, 1, 10, 3, 31, 32, 33, 34, 35, 143, 144, 145, 146, 147, 148, 149, 150, 151, 152, 153, 154, 155, 156, 157, 158, 159, 160, 161, 162, 163, 164, 165, 166] rfl (by decide +kernel)
set_option maxRecDepth 20000 in
theorem gX6_read_X6_readNumber : GoodIn wsX6_read (wsV RX6 59 RX6 yX6_readNumber wsX6_readNumber) := goodIn_app (goodIn_of _ (by decide +kernel)) ggX6_read_X6_readNumber
set_option maxRecDepth 20000 in
theorem ggX6_read_X6_readTypes : GoodIn wsX6_read wsX6_readTypes := goodIn_r _ [58, 2, 1, 59, 60, 61, 23, 62, 5, 4, 45, 27, 28, 29, 30, 10, 3, 31, 32, 33, 34, 35, 63, 64, 65, 14, 66, 17, 67, 143, 144, 145, 146, 147, 148, 149, 150, 151, 152, 153, 154, 155, 156, 157, 158, 159, 160, 161, 162, 163, 164, 165, 166] rfl (by decide +kernel)
set_option maxRecDepth 20000 in
theorem gX6_read_X6_readTypes : GoodIn wsX6_read (wsV RX6 66 RX6 yX6_readTypes wsX6_readTypes) := goodIn_app (goodIn_of _ (by decide +kernel)) ggX6_read_X6_readTypes
set_option maxRecDepth 20000 in
theorem ggX6_read_X6_readFunctions : GoodIn wsX6_read wsX6_readFunctions := goodIn_r _ [89, 1, 90, 2, 26, 7, 91, 5, 92, 6, 93, 46, 47, 48, 23, 49, 27, 28, 29, 30, 10, 3, 31, 32, 33, 34, 35, 77, 78, 79, 14, 80, 81, 82, 83, 84, 85, 55, 56, 57, 58, 59, 60, 61, 62, 4, 45, 63, 64, 65, 66, 17, 67, 36, 37, 38, 39, 94, 95, 96, 97, 76, 9, 98, 99, 100, 101, 18, 102, 103, 104, 105, 106, 107, 108, 109, 110, 111, 112, 113, 114, 44, 115, 116, 117, 118, 119, 120, 121, 122, 123, 54, 143, 144, 145, 146, 147, 148, 149, 150, 151, 152, 153, 154, 155, 156, 157, 158, 159, 160, 161, 162, 163, 164, 165, 166] rfl (by decide +kernel)
set_option maxRecDepth 20000 in
theorem gX6_read_X6_readFunctions : GoodIn wsX6_read (wsV RX6 70 RX6 yX6_readFunctions wsX6_readFunctions) := goodIn_app (goodIn_of _ (by decide +kernel)) ggX6_read_X6_readFunctions
set_option maxRecDepth 20000 in
theorem ggX6_read_X6_fail : GoodIn wsX6_read wsX6_fail := goodIn_r _ [35, 2, 3, 143, 144, 145, 146, 147, 148, 149, 150, 151] rfl (by decide +kernel)
set_option maxRecDepth 20000 in
theorem gX6_read_X6_fail : GoodIn wsX6_read (wsV RX6 76 RX6 yX6_fail wsX6_fail) := goodIn_app (goodIn_of _ (by decide +kernel)) ggX6_read_X6_fail
set_option maxRecDepth 20000 in
theorem ggX6_read_X6_findRound : GoodIn wsX6_read wsX6_findRound := goodIn_r _ [127, 1, 44, 128, 115, 116, 117, 14, 118, 119, 120, 121, 122, 123, 54, 129, 130, 131, 132, 133, 134, 135, 136, 17, 67, 137, 138, 139, 140, 141, 142, 32, 33, 34, 23, 35, 2, 3, 143, 144, 145, 146, 147, 148, 149, 150, 151, 152, 153, 154, 155, 156, 157, 158, 159, 160, 161, 162, 163, 164, 165, 166] rfl (by decide +kernel)
set_option maxRecDepth 20000 in
theorem gX6_read_X6_findRound : GoodIn wsX6_read (wsV RX6 80 RX6 yX6_findRound wsX6_findRound) := goodIn_app (goodIn_of _ (by decide +kernel)) ggX6_read_X6_findRound
theorem dX6_read_0 : decode cX6_read 0 = .ok (.aload_n 0, 1) := by decide +kernel
theorem dX6_read_1 : decode cX6_read 1 = .ok (.aload_n 1, 1) := by decide +kernel
theorem dX6_read_2 : decode cX6_read 2 = .ok (.putfield 17, 3) := by decide +kernel
theorem dX6_read_5 : decode cX6_read 5 = .ok (.aload_n 0, 1) := by decide +kernel
theorem dX6_read_6 : decode cX6_read 6 = .ok (.iconst 0, 1) := by decide +kernel
theorem dX6_read_7 : decode cX6_read 7 = .ok (.putfield 21, 3) := by decide +kernel
theorem dX6_read_10 : decode cX6_read 10 = .ok (.aload_n 0, 1) := by decide +kernel
theorem dX6_read_11 : decode cX6_read 11 = .ok (.iconst 0, 1) := by decide +kernel
theorem dX6_read_12 : decode cX6_read 12 = .ok (.putfield 25, 3) := by decide +kernel
theorem dX6_read_15 : decode cX6_read 15 = .ok (.iconst 0, 1) := by decide +kernel
theorem dX6_read_16 : decode cX6_read 16 = .ok (.istore_n 2, 1) := by decide +kernel
theorem dX6_read_17 : decode cX6_read 17 = .ok (.iload_n 2, 1) := by decide +kernel
theorem dX6_read_18 : decode cX6_read 18 = .ok (.iconst 2, 1) := by decide +kernel
theorem dX6_read_19 : decode cX6_read 19 = .ok (.if_icmp .ge 131, 3) := by decide +kernel
theorem dX6_read_22 : decode cX6_read 22 = .ok (.aload_n 0, 1) := by decide +kernel
theorem dX6_read_23 : decode cX6_read 23 = .ok (.getfield 21, 3) := by decide +kernel
theorem dX6_read_26 : decode cX6_read 26 = .ok (.ifCond .ne 124, 3) := by decide +kernel
theorem dX6_read_29 : decode cX6_read 29 = .ok (.aload_n 0, 1) := by decide +kernel
theorem dX6_read_30 : decode cX6_read 30 = .ok (.iload_n 2, 1) := by decide +kernel
theorem dX6_read_31 : decode cX6_read 31 = .ok (.iconst 1, 1) := by decide +kernel
theorem dX6_read_32 : decode cX6_read 32 = .ok (.if_icmp .ne 7, 3) := by decide +kernel
theorem dX6_read_35 : decode cX6_read 35 = .ok (.iconst 1, 1) := by decide +kernel
theorem dX6_read_36 : decode cX6_read 36 = .ok (.goto 4, 3) := by decide +kernel
theorem dX6_read_39 : decode cX6_read 39 = .ok (.iconst 0, 1) := by decide +kernel
theorem dX6_read_40 : decode cX6_read 40 = .ok (.putfield 28, 3) := by decide +kernel
theorem dX6_read_43 : decode cX6_read 43 = .ok (.aload_n 0, 1) := by decide +kernel
theorem dX6_read_44 : decode cX6_read 44 = .ok (.iconst 0, 1) := by decide +kernel
theorem dX6_read_45 : decode cX6_read 45 = .ok (.putfield 32, 3) := by decide +kernel
theorem dX6_read_48 : decode cX6_read 48 = .ok (.aload_n 0, 1) := by decide +kernel
theorem dX6_read_49 : decode cX6_read 49 = .ok (.iconst 0, 1) := by decide +kernel
theorem dX6_read_50 : decode cX6_read 50 = .ok (.putfield 35, 3) := by decide +kernel
theorem dX6_read_53 : decode cX6_read 53 = .ok (.aload_n 0, 1) := by decide +kernel
theorem dX6_read_54 : decode cX6_read 54 = .ok (.getfield 17, 3) := by decide +kernel
theorem dX6_read_57 : decode cX6_read 57 = .ok (.invokevirtual 38, 3) := by decide +kernel
theorem dX6_read_60 : decode cX6_read 60 = .ok (.aload_n 0, 1) := by decide +kernel
theorem dX6_read_61 : decode cX6_read 61 = .ok (.invokevirtual 41, 3) := by decide +kernel
theorem dX6_read_64 : decode cX6_read 64 = .ok (.aload_n 0, 1) := by decide +kernel
theorem dX6_read_65 : decode cX6_read 65 = .ok (.invokevirtual 44, 3) := by decide +kernel
theorem dX6_read_68 : decode cX6_read 68 = .ok (.aload_n 0, 1) := by decide +kernel
theorem dX6_read_69 : decode cX6_read 69 = .ok (.invokevirtual 47, 3) := by decide +kernel
theorem dX6_read_72 : decode cX6_read 72 = .ok (.aload_n 0, 1) := by decide +kernel
theorem dX6_read_73 : decode cX6_read 73 = .ok (.invokevirtual 50, 3) := by decide +kernel
theorem dX6_read_76 : decode cX6_read 76 = .ok (.aload_n 0, 1) := by decide +kernel
theorem dX6_read_77 : decode cX6_read 77 = .ok (.getfield 17, 3) := by decide +kernel
theorem dX6_read_80 : decode cX6_read 80 = .ok (.aload_n 0, 1) := by decide +kernel
theorem dX6_read_81 : decode cX6_read 81 = .ok (.getfield 17, 3) := by decide +kernel
theorem dX6_read_84 : decode cX6_read 84 = .ok (.getfield 53, 3) := by decide +kernel
theorem dX6_read_87 : decode cX6_read 87 = .ok (.putfield 56, 3) := by decide +kernel
theorem dX6_read_90 : decode cX6_read 90 = .ok (.aload_n 0, 1) := by decide +kernel
theorem dX6_read_91 : decode cX6_read 91 = .ok (.getfield 17, 3) := by decide +kernel
theorem dX6_read_94 : decode cX6_read 94 = .ok (.aload_n 0, 1) := by decide +kernel
theorem dX6_read_95 : decode cX6_read 95 = .ok (.iconst 0, 1) := by decide +kernel
theorem dX6_read_96 : decode cX6_read 96 = .ok (.bipush 32, 2) := by decide +kernel
theorem dX6_read_98 : decode cX6_read 98 = .ok (.invokevirtual 59, 3) := by decide +kernel
theorem dX6_read_101 : decode cX6_read 101 = .ok (.putfield 63, 3) := by decide +kernel
theorem dX6_read_104 : decode cX6_read 104 = .ok (.aload_n 0, 1) := by decide +kernel
theorem dX6_read_105 : decode cX6_read 105 = .ok (.aload_n 0, 1) := by decide +kernel
theorem dX6_read_106 : decode cX6_read 106 = .ok (.getfield 17, 3) := by decide +kernel
theorem dX6_read_109 : decode cX6_read 109 = .ok (.getfield 63, 3) := by decide +kernel
theorem dX6_read_112 : decode cX6_read 112 = .ok (.iconst 0, 1) := by decide +kernel
theorem dX6_read_113 : decode cX6_read 113 = .ok (.invokevirtual 66, 3) := by decide +kernel
theorem dX6_read_116 : decode cX6_read 116 = .ok (.aload_n 0, 1) := by decide +kernel
theorem dX6_read_117 : decode cX6_read 117 = .ok (.invokevirtual 70, 3) := by decide +kernel
theorem dX6_read_120 : decode cX6_read 120 = .ok (.aload_n 0, 1) := by decide +kernel
theorem dX6_read_121 : decode cX6_read 121 = .ok (.getfield 32, 3) := by decide +kernel
theorem dX6_read_124 : decode cX6_read 124 = .ok (.aload_n 0, 1) := by decide +kernel
theorem dX6_read_125 : decode cX6_read 125 = .ok (.getfield 17, 3) := by decide +kernel
theorem dX6_read_128 : decode cX6_read 128 = .ok (.getfield 73, 3) := by decide +kernel
theorem dX6_read_131 : decode cX6_read 131 = .ok (.if_icmp .ge 13, 3) := by decide +kernel
theorem dX6_read_134 : decode cX6_read 134 = .ok (.aload_n 0, 1) := by decide +kernel
theorem dX6_read_135 : decode cX6_read 135 = .ok (.bipush 6, 2) := by decide +kernel
theorem dX6_read_137 : decode cX6_read 137 = .ok (.aload_n 0, 1) := by decide +kernel
theorem dX6_read_138 : decode cX6_read 138 = .ok (.getfield 32, 3) := by decide +kernel
theorem dX6_read_141 : decode cX6_read 141 = .ok (.invokevirtual 76, 3) := by decide +kernel
theorem dX6_read_144 : decode cX6_read 144 = .ok (.iinc 2 1, 3) := by decide +kernel
theorem dX6_read_147 : decode cX6_read 147 = .ok (.goto (-130), 3) := by decide +kernel
theorem dX6_read_150 : decode cX6_read 150 = .ok (.aload_n 0, 1) := by decide +kernel
theorem dX6_read_151 : decode cX6_read 151 = .ok (.getfield 21, 3) := by decide +kernel
theorem dX6_read_154 : decode cX6_read 154 = .ok (.ifCond .ne 7, 3) := by decide +kernel
theorem dX6_read_157 : decode cX6_read 157 = .ok (.aload_n 0, 1) := by decide +kernel
theorem dX6_read_158 : decode cX6_read 158 = .ok (.invokevirtual 80, 3) := by decide +kernel
theorem dX6_read_161 : decode cX6_read 161 = .ok (.aload_n 0, 1) := by decide +kernel
theorem dX6_read_162 : decode cX6_read 162 = .ok (.getfield 21, 3) := by decide +kernel
theorem dX6_read_165 : decode cX6_read 165 = .ok (.ireturn, 1) := by decide +kernel
theorem dX6_fail_0 : decode cX6_fail 0 = .ok (.aload_n 0, 1) := by decide +kernel
theorem dX6_fail_1 : decode cX6_fail 1 = .ok (.getfield 21, 3) := by decide +kernel
theorem dX6_fail_4 : decode cX6_fail 4 = .ok (.ifCond .ne 13, 3) := by decide +kernel
theorem dX6_fail_7 : decode cX6_fail 7 = .ok (.aload_n 0, 1) := by decide +kernel
theorem dX6_fail_8 : decode cX6_fail 8 = .ok (.iload_n 1, 1) := by decide +kernel
theorem dX6_fail_9 : decode cX6_fail 9 = .ok (.putfield 21, 3) := by decide +kernel
theorem dX6_fail_12 : decode cX6_fail 12 = .ok (.aload_n 0, 1) := by decide +kernel
theorem dX6_fail_13 : decode cX6_fail 13 = .ok (.iload_n 2, 1) := by decide +kernel
theorem dX6_fail_14 : decode cX6_fail 14 = .ok (.putfield 25, 3) := by decide +kernel
theorem dX6_fail_17 : decode cX6_fail 17 = .ok (.return_, 1) := by decide +kernel
theorem dX6_readByte_0 : decode cX6_readByte 0 = .ok (.aload_n 0, 1) := by decide +kernel
theorem dX6_readByte_1 : decode cX6_readByte 1 = .ok (.getfield 21, 3) := by decide +kernel
theorem dX6_readByte_4 : decode cX6_readByte 4 = .ok (.ifCond .eq 5, 3) := by decide +kernel
theorem dX6_readByte_7 : decode cX6_readByte 7 = .ok (.iconst 0, 1) := by decide +kernel
theorem dX6_readByte_8 : decode cX6_readByte 8 = .ok (.ireturn, 1) := by decide +kernel
theorem dX6_readByte_9 : decode cX6_readByte 9 = .ok (.aload_n 0, 1) := by decide +kernel
theorem dX6_readByte_10 : decode cX6_readByte 10 = .ok (.getfield 32, 3) := by decide +kernel
theorem dX6_readByte_13 : decode cX6_readByte 13 = .ok (.aload_n 0, 1) := by decide +kernel
theorem dX6_readByte_14 : decode cX6_readByte 14 = .ok (.getfield 17, 3) := by decide +kernel
theorem dX6_readByte_17 : decode cX6_readByte 17 = .ok (.getfield 73, 3) := by decide +kernel
theorem dX6_readByte_20 : decode cX6_readByte 20 = .ok (.if_icmp .lt 21, 3) := by decide +kernel
theorem dX6_readByte_23 : decode cX6_readByte 23 = .ok (.aload_n 0, 1) := by decide +kernel
theorem dX6_readByte_24 : decode cX6_readByte 24 = .ok (.iconst 2, 1) := by decide +kernel
theorem dX6_readByte_25 : decode cX6_readByte 25 = .ok (.putfield 21, 3) := by decide +kernel
theorem dX6_readByte_28 : decode cX6_readByte 28 = .ok (.aload_n 0, 1) := by decide +kernel
theorem dX6_readByte_29 : decode cX6_readByte 29 = .ok (.aload_n 0, 1) := by decide +kernel
theorem dX6_readByte_30 : decode cX6_readByte 30 = .ok (.getfield 17, 3) := by decide +kernel
theorem dX6_readByte_33 : decode cX6_readByte 33 = .ok (.getfield 73, 3) := by decide +kernel
theorem dX6_readByte_36 : decode cX6_readByte 36 = .ok (.putfield 25, 3) := by decide +kernel
theorem dX6_readByte_39 : decode cX6_readByte 39 = .ok (.iconst 0, 1) := by decide +kernel
theorem dX6_readByte_40 : decode cX6_readByte 40 = .ok (.ireturn, 1) := by decide +kernel
theorem dX6_readByte_41 : decode cX6_readByte 41 = .ok (.aload_n 0, 1) := by decide +kernel
theorem dX6_readByte_42 : decode cX6_readByte 42 = .ok (.getfield 17, 3) := by decide +kernel
theorem dX6_readByte_45 : decode cX6_readByte 45 = .ok (.getfield 83, 3) := by decide +kernel
theorem dX6_readByte_48 : decode cX6_readByte 48 = .ok (.aload_n 0, 1) := by decide +kernel
theorem dX6_readByte_49 : decode cX6_readByte 49 = .ok (.dup, 1) := by decide +kernel
theorem dX6_readByte_50 : decode cX6_readByte 50 = .ok (.getfield 32, 3) := by decide +kernel
theorem dX6_readByte_53 : decode cX6_readByte 53 = .ok (.dup_x1, 1) := by decide +kernel
theorem dX6_readByte_54 : decode cX6_readByte 54 = .ok (.iconst 1, 1) := by decide +kernel
theorem dX6_readByte_55 : decode cX6_readByte 55 = .ok (.iadd, 1) := by decide +kernel
theorem dX6_readByte_56 : decode cX6_readByte 56 = .ok (.putfield 32, 3) := by decide +kernel
theorem dX6_readByte_59 : decode cX6_readByte 59 = .ok (.baload, 1) := by decide +kernel
theorem dX6_readByte_60 : decode cX6_readByte 60 = .ok (.sipush 255, 3) := by decide +kernel
theorem dX6_readByte_63 : decode cX6_readByte 63 = .ok (.iand, 1) := by decide +kernel
theorem dX6_readByte_64 : decode cX6_readByte 64 = .ok (.ireturn, 1) := by decide +kernel
set_option maxRecDepth 20000 in
theorem ggX6_readShort_X6_readByte : GoodIn wsX6_readShort wsX6_readByte := goodIn_r _ [5, 6, 7, 8, 9, 10, 11, 12, 13, 14, 15, 16, 17, 18, 19, 20, 21, 22, 23, 24, 25, 26, 27, 28, 29, 30, 31, 32, 33, 34, 35] rfl (by decide +kernel)
set_option maxRecDepth 20000 in
theorem gX6_readShort_X6_readByte : GoodIn wsX6_readShort (wsV RX6 87 RX6 yX6_readByte wsX6_readByte) := goodIn_app (goodIn_of _ (by decide +kernel)) ggX6_readShort_X6_readByte
theorem dX6_readShort_0 : decode cX6_readShort 0 = .ok (.aload_n 0, 1) := by decide +kernel
theorem dX6_readShort_1 : decode cX6_readShort 1 = .ok (.invokevirtual 87, 3) := by decide +kernel
theorem dX6_readShort_4 : decode cX6_readShort 4 = .ok (.istore_n 1, 1) := by decide +kernel
theorem dX6_readShort_5 : decode cX6_readShort 5 = .ok (.iload_n 1, 1) := by decide +kernel
theorem dX6_readShort_6 : decode cX6_readShort 6 = .ok (.bipush 8, 2) := by decide +kernel
theorem dX6_readShort_8 : decode cX6_readShort 8 = .ok (.ishl, 1) := by decide +kernel
theorem dX6_readShort_9 : decode cX6_readShort 9 = .ok (.aload_n 0, 1) := by decide +kernel
theorem dX6_readShort_10 : decode cX6_readShort 10 = .ok (.invokevirtual 87, 3) := by decide +kernel
theorem dX6_readShort_13 : decode cX6_readShort 13 = .ok (.ior, 1) := by decide +kernel
theorem dX6_readShort_14 : decode cX6_readShort 14 = .ok (.ireturn, 1) := by decide +kernel
set_option maxRecDepth 20000 in
theorem ggX6_readNumber_X6_readByte : GoodIn wsX6_readNumber wsX6_readByte := goodIn_r _ [7, 2, 1, 8, 9, 10, 11, 16, 17, 18, 19, 20, 21, 22, 23, 24, 25, 26, 27, 28, 29, 30, 31, 32, 33, 34, 35, 36, 37, 38, 39] rfl (by decide +kernel)
set_option maxRecDepth 20000 in
theorem gX6_readNumber_X6_readByte : GoodIn wsX6_readNumber (wsV RX6 87 RX6 yX6_readByte wsX6_readByte) := goodIn_app (goodIn_of _ (by decide +kernel)) ggX6_readNumber_X6_readByte
set_option maxRecDepth 20000 in
theorem ggX6_readNumber_X6_fail : GoodIn wsX6_readNumber wsX6_fail := goodIn_r _ [15, 2, 10, 16, 17, 18, 19, 20, 21, 22, 23, 24] rfl (by decide +kernel)
set_option maxRecDepth 20000 in
theorem gX6_readNumber_X6_fail : GoodIn wsX6_readNumber (wsV RX6 76 RX6 yX6_fail wsX6_fail) := goodIn_app (goodIn_of _ (by decide +kernel)) ggX6_readNumber_X6_fail
theorem dX6_readNumber_0 : decode cX6_readNumber 0 = .ok (.aload_n 0, 1) := by decide +kernel
theorem dX6_readNumber_1 : decode cX6_readNumber 1 = .ok (.getfield 32, 3) := by decide +kernel
theorem dX6_readNumber_4 : decode cX6_readNumber 4 = .ok (.istore_n 3, 1) := by decide +kernel
theorem dX6_readNumber_5 : decode cX6_readNumber 5 = .ok (.aload_n 0, 1) := by decide +kernel
theorem dX6_readNumber_6 : decode cX6_readNumber 6 = .ok (.invokevirtual 87, 3) := by decide +kernel
theorem dX6_readNumber_9 : decode cX6_readNumber 9 = .ok (.istore 4, 2) := by decide +kernel
theorem dX6_readNumber_11 : decode cX6_readNumber 11 = .ok (.iload 4, 2) := by decide +kernel
theorem dX6_readNumber_13 : decode cX6_readNumber 13 = .ok (.iload_n 1, 1) := by decide +kernel
theorem dX6_readNumber_14 : decode cX6_readNumber 14 = .ok (.if_icmp .lt 9, 3) := by decide +kernel
theorem dX6_readNumber_17 : decode cX6_readNumber 17 = .ok (.iload 4, 2) := by decide +kernel
theorem dX6_readNumber_19 : decode cX6_readNumber 19 = .ok (.iload_n 2, 1) := by decide +kernel
theorem dX6_readNumber_20 : decode cX6_readNumber 20 = .ok (.if_icmp .le 9, 3) := by decide +kernel
theorem dX6_readNumber_23 : decode cX6_readNumber 23 = .ok (.aload_n 0, 1) := by decide +kernel
theorem dX6_readNumber_24 : decode cX6_readNumber 24 = .ok (.iconst 3, 1) := by decide +kernel
theorem dX6_readNumber_25 : decode cX6_readNumber 25 = .ok (.iload_n 3, 1) := by decide +kernel
theorem dX6_readNumber_26 : decode cX6_readNumber 26 = .ok (.invokevirtual 76, 3) := by decide +kernel
theorem dX6_readNumber_29 : decode cX6_readNumber 29 = .ok (.aload_n 0, 1) := by decide +kernel
theorem dX6_readNumber_30 : decode cX6_readNumber 30 = .ok (.getfield 21, 3) := by decide +kernel
theorem dX6_readNumber_33 : decode cX6_readNumber 33 = .ok (.ifCond .ne 8, 3) := by decide +kernel
theorem dX6_readNumber_36 : decode cX6_readNumber 36 = .ok (.iload 4, 2) := by decide +kernel
theorem dX6_readNumber_38 : decode cX6_readNumber 38 = .ok (.goto 4, 3) := by decide +kernel
theorem dX6_readNumber_41 : decode cX6_readNumber 41 = .ok (.iconst 0, 1) := by decide +kernel
theorem dX6_readNumber_42 : decode cX6_readNumber 42 = .ok (.ireturn, 1) := by decide +kernel
set_option maxRecDepth 20000 in
theorem ggX6_readBeginning_X6_readByte : GoodIn wsX6_readBeginning wsX6_readByte := goodIn_r _ [9, 10, 1, 3, 11, 12, 13, 22, 23, 24, 25, 26, 27, 28, 29, 30, 31, 32, 33, 34, 35, 36, 37, 38, 39, 40, 41, 42, 43, 44, 45] rfl (by decide +kernel)
set_option maxRecDepth 20000 in
theorem gX6_readBeginning_X6_readByte : GoodIn wsX6_readBeginning (wsV RX6 87 RX6 yX6_readByte wsX6_readByte) := goodIn_app (goodIn_of _ (by decide +kernel)) ggX6_readBeginning_X6_readByte
set_option maxRecDepth 20000 in
theorem ggX6_readBeginning_X6_fail : GoodIn wsX6_readBeginning wsX6_fail := goodIn_r _ [17, 10, 12, 22, 23, 24, 25, 26, 27, 28, 29, 30] rfl (by decide +kernel)
set_option maxRecDepth 20000 in
theorem gX6_readBeginning_X6_fail : GoodIn wsX6_readBeginning (wsV RX6 76 RX6 yX6_fail wsX6_fail) := goodIn_app (goodIn_of _ (by decide +kernel)) ggX6_readBeginning_X6_fail
set_option maxRecDepth 20000 in
theorem ggX6_readBeginning_X6_readShort : GoodIn wsX6_readBeginning wsX6_readShort := goodIn_r _ [21, 5, 6, 7, 8, 9, 10, 1, 3, 11, 12, 13, 22, 23, 24, 25, 26, 27, 28, 29, 30, 31, 32, 33, 34, 35, 36, 37, 38, 39, 40, 41, 42, 43, 44, 45] rfl (by decide +kernel)
set_option maxRecDepth 20000 in
theorem gX6_readBeginning_X6_readShort : GoodIn wsX6_readBeginning (wsV RX6 94 RX6 yX6_readShort wsX6_readShort) := goodIn_app (goodIn_of _ (by decide +kernel)) ggX6_readBeginning_X6_readShort
theorem dX6_readBeginning_0 : decode cX6_readBeginning 0 = .ok (.iconst 0, 1) := by decide +kernel
theorem dX6_readBeginning_1 : decode cX6_readBeginning 1 = .ok (.istore_n 1, 1) := by decide +kernel
theorem dX6_readBeginning_2 : decode cX6_readBeginning 2 = .ok (.iload_n 1, 1) := by decide +kernel
theorem dX6_readBeginning_3 : decode cX6_readBeginning 3 = .ok (.iconst 4, 1) := by decide +kernel
theorem dX6_readBeginning_4 : decode cX6_readBeginning 4 = .ok (.if_icmp .ge 32, 3) := by decide +kernel
theorem dX6_readBeginning_7 : decode cX6_readBeginning 7 = .ok (.aload_n 0, 1) := by decide +kernel
theorem dX6_readBeginning_8 : decode cX6_readBeginning 8 = .ok (.getfield 32, 3) := by decide +kernel
theorem dX6_readBeginning_11 : decode cX6_readBeginning 11 = .ok (.istore_n 2, 1) := by decide +kernel
theorem dX6_readBeginning_12 : decode cX6_readBeginning 12 = .ok (.aload_n 0, 1) := by decide +kernel
theorem dX6_readBeginning_13 : decode cX6_readBeginning 13 = .ok (.invokevirtual 87, 3) := by decide +kernel
theorem dX6_readBeginning_16 : decode cX6_readBeginning 16 = .ok (.getstatic 91, 3) := by decide +kernel
theorem dX6_readBeginning_19 : decode cX6_readBeginning 19 = .ok (.iload_n 1, 1) := by decide +kernel
theorem dX6_readBeginning_20 : decode cX6_readBeginning 20 = .ok (.baload, 1) := by decide +kernel
theorem dX6_readBeginning_21 : decode cX6_readBeginning 21 = .ok (.if_icmp .eq 9, 3) := by decide +kernel
theorem dX6_readBeginning_24 : decode cX6_readBeginning 24 = .ok (.aload_n 0, 1) := by decide +kernel
theorem dX6_readBeginning_25 : decode cX6_readBeginning 25 = .ok (.iconst 1, 1) := by decide +kernel
theorem dX6_readBeginning_26 : decode cX6_readBeginning 26 = .ok (.iload_n 2, 1) := by decide +kernel
theorem dX6_readBeginning_27 : decode cX6_readBeginning 27 = .ok (.invokevirtual 76, 3) := by decide +kernel
theorem dX6_readBeginning_30 : decode cX6_readBeginning 30 = .ok (.iinc 1 1, 3) := by decide +kernel
theorem dX6_readBeginning_33 : decode cX6_readBeginning 33 = .ok (.goto (-31), 3) := by decide +kernel
theorem dX6_readBeginning_36 : decode cX6_readBeginning 36 = .ok (.aload_n 0, 1) := by decide +kernel
theorem dX6_readBeginning_37 : decode cX6_readBeginning 37 = .ok (.getfield 17, 3) := by decide +kernel
theorem dX6_readBeginning_40 : decode cX6_readBeginning 40 = .ok (.aload_n 0, 1) := by decide +kernel
theorem dX6_readBeginning_41 : decode cX6_readBeginning 41 = .ok (.invokevirtual 94, 3) := by decide +kernel
theorem dX6_readBeginning_44 : decode cX6_readBeginning 44 = .ok (.putfield 97, 3) := by decide +kernel
theorem dX6_readBeginning_47 : decode cX6_readBeginning 47 = .ok (.return_, 1) := by decide +kernel
set_option maxRecDepth 20000 in
theorem ggX6_readStructures_X6_readNumber : GoodIn wsX6_readStructures wsX6_readNumber := goodIn_r _ [13, 6, 5, 14, 15, 16, 12, 17, 1, 18, 19, 20, 21, 22, 23, 24, 45, 46, 47, 48, 49, 50, 51, 52, 53, 54, 55, 56, 57, 58, 59, 60, 61, 62, 63, 64, 65, 66, 67, 68] rfl (by decide +kernel)
set_option maxRecDepth 20000 in
theorem gX6_readStructures_X6_readNumber : GoodIn wsX6_readStructures (wsV RX6 59 RX6 yX6_readNumber wsX6_readNumber) := goodIn_app (goodIn_of _ (by decide +kernel)) ggX6_readStructures_X6_readNumber
set_option maxRecDepth 20000 in
theorem ggX6_readStructures_X5_setStructure : GoodIn wsX6_readStructures wsX5_setStructure := goodIn_r _ [29, 30, 54, 55, 56, 57, 58, 59, 60, 61, 62, 63, 64, 65, 66, 67, 68] rfl (by decide +kernel)
set_option maxRecDepth 20000 in
theorem gX6_readStructures_X5_setStructure : GoodIn wsX6_readStructures (wsV RX6 106 RX5 yX5_setStructure wsX5_setStructure) := goodIn_app (goodIn_of _ (by decide +kernel)) ggX6_readStructures_X5_setStructure
set_option maxRecDepth 20000 in
theorem ggX6_readStructures_X6_readTypes : GoodIn wsX6_readStructures wsX6_readTypes := goodIn_r _ [34, 5, 1, 35, 36, 37, 12, 38, 6, 3, 4, 14, 15, 16, 17, 18, 19, 20, 21, 22, 23, 24, 39, 40, 41, 28, 42, 43, 44, 45, 46, 47, 48, 49, 50, 51, 52, 53, 54, 55, 56, 57, 58, 59, 60, 61, 62, 63, 64, 65, 66, 67, 68] rfl (by decide +kernel)
set_option maxRecDepth 20000 in
theorem gX6_readStructures_X6_readTypes : GoodIn wsX6_readStructures (wsV RX6 66 RX6 yX6_readTypes wsX6_readTypes) := goodIn_app (goodIn_of _ (by decide +kernel)) ggX6_readStructures_X6_readTypes
theorem dX6_readStructures_0 : decode cX6_readStructures 0 = .ok (.aload_n 0, 1) := by decide +kernel
theorem dX6_readStructures_1 : decode cX6_readStructures 1 = .ok (.getfield 17, 3) := by decide +kernel
theorem dX6_readStructures_4 : decode cX6_readStructures 4 = .ok (.aload_n 0, 1) := by decide +kernel
theorem dX6_readStructures_5 : decode cX6_readStructures 5 = .ok (.iconst 0, 1) := by decide +kernel
theorem dX6_readStructures_6 : decode cX6_readStructures 6 = .ok (.bipush 32, 2) := by decide +kernel
theorem dX6_readStructures_8 : decode cX6_readStructures 8 = .ok (.invokevirtual 59, 3) := by decide +kernel
theorem dX6_readStructures_11 : decode cX6_readStructures 11 = .ok (.putfield 100, 3) := by decide +kernel
theorem dX6_readStructures_14 : decode cX6_readStructures 14 = .ok (.aload_n 0, 1) := by decide +kernel
theorem dX6_readStructures_15 : decode cX6_readStructures 15 = .ok (.getfield 28, 3) := by decide +kernel
theorem dX6_readStructures_18 : decode cX6_readStructures 18 = .ok (.ifCond .ne 17, 3) := by decide +kernel
theorem dX6_readStructures_21 : decode cX6_readStructures 21 = .ok (.aload_n 0, 1) := by decide +kernel
theorem dX6_readStructures_22 : decode cX6_readStructures 22 = .ok (.getfield 17, 3) := by decide +kernel
theorem dX6_readStructures_25 : decode cX6_readStructures 25 = .ok (.aload_n 0, 1) := by decide +kernel
theorem dX6_readStructures_26 : decode cX6_readStructures 26 = .ok (.getfield 17, 3) := by decide +kernel
theorem dX6_readStructures_29 : decode cX6_readStructures 29 = .ok (.getfield 100, 3) := by decide +kernel
theorem dX6_readStructures_32 : decode cX6_readStructures 32 = .ok (.putfield 103, 3) := by decide +kernel
theorem dX6_readStructures_35 : decode cX6_readStructures 35 = .ok (.iconst 0, 1) := by decide +kernel
theorem dX6_readStructures_36 : decode cX6_readStructures 36 = .ok (.istore_n 1, 1) := by decide +kernel
theorem dX6_readStructures_37 : decode cX6_readStructures 37 = .ok (.iload_n 1, 1) := by decide +kernel
theorem dX6_readStructures_38 : decode cX6_readStructures 38 = .ok (.aload_n 0, 1) := by decide +kernel
theorem dX6_readStructures_39 : decode cX6_readStructures 39 = .ok (.getfield 17, 3) := by decide +kernel
theorem dX6_readStructures_42 : decode cX6_readStructures 42 = .ok (.getfield 100, 3) := by decide +kernel
theorem dX6_readStructures_45 : decode cX6_readStructures 45 = .ok (.if_icmp .ge 111, 3) := by decide +kernel
theorem dX6_readStructures_48 : decode cX6_readStructures 48 = .ok (.aload_n 0, 1) := by decide +kernel
theorem dX6_readStructures_49 : decode cX6_readStructures 49 = .ok (.getfield 21, 3) := by decide +kernel
theorem dX6_readStructures_52 : decode cX6_readStructures 52 = .ok (.ifCond .ne 104, 3) := by decide +kernel
theorem dX6_readStructures_55 : decode cX6_readStructures 55 = .ok (.aload_n 0, 1) := by decide +kernel
theorem dX6_readStructures_56 : decode cX6_readStructures 56 = .ok (.getfield 17, 3) := by decide +kernel
theorem dX6_readStructures_59 : decode cX6_readStructures 59 = .ok (.iload_n 1, 1) := by decide +kernel
theorem dX6_readStructures_60 : decode cX6_readStructures 60 = .ok (.iconst 1, 1) := by decide +kernel
theorem dX6_readStructures_61 : decode cX6_readStructures 61 = .ok (.aload_n 0, 1) := by decide +kernel
theorem dX6_readStructures_62 : decode cX6_readStructures 62 = .ok (.getfield 32, 3) := by decide +kernel
theorem dX6_readStructures_65 : decode cX6_readStructures 65 = .ok (.invokevirtual 106, 3) := by decide +kernel
theorem dX6_readStructures_68 : decode cX6_readStructures 68 = .ok (.aload_n 0, 1) := by decide +kernel
theorem dX6_readStructures_69 : decode cX6_readStructures 69 = .ok (.getfield 17, 3) := by decide +kernel
theorem dX6_readStructures_72 : decode cX6_readStructures 72 = .ok (.iload_n 1, 1) := by decide +kernel
theorem dX6_readStructures_73 : decode cX6_readStructures 73 = .ok (.iconst 0, 1) := by decide +kernel
theorem dX6_readStructures_74 : decode cX6_readStructures 74 = .ok (.aload_n 0, 1) := by decide +kernel
theorem dX6_readStructures_75 : decode cX6_readStructures 75 = .ok (.iconst 0, 1) := by decide +kernel
theorem dX6_readStructures_76 : decode cX6_readStructures 76 = .ok (.bipush 15, 2) := by decide +kernel
theorem dX6_readStructures_78 : decode cX6_readStructures 78 = .ok (.invokevirtual 59, 3) := by decide +kernel
theorem dX6_readStructures_81 : decode cX6_readStructures 81 = .ok (.invokevirtual 106, 3) := by decide +kernel
theorem dX6_readStructures_84 : decode cX6_readStructures 84 = .ok (.aload_n 0, 1) := by decide +kernel
theorem dX6_readStructures_85 : decode cX6_readStructures 85 = .ok (.iconst 1, 1) := by decide +kernel
theorem dX6_readStructures_86 : decode cX6_readStructures 86 = .ok (.bipush 16, 2) := by decide +kernel
theorem dX6_readStructures_88 : decode cX6_readStructures 88 = .ok (.invokevirtual 59, 3) := by decide +kernel
theorem dX6_readStructures_91 : decode cX6_readStructures 91 = .ok (.istore_n 2, 1) := by decide +kernel
theorem dX6_readStructures_92 : decode cX6_readStructures 92 = .ok (.aload_n 0, 1) := by decide +kernel
theorem dX6_readStructures_93 : decode cX6_readStructures 93 = .ok (.getfield 17, 3) := by decide +kernel
theorem dX6_readStructures_96 : decode cX6_readStructures 96 = .ok (.iload_n 1, 1) := by decide +kernel
theorem dX6_readStructures_97 : decode cX6_readStructures 97 = .ok (.iconst 2, 1) := by decide +kernel
theorem dX6_readStructures_98 : decode cX6_readStructures 98 = .ok (.aload_n 0, 1) := by decide +kernel
theorem dX6_readStructures_99 : decode cX6_readStructures 99 = .ok (.getfield 17, 3) := by decide +kernel
theorem dX6_readStructures_102 : decode cX6_readStructures 102 = .ok (.getfield 53, 3) := by decide +kernel
theorem dX6_readStructures_105 : decode cX6_readStructures 105 = .ok (.invokevirtual 106, 3) := by decide +kernel
theorem dX6_readStructures_108 : decode cX6_readStructures 108 = .ok (.aload_n 0, 1) := by decide +kernel
theorem dX6_readStructures_109 : decode cX6_readStructures 109 = .ok (.getfield 17, 3) := by decide +kernel
theorem dX6_readStructures_112 : decode cX6_readStructures 112 = .ok (.iload_n 1, 1) := by decide +kernel
theorem dX6_readStructures_113 : decode cX6_readStructures 113 = .ok (.iconst 3, 1) := by decide +kernel
theorem dX6_readStructures_114 : decode cX6_readStructures 114 = .ok (.iload_n 2, 1) := by decide +kernel
theorem dX6_readStructures_115 : decode cX6_readStructures 115 = .ok (.invokevirtual 106, 3) := by decide +kernel
theorem dX6_readStructures_118 : decode cX6_readStructures 118 = .ok (.aload_n 0, 1) := by decide +kernel
theorem dX6_readStructures_119 : decode cX6_readStructures 119 = .ok (.getfield 17, 3) := by decide +kernel
theorem dX6_readStructures_122 : decode cX6_readStructures 122 = .ok (.iload_n 1, 1) := by decide +kernel
theorem dX6_readStructures_123 : decode cX6_readStructures 123 = .ok (.iconst 4, 1) := by decide +kernel
theorem dX6_readStructures_124 : decode cX6_readStructures 124 = .ok (.aload_n 0, 1) := by decide +kernel
theorem dX6_readStructures_125 : decode cX6_readStructures 125 = .ok (.getfield 17, 3) := by decide +kernel
theorem dX6_readStructures_128 : decode cX6_readStructures 128 = .ok (.getfield 97, 3) := by decide +kernel
theorem dX6_readStructures_131 : decode cX6_readStructures 131 = .ok (.invokevirtual 106, 3) := by decide +kernel
theorem dX6_readStructures_134 : decode cX6_readStructures 134 = .ok (.aload_n 0, 1) := by decide +kernel
theorem dX6_readStructures_135 : decode cX6_readStructures 135 = .ok (.getfield 17, 3) := by decide +kernel
theorem dX6_readStructures_138 : decode cX6_readStructures 138 = .ok (.iload_n 1, 1) := by decide +kernel
theorem dX6_readStructures_139 : decode cX6_readStructures 139 = .ok (.iconst 5, 1) := by decide +kernel
theorem dX6_readStructures_140 : decode cX6_readStructures 140 = .ok (.iload_n 1, 1) := by decide +kernel
theorem dX6_readStructures_141 : decode cX6_readStructures 141 = .ok (.invokevirtual 106, 3) := by decide +kernel
theorem dX6_readStructures_144 : decode cX6_readStructures 144 = .ok (.aload_n 0, 1) := by decide +kernel
theorem dX6_readStructures_145 : decode cX6_readStructures 145 = .ok (.iload_n 2, 1) := by decide +kernel
theorem dX6_readStructures_146 : decode cX6_readStructures 146 = .ok (.iconst 0, 1) := by decide +kernel
theorem dX6_readStructures_147 : decode cX6_readStructures 147 = .ok (.invokevirtual 66, 3) := by decide +kernel
theorem dX6_readStructures_150 : decode cX6_readStructures 150 = .ok (.iinc 1 1, 3) := by decide +kernel
theorem dX6_readStructures_153 : decode cX6_readStructures 153 = .ok (.goto (-116), 3) := by decide +kernel
theorem dX6_readStructures_156 : decode cX6_readStructures 156 = .ok (.return_, 1) := by decide +kernel
set_option maxRecDepth 20000 in
theorem ggX6_readForeignStructures_X6_readNumber : GoodIn wsX6_readForeignStructures wsX6_readNumber := goodIn_r _ [9, 10, 4, 11, 12, 13, 8, 14, 1, 15, 16, 17, 18, 19, 20, 21, 32, 33, 34, 35, 36, 37, 38, 39, 40, 41, 42, 43, 44, 45, 46, 47, 48, 49, 50, 51, 52, 53, 54, 55] rfl (by decide +kernel)
set_option maxRecDepth 20000 in
theorem gX6_readForeignStructures_X6_readNumber : GoodIn wsX6_readForeignStructures (wsV RX6 59 RX6 yX6_readNumber wsX6_readNumber) := goodIn_app (goodIn_of _ (by decide +kernel)) ggX6_readForeignStructures_X6_readNumber
set_option maxRecDepth 20000 in
theorem ggX6_readForeignStructures_X6_readShort : GoodIn wsX6_readForeignStructures wsX6_readShort := goodIn_r _ [25, 11, 12, 13, 8, 14, 4, 10, 1, 15, 16, 17, 32, 33, 34, 35, 36, 37, 38, 39, 40, 41, 42, 43, 44, 45, 46, 47, 48, 49, 50, 51, 52, 53, 54, 55] rfl (by decide +kernel)
set_option maxRecDepth 20000 in
theorem gX6_readForeignStructures_X6_readShort : GoodIn wsX6_readForeignStructures (wsV RX6 94 RX6 yX6_readShort wsX6_readShort) := goodIn_app (goodIn_of _ (by decide +kernel)) ggX6_readForeignStructures_X6_readShort
set_option maxRecDepth 20000 in
theorem ggX6_readForeignStructures_X5_setStructure : GoodIn wsX6_readForeignStructures wsX5_setStructure := goodIn_r _ [30, 31, 41, 42, 43, 44, 45, 46, 47, 48, 49, 50, 51, 52, 53, 54, 55] rfl (by decide +kernel)
set_option maxRecDepth 20000 in
theorem gX6_readForeignStructures_X5_setStructure : GoodIn wsX6_readForeignStructures (wsV RX6 106 RX5 yX5_setStructure wsX5_setStructure) := goodIn_app (goodIn_of _ (by decide +kernel)) ggX6_readForeignStructures_X5_setStructure
set_option maxRecDepth 20000 in
theorem ggX6_readForeignStructures_X6_readByte : GoodIn wsX6_readForeignStructures wsX6_readByte := goodIn_r _ [14, 4, 10, 1, 15, 16, 17, 32, 33, 34, 35, 36, 37, 38, 39, 40, 41, 42, 43, 44, 45, 46, 47, 48, 49, 50, 51, 52, 53, 54, 55] rfl (by decide +kernel)
set_option maxRecDepth 20000 in
theorem gX6_readForeignStructures_X6_readByte : GoodIn wsX6_readForeignStructures (wsV RX6 87 RX6 yX6_readByte wsX6_readByte) := goodIn_app (goodIn_of _ (by decide +kernel)) ggX6_readForeignStructures_X6_readByte
theorem dX6_readForeignStructures_0 : decode cX6_readForeignStructures 0 = .ok (.aload_n 0, 1) := by decide +kernel
theorem dX6_readForeignStructures_1 : decode cX6_readForeignStructures 1 = .ok (.iconst 0, 1) := by decide +kernel
theorem dX6_readForeignStructures_2 : decode cX6_readForeignStructures 2 = .ok (.bipush 32, 2) := by decide +kernel
theorem dX6_readForeignStructures_4 : decode cX6_readForeignStructures 4 = .ok (.invokevirtual 59, 3) := by decide +kernel
theorem dX6_readForeignStructures_7 : decode cX6_readForeignStructures 7 = .ok (.istore_n 1, 1) := by decide +kernel
theorem dX6_readForeignStructures_8 : decode cX6_readForeignStructures 8 = .ok (.aload_n 0, 1) := by decide +kernel
theorem dX6_readForeignStructures_9 : decode cX6_readForeignStructures 9 = .ok (.getfield 17, 3) := by decide +kernel
theorem dX6_readForeignStructures_12 : decode cX6_readForeignStructures 12 = .ok (.aload_n 0, 1) := by decide +kernel
theorem dX6_readForeignStructures_13 : decode cX6_readForeignStructures 13 = .ok (.getfield 17, 3) := by decide +kernel
theorem dX6_readForeignStructures_16 : decode cX6_readForeignStructures 16 = .ok (.getfield 100, 3) := by decide +kernel
theorem dX6_readForeignStructures_19 : decode cX6_readForeignStructures 19 = .ok (.iload_n 1, 1) := by decide +kernel
theorem dX6_readForeignStructures_20 : decode cX6_readForeignStructures 20 = .ok (.iadd, 1) := by decide +kernel
theorem dX6_readForeignStructures_21 : decode cX6_readForeignStructures 21 = .ok (.putfield 103, 3) := by decide +kernel
theorem dX6_readForeignStructures_24 : decode cX6_readForeignStructures 24 = .ok (.aload_n 0, 1) := by decide +kernel
theorem dX6_readForeignStructures_25 : decode cX6_readForeignStructures 25 = .ok (.getfield 17, 3) := by decide +kernel
theorem dX6_readForeignStructures_28 : decode cX6_readForeignStructures 28 = .ok (.getfield 100, 3) := by decide +kernel
theorem dX6_readForeignStructures_31 : decode cX6_readForeignStructures 31 = .ok (.istore_n 2, 1) := by decide +kernel
theorem dX6_readForeignStructures_32 : decode cX6_readForeignStructures 32 = .ok (.iload_n 2, 1) := by decide +kernel
theorem dX6_readForeignStructures_33 : decode cX6_readForeignStructures 33 = .ok (.aload_n 0, 1) := by decide +kernel
theorem dX6_readForeignStructures_34 : decode cX6_readForeignStructures 34 = .ok (.getfield 17, 3) := by decide +kernel
theorem dX6_readForeignStructures_37 : decode cX6_readForeignStructures 37 = .ok (.getfield 103, 3) := by decide +kernel
theorem dX6_readForeignStructures_40 : decode cX6_readForeignStructures 40 = .ok (.if_icmp .ge 68, 3) := by decide +kernel
theorem dX6_readForeignStructures_43 : decode cX6_readForeignStructures 43 = .ok (.aload_n 0, 1) := by decide +kernel
theorem dX6_readForeignStructures_44 : decode cX6_readForeignStructures 44 = .ok (.getfield 21, 3) := by decide +kernel
theorem dX6_readForeignStructures_47 : decode cX6_readForeignStructures 47 = .ok (.ifCond .ne 61, 3) := by decide +kernel
theorem dX6_readForeignStructures_50 : decode cX6_readForeignStructures 50 = .ok (.aload_n 0, 1) := by decide +kernel
theorem dX6_readForeignStructures_51 : decode cX6_readForeignStructures 51 = .ok (.getfield 17, 3) := by decide +kernel
theorem dX6_readForeignStructures_54 : decode cX6_readForeignStructures 54 = .ok (.iload_n 2, 1) := by decide +kernel
theorem dX6_readForeignStructures_55 : decode cX6_readForeignStructures 55 = .ok (.iconst 4, 1) := by decide +kernel
theorem dX6_readForeignStructures_56 : decode cX6_readForeignStructures 56 = .ok (.aload_n 0, 1) := by decide +kernel
theorem dX6_readForeignStructures_57 : decode cX6_readForeignStructures 57 = .ok (.invokevirtual 94, 3) := by decide +kernel
theorem dX6_readForeignStructures_60 : decode cX6_readForeignStructures 60 = .ok (.invokevirtual 106, 3) := by decide +kernel
theorem dX6_readForeignStructures_63 : decode cX6_readForeignStructures 63 = .ok (.aload_n 0, 1) := by decide +kernel
theorem dX6_readForeignStructures_64 : decode cX6_readForeignStructures 64 = .ok (.getfield 17, 3) := by decide +kernel
theorem dX6_readForeignStructures_67 : decode cX6_readForeignStructures 67 = .ok (.iload_n 2, 1) := by decide +kernel
theorem dX6_readForeignStructures_68 : decode cX6_readForeignStructures 68 = .ok (.iconst 5, 1) := by decide +kernel
theorem dX6_readForeignStructures_69 : decode cX6_readForeignStructures 69 = .ok (.aload_n 0, 1) := by decide +kernel
theorem dX6_readForeignStructures_70 : decode cX6_readForeignStructures 70 = .ok (.invokevirtual 87, 3) := by decide +kernel
theorem dX6_readForeignStructures_73 : decode cX6_readForeignStructures 73 = .ok (.invokevirtual 106, 3) := by decide +kernel
theorem dX6_readForeignStructures_76 : decode cX6_readForeignStructures 76 = .ok (.aload_n 0, 1) := by decide +kernel
theorem dX6_readForeignStructures_77 : decode cX6_readForeignStructures 77 = .ok (.getfield 17, 3) := by decide +kernel
theorem dX6_readForeignStructures_80 : decode cX6_readForeignStructures 80 = .ok (.iload_n 2, 1) := by decide +kernel
theorem dX6_readForeignStructures_81 : decode cX6_readForeignStructures 81 = .ok (.iconst 0, 1) := by decide +kernel
theorem dX6_readForeignStructures_82 : decode cX6_readForeignStructures 82 = .ok (.aload_n 0, 1) := by decide +kernel
theorem dX6_readForeignStructures_83 : decode cX6_readForeignStructures 83 = .ok (.iconst 0, 1) := by decide +kernel
theorem dX6_readForeignStructures_84 : decode cX6_readForeignStructures 84 = .ok (.bipush 15, 2) := by decide +kernel
theorem dX6_readForeignStructures_86 : decode cX6_readForeignStructures 86 = .ok (.invokevirtual 59, 3) := by decide +kernel
theorem dX6_readForeignStructures_89 : decode cX6_readForeignStructures 89 = .ok (.invokevirtual 106, 3) := by decide +kernel
theorem dX6_readForeignStructures_92 : decode cX6_readForeignStructures 92 = .ok (.aload_n 0, 1) := by decide +kernel
theorem dX6_readForeignStructures_93 : decode cX6_readForeignStructures 93 = .ok (.getfield 17, 3) := by decide +kernel
theorem dX6_readForeignStructures_96 : decode cX6_readForeignStructures 96 = .ok (.iload_n 2, 1) := by decide +kernel
theorem dX6_readForeignStructures_97 : decode cX6_readForeignStructures 97 = .ok (.iconst 3, 1) := by decide +kernel
theorem dX6_readForeignStructures_98 : decode cX6_readForeignStructures 98 = .ok (.iconst 0, 1) := by decide +kernel
theorem dX6_readForeignStructures_99 : decode cX6_readForeignStructures 99 = .ok (.invokevirtual 106, 3) := by decide +kernel
theorem dX6_readForeignStructures_102 : decode cX6_readForeignStructures 102 = .ok (.iinc 2 1, 3) := by decide +kernel
theorem dX6_readForeignStructures_105 : decode cX6_readForeignStructures 105 = .ok (.goto (-73), 3) := by decide +kernel
theorem dX6_readForeignStructures_108 : decode cX6_readForeignStructures 108 = .ok (.return_, 1) := by decide +kernel
set_option maxRecDepth 20000 in
theorem ggX6_readForeignFunctions_X6_readNumber : GoodIn wsX6_readForeignFunctions wsX6_readNumber := goodIn_r _ [9, 10, 3, 11, 12, 13, 8, 14, 1, 15, 16, 17, 18, 19, 20, 21, 52, 53, 54, 55, 56, 57, 58, 59, 60, 61, 62, 63, 64, 65, 66, 67, 68, 69, 70, 71, 72, 73, 74, 75] rfl (by decide +kernel)
set_option maxRecDepth 20000 in
theorem gX6_readForeignFunctions_X6_readNumber : GoodIn wsX6_readForeignFunctions (wsV RX6 59 RX6 yX6_readNumber wsX6_readNumber) := goodIn_app (goodIn_of _ (by decide +kernel)) ggX6_readForeignFunctions_X6_readNumber
set_option maxRecDepth 20000 in
theorem ggX6_readForeignFunctions_X6_readShort : GoodIn wsX6_readForeignFunctions wsX6_readShort := goodIn_r _ [25, 11, 12, 13, 8, 14, 3, 10, 1, 15, 16, 17, 52, 53, 54, 55, 56, 57, 58, 59, 60, 61, 62, 63, 64, 65, 66, 67, 68, 69, 70, 71, 72, 73, 74, 75] rfl (by decide +kernel)
set_option maxRecDepth 20000 in
theorem gX6_readForeignFunctions_X6_readShort : GoodIn wsX6_readForeignFunctions (wsV RX6 94 RX6 yX6_readShort wsX6_readShort) := goodIn_app (goodIn_of _ (by decide +kernel)) ggX6_readForeignFunctions_X6_readShort
set_option maxRecDepth 20000 in
theorem ggX6_readForeignFunctions_X5_setFunction : GoodIn wsX6_readForeignFunctions wsX5_setFunction := goodIn_r _ [30, 31, 61, 62, 63, 64, 65, 66, 67, 68, 69, 70, 71, 72, 73, 74, 75] rfl (by decide +kernel)
set_option maxRecDepth 20000 in
theorem gX6_readForeignFunctions_X5_setFunction : GoodIn wsX6_readForeignFunctions (wsV RX6 113 RX5 yX5_setFunction wsX5_setFunction) := goodIn_app (goodIn_of _ (by decide +kernel)) ggX6_readForeignFunctions_X5_setFunction
set_option maxRecDepth 20000 in
theorem ggX6_readForeignFunctions_X6_readByte : GoodIn wsX6_readForeignFunctions wsX6_readByte := goodIn_r _ [14, 3, 10, 1, 15, 16, 17, 52, 53, 54, 55, 56, 57, 58, 59, 60, 61, 62, 63, 64, 65, 66, 67, 68, 69, 70, 71, 72, 73, 74, 75] rfl (by decide +kernel)
set_option maxRecDepth 20000 in
theorem gX6_readForeignFunctions_X6_readByte : GoodIn wsX6_readForeignFunctions (wsV RX6 87 RX6 yX6_readByte wsX6_readByte) := goodIn_app (goodIn_of _ (by decide +kernel)) ggX6_readForeignFunctions_X6_readByte
set_option maxRecDepth 20000 in
theorem ggX6_readForeignFunctions_X6_readList : GoodIn wsX6_readForeignFunctions wsX6_readList := goodIn_r _ [35, 5, 6, 7, 8, 9, 10, 3, 11, 12, 13, 14, 1, 15, 16, 17, 18, 19, 20, 21, 36, 37, 38, 39, 40, 41, 42, 43, 44, 45, 46, 47, 48, 29, 49, 50, 51, 52, 53, 54, 55, 56, 57, 58, 59, 60, 61, 62, 63, 64, 65, 66, 67, 68, 69, 70, 71, 72, 73, 74, 75] rfl (by decide +kernel)
set_option maxRecDepth 20000 in
theorem gX6_readForeignFunctions_X6_readList : GoodIn wsX6_readForeignFunctions (wsV RX6 116 RX6 yX6_readList wsX6_readList) := goodIn_app (goodIn_of _ (by decide +kernel)) ggX6_readForeignFunctions_X6_readList
theorem dX6_readForeignFunctions_0 : decode cX6_readForeignFunctions 0 = .ok (.aload_n 0, 1) := by decide +kernel
theorem dX6_readForeignFunctions_1 : decode cX6_readForeignFunctions 1 = .ok (.getfield 17, 3) := by decide +kernel
theorem dX6_readForeignFunctions_4 : decode cX6_readForeignFunctions 4 = .ok (.aload_n 0, 1) := by decide +kernel
theorem dX6_readForeignFunctions_5 : decode cX6_readForeignFunctions 5 = .ok (.iconst 0, 1) := by decide +kernel
theorem dX6_readForeignFunctions_6 : decode cX6_readForeignFunctions 6 = .ok (.bipush 32, 2) := by decide +kernel
theorem dX6_readForeignFunctions_8 : decode cX6_readForeignFunctions 8 = .ok (.invokevirtual 59, 3) := by decide +kernel
theorem dX6_readForeignFunctions_11 : decode cX6_readForeignFunctions 11 = .ok (.putfield 110, 3) := by decide +kernel
theorem dX6_readForeignFunctions_14 : decode cX6_readForeignFunctions 14 = .ok (.iconst 0, 1) := by decide +kernel
theorem dX6_readForeignFunctions_15 : decode cX6_readForeignFunctions 15 = .ok (.istore_n 1, 1) := by decide +kernel
theorem dX6_readForeignFunctions_16 : decode cX6_readForeignFunctions 16 = .ok (.iload_n 1, 1) := by decide +kernel
theorem dX6_readForeignFunctions_17 : decode cX6_readForeignFunctions 17 = .ok (.aload_n 0, 1) := by decide +kernel
theorem dX6_readForeignFunctions_18 : decode cX6_readForeignFunctions 18 = .ok (.getfield 17, 3) := by decide +kernel
theorem dX6_readForeignFunctions_21 : decode cX6_readForeignFunctions 21 = .ok (.getfield 110, 3) := by decide +kernel
theorem dX6_readForeignFunctions_24 : decode cX6_readForeignFunctions 24 = .ok (.if_icmp .ge 132, 3) := by decide +kernel
theorem dX6_readForeignFunctions_27 : decode cX6_readForeignFunctions 27 = .ok (.aload_n 0, 1) := by decide +kernel
theorem dX6_readForeignFunctions_28 : decode cX6_readForeignFunctions 28 = .ok (.getfield 21, 3) := by decide +kernel
theorem dX6_readForeignFunctions_31 : decode cX6_readForeignFunctions 31 = .ok (.ifCond .ne 125, 3) := by decide +kernel
theorem dX6_readForeignFunctions_34 : decode cX6_readForeignFunctions 34 = .ok (.bipush 64, 2) := by decide +kernel
theorem dX6_readForeignFunctions_36 : decode cX6_readForeignFunctions 36 = .ok (.iload_n 1, 1) := by decide +kernel
theorem dX6_readForeignFunctions_37 : decode cX6_readForeignFunctions 37 = .ok (.iadd, 1) := by decide +kernel
theorem dX6_readForeignFunctions_38 : decode cX6_readForeignFunctions 38 = .ok (.istore_n 2, 1) := by decide +kernel
theorem dX6_readForeignFunctions_39 : decode cX6_readForeignFunctions 39 = .ok (.aload_n 0, 1) := by decide +kernel
theorem dX6_readForeignFunctions_40 : decode cX6_readForeignFunctions 40 = .ok (.getfield 17, 3) := by decide +kernel
theorem dX6_readForeignFunctions_43 : decode cX6_readForeignFunctions 43 = .ok (.iload_n 2, 1) := by decide +kernel
theorem dX6_readForeignFunctions_44 : decode cX6_readForeignFunctions 44 = .ok (.bipush 7, 2) := by decide +kernel
theorem dX6_readForeignFunctions_46 : decode cX6_readForeignFunctions 46 = .ok (.aload_n 0, 1) := by decide +kernel
theorem dX6_readForeignFunctions_47 : decode cX6_readForeignFunctions 47 = .ok (.invokevirtual 94, 3) := by decide +kernel
theorem dX6_readForeignFunctions_50 : decode cX6_readForeignFunctions 50 = .ok (.invokevirtual 113, 3) := by decide +kernel
theorem dX6_readForeignFunctions_53 : decode cX6_readForeignFunctions 53 = .ok (.aload_n 0, 1) := by decide +kernel
theorem dX6_readForeignFunctions_54 : decode cX6_readForeignFunctions 54 = .ok (.getfield 17, 3) := by decide +kernel
theorem dX6_readForeignFunctions_57 : decode cX6_readForeignFunctions 57 = .ok (.iload_n 2, 1) := by decide +kernel
theorem dX6_readForeignFunctions_58 : decode cX6_readForeignFunctions 58 = .ok (.bipush 8, 2) := by decide +kernel
theorem dX6_readForeignFunctions_60 : decode cX6_readForeignFunctions 60 = .ok (.aload_n 0, 1) := by decide +kernel
theorem dX6_readForeignFunctions_61 : decode cX6_readForeignFunctions 61 = .ok (.invokevirtual 87, 3) := by decide +kernel
theorem dX6_readForeignFunctions_64 : decode cX6_readForeignFunctions 64 = .ok (.invokevirtual 113, 3) := by decide +kernel
theorem dX6_readForeignFunctions_67 : decode cX6_readForeignFunctions 67 = .ok (.aload_n 0, 1) := by decide +kernel
theorem dX6_readForeignFunctions_68 : decode cX6_readForeignFunctions 68 = .ok (.getfield 17, 3) := by decide +kernel
theorem dX6_readForeignFunctions_71 : decode cX6_readForeignFunctions 71 = .ok (.iload_n 2, 1) := by decide +kernel
theorem dX6_readForeignFunctions_72 : decode cX6_readForeignFunctions 72 = .ok (.iconst 0, 1) := by decide +kernel
theorem dX6_readForeignFunctions_73 : decode cX6_readForeignFunctions 73 = .ok (.aload_n 0, 1) := by decide +kernel
theorem dX6_readForeignFunctions_74 : decode cX6_readForeignFunctions 74 = .ok (.iconst 0, 1) := by decide +kernel
theorem dX6_readForeignFunctions_75 : decode cX6_readForeignFunctions 75 = .ok (.bipush 7, 2) := by decide +kernel
theorem dX6_readForeignFunctions_77 : decode cX6_readForeignFunctions 77 = .ok (.invokevirtual 59, 3) := by decide +kernel
theorem dX6_readForeignFunctions_80 : decode cX6_readForeignFunctions 80 = .ok (.invokevirtual 113, 3) := by decide +kernel
theorem dX6_readForeignFunctions_83 : decode cX6_readForeignFunctions 83 = .ok (.aload_n 0, 1) := by decide +kernel
theorem dX6_readForeignFunctions_84 : decode cX6_readForeignFunctions 84 = .ok (.getfield 17, 3) := by decide +kernel
theorem dX6_readForeignFunctions_87 : decode cX6_readForeignFunctions 87 = .ok (.iload_n 2, 1) := by decide +kernel
theorem dX6_readForeignFunctions_88 : decode cX6_readForeignFunctions 88 = .ok (.iconst 1, 1) := by decide +kernel
theorem dX6_readForeignFunctions_89 : decode cX6_readForeignFunctions 89 = .ok (.aload_n 0, 1) := by decide +kernel
theorem dX6_readForeignFunctions_90 : decode cX6_readForeignFunctions 90 = .ok (.getfield 17, 3) := by decide +kernel
theorem dX6_readForeignFunctions_93 : decode cX6_readForeignFunctions 93 = .ok (.getfield 53, 3) := by decide +kernel
theorem dX6_readForeignFunctions_96 : decode cX6_readForeignFunctions 96 = .ok (.invokevirtual 113, 3) := by decide +kernel
theorem dX6_readForeignFunctions_99 : decode cX6_readForeignFunctions 99 = .ok (.aload_n 0, 1) := by decide +kernel
theorem dX6_readForeignFunctions_100 : decode cX6_readForeignFunctions 100 = .ok (.getfield 17, 3) := by decide +kernel
theorem dX6_readForeignFunctions_103 : decode cX6_readForeignFunctions 103 = .ok (.iload_n 2, 1) := by decide +kernel
theorem dX6_readForeignFunctions_104 : decode cX6_readForeignFunctions 104 = .ok (.iconst 2, 1) := by decide +kernel
theorem dX6_readForeignFunctions_105 : decode cX6_readForeignFunctions 105 = .ok (.aload_n 0, 1) := by decide +kernel
theorem dX6_readForeignFunctions_106 : decode cX6_readForeignFunctions 106 = .ok (.bipush 8, 2) := by decide +kernel
theorem dX6_readForeignFunctions_108 : decode cX6_readForeignFunctions 108 = .ok (.invokevirtual 116, 3) := by decide +kernel
theorem dX6_readForeignFunctions_111 : decode cX6_readForeignFunctions 111 = .ok (.invokevirtual 113, 3) := by decide +kernel
theorem dX6_readForeignFunctions_114 : decode cX6_readForeignFunctions 114 = .ok (.aload_n 0, 1) := by decide +kernel
theorem dX6_readForeignFunctions_115 : decode cX6_readForeignFunctions 115 = .ok (.getfield 17, 3) := by decide +kernel
theorem dX6_readForeignFunctions_118 : decode cX6_readForeignFunctions 118 = .ok (.iload_n 2, 1) := by decide +kernel
theorem dX6_readForeignFunctions_119 : decode cX6_readForeignFunctions 119 = .ok (.iconst 3, 1) := by decide +kernel
theorem dX6_readForeignFunctions_120 : decode cX6_readForeignFunctions 120 = .ok (.aload_n 0, 1) := by decide +kernel
theorem dX6_readForeignFunctions_121 : decode cX6_readForeignFunctions 121 = .ok (.bipush 8, 2) := by decide +kernel
theorem dX6_readForeignFunctions_123 : decode cX6_readForeignFunctions 123 = .ok (.invokevirtual 116, 3) := by decide +kernel
theorem dX6_readForeignFunctions_126 : decode cX6_readForeignFunctions 126 = .ok (.invokevirtual 113, 3) := by decide +kernel
theorem dX6_readForeignFunctions_129 : decode cX6_readForeignFunctions 129 = .ok (.aload_n 0, 1) := by decide +kernel
theorem dX6_readForeignFunctions_130 : decode cX6_readForeignFunctions 130 = .ok (.getfield 17, 3) := by decide +kernel
theorem dX6_readForeignFunctions_133 : decode cX6_readForeignFunctions 133 = .ok (.iload_n 2, 1) := by decide +kernel
theorem dX6_readForeignFunctions_134 : decode cX6_readForeignFunctions 134 = .ok (.iconst 4, 1) := by decide +kernel
theorem dX6_readForeignFunctions_135 : decode cX6_readForeignFunctions 135 = .ok (.iconst 0, 1) := by decide +kernel
theorem dX6_readForeignFunctions_136 : decode cX6_readForeignFunctions 136 = .ok (.invokevirtual 113, 3) := by decide +kernel
theorem dX6_readForeignFunctions_139 : decode cX6_readForeignFunctions 139 = .ok (.aload_n 0, 1) := by decide +kernel
theorem dX6_readForeignFunctions_140 : decode cX6_readForeignFunctions 140 = .ok (.getfield 17, 3) := by decide +kernel
theorem dX6_readForeignFunctions_143 : decode cX6_readForeignFunctions 143 = .ok (.iload_n 2, 1) := by decide +kernel
theorem dX6_readForeignFunctions_144 : decode cX6_readForeignFunctions 144 = .ok (.bipush 6, 2) := by decide +kernel
theorem dX6_readForeignFunctions_146 : decode cX6_readForeignFunctions 146 = .ok (.iconst 0, 1) := by decide +kernel
theorem dX6_readForeignFunctions_147 : decode cX6_readForeignFunctions 147 = .ok (.invokevirtual 113, 3) := by decide +kernel
theorem dX6_readForeignFunctions_150 : decode cX6_readForeignFunctions 150 = .ok (.iinc 1 1, 3) := by decide +kernel
theorem dX6_readForeignFunctions_153 : decode cX6_readForeignFunctions 153 = .ok (.goto (-137), 3) := by decide +kernel
theorem dX6_readForeignFunctions_156 : decode cX6_readForeignFunctions 156 = .ok (.return_, 1) := by decide +kernel
set_option maxRecDepth 20000 in
theorem ggX6_readFunctions_X6_readNumber : GoodIn wsX6_readFunctions wsX6_readNumber := goodIn_r _ [15, 7, 3, 16, 17, 18, 14, 19, 1, 20, 21, 22, 23, 24, 25, 26, 92, 93, 94, 95, 96, 97, 98, 99, 100, 101, 102, 103, 104, 105, 106, 107, 108, 109, 110, 111, 112, 113, 114, 115] rfl (by decide +kernel)
set_option maxRecDepth 20000 in
theorem gX6_readFunctions_X6_readNumber : GoodIn wsX6_readFunctions (wsV RX6 59 RX6 yX6_readNumber wsX6_readNumber) := goodIn_app (goodIn_of _ (by decide +kernel)) ggX6_readFunctions_X6_readNumber
set_option maxRecDepth 20000 in
theorem ggX6_readFunctions_X5_setFunction : GoodIn wsX6_readFunctions wsX5_setFunction := goodIn_r _ [31, 32, 101, 102, 103, 104, 105, 106, 107, 108, 109, 110, 111, 112, 113, 114, 115] rfl (by decide +kernel)
set_option maxRecDepth 20000 in
theorem gX6_readFunctions_X5_setFunction : GoodIn wsX6_readFunctions (wsV RX6 113 RX5 yX5_setFunction wsX5_setFunction) := goodIn_app (goodIn_of _ (by decide +kernel)) ggX6_readFunctions_X5_setFunction
set_option maxRecDepth 20000 in
theorem ggX6_readFunctions_X6_readList : GoodIn wsX6_readFunctions wsX6_readList := goodIn_r _ [36, 11, 12, 13, 14, 15, 7, 3, 16, 17, 18, 19, 1, 20, 21, 22, 23, 24, 25, 26, 37, 38, 39, 40, 41, 42, 43, 44, 45, 46, 47, 48, 49, 30, 50, 51, 52, 92, 93, 94, 95, 96, 97, 98, 99, 100, 101, 102, 103, 104, 105, 106, 107, 108, 109, 110, 111, 112, 113, 114, 115] rfl (by decide +kernel)
set_option maxRecDepth 20000 in
theorem gX6_readFunctions_X6_readList : GoodIn wsX6_readFunctions (wsV RX6 116 RX6 yX6_readList wsX6_readList) := goodIn_app (goodIn_of _ (by decide +kernel)) ggX6_readFunctions_X6_readList
set_option maxRecDepth 20000 in
theorem ggX6_readFunctions_X6_readShort : GoodIn wsX6_readFunctions wsX6_readShort := goodIn_r _ [56, 16, 17, 18, 14, 19, 3, 7, 1, 20, 21, 22, 92, 93, 94, 95, 96, 97, 98, 99, 100, 101, 102, 103, 104, 105, 106, 107, 108, 109, 110, 111, 112, 113, 114, 115] rfl (by decide +kernel)
set_option maxRecDepth 20000 in
theorem gX6_readFunctions_X6_readShort : GoodIn wsX6_readFunctions (wsV RX6 94 RX6 yX6_readShort wsX6_readShort) := goodIn_app (goodIn_of _ (by decide +kernel)) ggX6_readFunctions_X6_readShort
set_option maxRecDepth 20000 in
theorem ggX6_readFunctions_X6_fail : GoodIn wsX6_readFunctions wsX6_fail := goodIn_r _ [26, 3, 21, 92, 93, 94, 95, 96, 97, 98, 99, 100] rfl (by decide +kernel)
set_option maxRecDepth 20000 in
theorem gX6_readFunctions_X6_fail : GoodIn wsX6_readFunctions (wsV RX6 76 RX6 yX6_fail wsX6_fail) := goodIn_app (goodIn_of _ (by decide +kernel)) ggX6_readFunctions_X6_fail
set_option maxRecDepth 20000 in
theorem ggX6_readFunctions_X6_readInstruction : GoodIn wsX6_readFunctions wsX6_readInstruction := goodIn_r _ [60, 1, 7, 8, 45, 6, 2, 61, 62, 63, 64, 65, 30, 66, 67, 68, 16, 17, 18, 14, 19, 3, 20, 21, 22, 23, 24, 25, 26, 53, 54, 55, 56, 69, 70, 71, 72, 73, 74, 75, 76, 77, 78, 79, 80, 46, 81, 82, 83, 84, 85, 86, 87, 88, 89, 90, 91, 11, 12, 13, 15, 92, 93, 94, 95, 96, 97, 98, 99, 100, 101, 102, 103, 104, 105, 106, 107, 108, 109, 110, 111, 112, 113, 114, 115] rfl (by decide +kernel)
set_option maxRecDepth 20000 in
theorem gX6_readFunctions_X6_readInstruction : GoodIn wsX6_readFunctions (wsV RX6 132 RX6 yX6_readInstruction wsX6_readInstruction) := goodIn_app (goodIn_of _ (by decide +kernel)) ggX6_readFunctions_X6_readInstruction
theorem dX6_readFunctions_0 : decode cX6_readFunctions 0 = .ok (.aload_n 0, 1) := by decide +kernel
theorem dX6_readFunctions_1 : decode cX6_readFunctions 1 = .ok (.iconst 0, 1) := by decide +kernel
theorem dX6_readFunctions_2 : decode cX6_readFunctions 2 = .ok (.bipush 64, 2) := by decide +kernel
theorem dX6_readFunctions_4 : decode cX6_readFunctions 4 = .ok (.invokevirtual 59, 3) := by decide +kernel
theorem dX6_readFunctions_7 : decode cX6_readFunctions 7 = .ok (.istore_n 1, 1) := by decide +kernel
theorem dX6_readFunctions_8 : decode cX6_readFunctions 8 = .ok (.aload_n 0, 1) := by decide +kernel
theorem dX6_readFunctions_9 : decode cX6_readFunctions 9 = .ok (.getfield 17, 3) := by decide +kernel
theorem dX6_readFunctions_12 : decode cX6_readFunctions 12 = .ok (.iload_n 1, 1) := by decide +kernel
theorem dX6_readFunctions_13 : decode cX6_readFunctions 13 = .ok (.putfield 120, 3) := by decide +kernel
theorem dX6_readFunctions_16 : decode cX6_readFunctions 16 = .ok (.iconst 0, 1) := by decide +kernel
theorem dX6_readFunctions_17 : decode cX6_readFunctions 17 = .ok (.istore_n 2, 1) := by decide +kernel
theorem dX6_readFunctions_18 : decode cX6_readFunctions 18 = .ok (.iload_n 2, 1) := by decide +kernel
theorem dX6_readFunctions_19 : decode cX6_readFunctions 19 = .ok (.iload_n 1, 1) := by decide +kernel
theorem dX6_readFunctions_20 : decode cX6_readFunctions 20 = .ok (.if_icmp .ge 256, 3) := by decide +kernel
theorem dX6_readFunctions_23 : decode cX6_readFunctions 23 = .ok (.aload_n 0, 1) := by decide +kernel
theorem dX6_readFunctions_24 : decode cX6_readFunctions 24 = .ok (.getfield 21, 3) := by decide +kernel
theorem dX6_readFunctions_27 : decode cX6_readFunctions 27 = .ok (.ifCond .ne 249, 3) := by decide +kernel
theorem dX6_readFunctions_30 : decode cX6_readFunctions 30 = .ok (.aload_n 0, 1) := by decide +kernel
theorem dX6_readFunctions_31 : decode cX6_readFunctions 31 = .ok (.getfield 17, 3) := by decide +kernel
theorem dX6_readFunctions_34 : decode cX6_readFunctions 34 = .ok (.iload_n 2, 1) := by decide +kernel
theorem dX6_readFunctions_35 : decode cX6_readFunctions 35 = .ok (.bipush 7, 2) := by decide +kernel
theorem dX6_readFunctions_37 : decode cX6_readFunctions 37 = .ok (.aload_n 0, 1) := by decide +kernel
theorem dX6_readFunctions_38 : decode cX6_readFunctions 38 = .ok (.getfield 17, 3) := by decide +kernel
theorem dX6_readFunctions_41 : decode cX6_readFunctions 41 = .ok (.getfield 97, 3) := by decide +kernel
theorem dX6_readFunctions_44 : decode cX6_readFunctions 44 = .ok (.invokevirtual 113, 3) := by decide +kernel
theorem dX6_readFunctions_47 : decode cX6_readFunctions 47 = .ok (.aload_n 0, 1) := by decide +kernel
theorem dX6_readFunctions_48 : decode cX6_readFunctions 48 = .ok (.getfield 17, 3) := by decide +kernel
theorem dX6_readFunctions_51 : decode cX6_readFunctions 51 = .ok (.iload_n 2, 1) := by decide +kernel
theorem dX6_readFunctions_52 : decode cX6_readFunctions 52 = .ok (.bipush 8, 2) := by decide +kernel
theorem dX6_readFunctions_54 : decode cX6_readFunctions 54 = .ok (.iload_n 2, 1) := by decide +kernel
theorem dX6_readFunctions_55 : decode cX6_readFunctions 55 = .ok (.invokevirtual 113, 3) := by decide +kernel
theorem dX6_readFunctions_58 : decode cX6_readFunctions 58 = .ok (.aload_n 0, 1) := by decide +kernel
theorem dX6_readFunctions_59 : decode cX6_readFunctions 59 = .ok (.getfield 17, 3) := by decide +kernel
theorem dX6_readFunctions_62 : decode cX6_readFunctions 62 = .ok (.iload_n 2, 1) := by decide +kernel
theorem dX6_readFunctions_63 : decode cX6_readFunctions 63 = .ok (.iconst 0, 1) := by decide +kernel
theorem dX6_readFunctions_64 : decode cX6_readFunctions 64 = .ok (.aload_n 0, 1) := by decide +kernel
theorem dX6_readFunctions_65 : decode cX6_readFunctions 65 = .ok (.iconst 0, 1) := by decide +kernel
theorem dX6_readFunctions_66 : decode cX6_readFunctions 66 = .ok (.bipush 7, 2) := by decide +kernel
theorem dX6_readFunctions_68 : decode cX6_readFunctions 68 = .ok (.invokevirtual 59, 3) := by decide +kernel
theorem dX6_readFunctions_71 : decode cX6_readFunctions 71 = .ok (.invokevirtual 113, 3) := by decide +kernel
theorem dX6_readFunctions_74 : decode cX6_readFunctions 74 = .ok (.aload_n 0, 1) := by decide +kernel
theorem dX6_readFunctions_75 : decode cX6_readFunctions 75 = .ok (.getfield 17, 3) := by decide +kernel
theorem dX6_readFunctions_78 : decode cX6_readFunctions 78 = .ok (.iload_n 2, 1) := by decide +kernel
theorem dX6_readFunctions_79 : decode cX6_readFunctions 79 = .ok (.iconst 1, 1) := by decide +kernel
theorem dX6_readFunctions_80 : decode cX6_readFunctions 80 = .ok (.aload_n 0, 1) := by decide +kernel
theorem dX6_readFunctions_81 : decode cX6_readFunctions 81 = .ok (.getfield 17, 3) := by decide +kernel
theorem dX6_readFunctions_84 : decode cX6_readFunctions 84 = .ok (.getfield 53, 3) := by decide +kernel
theorem dX6_readFunctions_87 : decode cX6_readFunctions 87 = .ok (.invokevirtual 113, 3) := by decide +kernel
theorem dX6_readFunctions_90 : decode cX6_readFunctions 90 = .ok (.aload_n 0, 1) := by decide +kernel
theorem dX6_readFunctions_91 : decode cX6_readFunctions 91 = .ok (.bipush 8, 2) := by decide +kernel
theorem dX6_readFunctions_93 : decode cX6_readFunctions 93 = .ok (.invokevirtual 116, 3) := by decide +kernel
theorem dX6_readFunctions_96 : decode cX6_readFunctions 96 = .ok (.istore_n 3, 1) := by decide +kernel
theorem dX6_readFunctions_97 : decode cX6_readFunctions 97 = .ok (.aload_n 0, 1) := by decide +kernel
theorem dX6_readFunctions_98 : decode cX6_readFunctions 98 = .ok (.getfield 17, 3) := by decide +kernel
theorem dX6_readFunctions_101 : decode cX6_readFunctions 101 = .ok (.iload_n 2, 1) := by decide +kernel
theorem dX6_readFunctions_102 : decode cX6_readFunctions 102 = .ok (.iconst 2, 1) := by decide +kernel
theorem dX6_readFunctions_103 : decode cX6_readFunctions 103 = .ok (.iload_n 3, 1) := by decide +kernel
theorem dX6_readFunctions_104 : decode cX6_readFunctions 104 = .ok (.invokevirtual 113, 3) := by decide +kernel
theorem dX6_readFunctions_107 : decode cX6_readFunctions 107 = .ok (.aload_n 0, 1) := by decide +kernel
theorem dX6_readFunctions_108 : decode cX6_readFunctions 108 = .ok (.getfield 17, 3) := by decide +kernel
theorem dX6_readFunctions_111 : decode cX6_readFunctions 111 = .ok (.iload_n 2, 1) := by decide +kernel
theorem dX6_readFunctions_112 : decode cX6_readFunctions 112 = .ok (.iconst 3, 1) := by decide +kernel
theorem dX6_readFunctions_113 : decode cX6_readFunctions 113 = .ok (.aload_n 0, 1) := by decide +kernel
theorem dX6_readFunctions_114 : decode cX6_readFunctions 114 = .ok (.bipush 8, 2) := by decide +kernel
theorem dX6_readFunctions_116 : decode cX6_readFunctions 116 = .ok (.invokevirtual 116, 3) := by decide +kernel
theorem dX6_readFunctions_119 : decode cX6_readFunctions 119 = .ok (.invokevirtual 113, 3) := by decide +kernel
theorem dX6_readFunctions_122 : decode cX6_readFunctions 122 = .ok (.aload_n 0, 1) := by decide +kernel
theorem dX6_readFunctions_123 : decode cX6_readFunctions 123 = .ok (.bipush 32, 2) := by decide +kernel
theorem dX6_readFunctions_125 : decode cX6_readFunctions 125 = .ok (.invokevirtual 116, 3) := by decide +kernel
theorem dX6_readFunctions_128 : decode cX6_readFunctions 128 = .ok (.istore 4, 2) := by decide +kernel
theorem dX6_readFunctions_130 : decode cX6_readFunctions 130 = .ok (.aload_n 0, 1) := by decide +kernel
theorem dX6_readFunctions_131 : decode cX6_readFunctions 131 = .ok (.getfield 17, 3) := by decide +kernel
theorem dX6_readFunctions_134 : decode cX6_readFunctions 134 = .ok (.iload_n 2, 1) := by decide +kernel
theorem dX6_readFunctions_135 : decode cX6_readFunctions 135 = .ok (.iconst 4, 1) := by decide +kernel
theorem dX6_readFunctions_136 : decode cX6_readFunctions 136 = .ok (.iload 4, 2) := by decide +kernel
theorem dX6_readFunctions_138 : decode cX6_readFunctions 138 = .ok (.invokevirtual 113, 3) := by decide +kernel
theorem dX6_readFunctions_141 : decode cX6_readFunctions 141 = .ok (.aload_n 0, 1) := by decide +kernel
theorem dX6_readFunctions_142 : decode cX6_readFunctions 142 = .ok (.iload_n 3, 1) := by decide +kernel
theorem dX6_readFunctions_143 : decode cX6_readFunctions 143 = .ok (.iload 4, 2) := by decide +kernel
theorem dX6_readFunctions_145 : decode cX6_readFunctions 145 = .ok (.iadd, 1) := by decide +kernel
theorem dX6_readFunctions_146 : decode cX6_readFunctions 146 = .ok (.putfield 123, 3) := by decide +kernel
theorem dX6_readFunctions_149 : decode cX6_readFunctions 149 = .ok (.aload_n 0, 1) := by decide +kernel
theorem dX6_readFunctions_150 : decode cX6_readFunctions 150 = .ok (.getfield 32, 3) := by decide +kernel
theorem dX6_readFunctions_153 : decode cX6_readFunctions 153 = .ok (.istore 5, 2) := by decide +kernel
theorem dX6_readFunctions_155 : decode cX6_readFunctions 155 = .ok (.aload_n 0, 1) := by decide +kernel
theorem dX6_readFunctions_156 : decode cX6_readFunctions 156 = .ok (.aload_n 0, 1) := by decide +kernel
theorem dX6_readFunctions_157 : decode cX6_readFunctions 157 = .ok (.invokevirtual 94, 3) := by decide +kernel
theorem dX6_readFunctions_160 : decode cX6_readFunctions 160 = .ok (.putfield 126, 3) := by decide +kernel
theorem dX6_readFunctions_163 : decode cX6_readFunctions 163 = .ok (.aload_n 0, 1) := by decide +kernel
theorem dX6_readFunctions_164 : decode cX6_readFunctions 164 = .ok (.dup, 1) := by decide +kernel
theorem dX6_readFunctions_165 : decode cX6_readFunctions 165 = .ok (.getfield 35, 3) := by decide +kernel
theorem dX6_readFunctions_168 : decode cX6_readFunctions 168 = .ok (.aload_n 0, 1) := by decide +kernel
theorem dX6_readFunctions_169 : decode cX6_readFunctions 169 = .ok (.getfield 126, 3) := by decide +kernel
theorem dX6_readFunctions_172 : decode cX6_readFunctions 172 = .ok (.iadd, 1) := by decide +kernel
theorem dX6_readFunctions_173 : decode cX6_readFunctions 173 = .ok (.putfield 35, 3) := by decide +kernel
theorem dX6_readFunctions_176 : decode cX6_readFunctions 176 = .ok (.aload_n 0, 1) := by decide +kernel
theorem dX6_readFunctions_177 : decode cX6_readFunctions 177 = .ok (.getfield 126, 3) := by decide +kernel
theorem dX6_readFunctions_180 : decode cX6_readFunctions 180 = .ok (.iconst 1, 1) := by decide +kernel
theorem dX6_readFunctions_181 : decode cX6_readFunctions 181 = .ok (.if_icmp .lt 23, 3) := by decide +kernel
theorem dX6_readFunctions_184 : decode cX6_readFunctions 184 = .ok (.aload_n 0, 1) := by decide +kernel
theorem dX6_readFunctions_185 : decode cX6_readFunctions 185 = .ok (.getfield 126, 3) := by decide +kernel
theorem dX6_readFunctions_188 : decode cX6_readFunctions 188 = .ok (.sipush 1024, 3) := by decide +kernel
theorem dX6_readFunctions_191 : decode cX6_readFunctions 191 = .ok (.if_icmp .gt 13, 3) := by decide +kernel
theorem dX6_readFunctions_194 : decode cX6_readFunctions 194 = .ok (.aload_n 0, 1) := by decide +kernel
theorem dX6_readFunctions_195 : decode cX6_readFunctions 195 = .ok (.getfield 35, 3) := by decide +kernel
theorem dX6_readFunctions_198 : decode cX6_readFunctions 198 = .ok (.sipush 8192, 3) := by decide +kernel
theorem dX6_readFunctions_201 : decode cX6_readFunctions 201 = .ok (.if_icmp .le 10, 3) := by decide +kernel
theorem dX6_readFunctions_204 : decode cX6_readFunctions 204 = .ok (.aload_n 0, 1) := by decide +kernel
theorem dX6_readFunctions_205 : decode cX6_readFunctions 205 = .ok (.iconst 3, 1) := by decide +kernel
theorem dX6_readFunctions_206 : decode cX6_readFunctions 206 = .ok (.iload 5, 2) := by decide +kernel
theorem dX6_readFunctions_208 : decode cX6_readFunctions 208 = .ok (.invokevirtual 76, 3) := by decide +kernel
theorem dX6_readFunctions_211 : decode cX6_readFunctions 211 = .ok (.aload_n 0, 1) := by decide +kernel
theorem dX6_readFunctions_212 : decode cX6_readFunctions 212 = .ok (.getfield 17, 3) := by decide +kernel
theorem dX6_readFunctions_215 : decode cX6_readFunctions 215 = .ok (.iload_n 2, 1) := by decide +kernel
theorem dX6_readFunctions_216 : decode cX6_readFunctions 216 = .ok (.iconst 5, 1) := by decide +kernel
theorem dX6_readFunctions_217 : decode cX6_readFunctions 217 = .ok (.aload_n 0, 1) := by decide +kernel
theorem dX6_readFunctions_218 : decode cX6_readFunctions 218 = .ok (.getfield 17, 3) := by decide +kernel
theorem dX6_readFunctions_221 : decode cX6_readFunctions 221 = .ok (.getfield 129, 3) := by decide +kernel
theorem dX6_readFunctions_224 : decode cX6_readFunctions 224 = .ok (.invokevirtual 113, 3) := by decide +kernel
theorem dX6_readFunctions_227 : decode cX6_readFunctions 227 = .ok (.aload_n 0, 1) := by decide +kernel
theorem dX6_readFunctions_228 : decode cX6_readFunctions 228 = .ok (.getfield 17, 3) := by decide +kernel
theorem dX6_readFunctions_231 : decode cX6_readFunctions 231 = .ok (.iload_n 2, 1) := by decide +kernel
theorem dX6_readFunctions_232 : decode cX6_readFunctions 232 = .ok (.bipush 6, 2) := by decide +kernel
theorem dX6_readFunctions_234 : decode cX6_readFunctions 234 = .ok (.aload_n 0, 1) := by decide +kernel
theorem dX6_readFunctions_235 : decode cX6_readFunctions 235 = .ok (.getfield 126, 3) := by decide +kernel
theorem dX6_readFunctions_238 : decode cX6_readFunctions 238 = .ok (.invokevirtual 113, 3) := by decide +kernel
theorem dX6_readFunctions_241 : decode cX6_readFunctions 241 = .ok (.iconst 0, 1) := by decide +kernel
theorem dX6_readFunctions_242 : decode cX6_readFunctions 242 = .ok (.istore 6, 2) := by decide +kernel
theorem dX6_readFunctions_244 : decode cX6_readFunctions 244 = .ok (.iload 6, 2) := by decide +kernel
theorem dX6_readFunctions_246 : decode cX6_readFunctions 246 = .ok (.aload_n 0, 1) := by decide +kernel
theorem dX6_readFunctions_247 : decode cX6_readFunctions 247 = .ok (.getfield 126, 3) := by decide +kernel
theorem dX6_readFunctions_250 : decode cX6_readFunctions 250 = .ok (.if_icmp .ge 20, 3) := by decide +kernel
theorem dX6_readFunctions_253 : decode cX6_readFunctions 253 = .ok (.aload_n 0, 1) := by decide +kernel
theorem dX6_readFunctions_254 : decode cX6_readFunctions 254 = .ok (.getfield 21, 3) := by decide +kernel
theorem dX6_readFunctions_257 : decode cX6_readFunctions 257 = .ok (.ifCond .ne 13, 3) := by decide +kernel
theorem dX6_readFunctions_260 : decode cX6_readFunctions 260 = .ok (.aload_n 0, 1) := by decide +kernel
theorem dX6_readFunctions_261 : decode cX6_readFunctions 261 = .ok (.invokevirtual 132, 3) := by decide +kernel
theorem dX6_readFunctions_264 : decode cX6_readFunctions 264 = .ok (.iinc 6 1, 3) := by decide +kernel
theorem dX6_readFunctions_267 : decode cX6_readFunctions 267 = .ok (.goto (-23), 3) := by decide +kernel
theorem dX6_readFunctions_270 : decode cX6_readFunctions 270 = .ok (.iinc 2 1, 3) := by decide +kernel
theorem dX6_readFunctions_273 : decode cX6_readFunctions 273 = .ok (.goto (-255), 3) := by decide +kernel
theorem dX6_readFunctions_276 : decode cX6_readFunctions 276 = .ok (.return_, 1) := by decide +kernel
set_option maxRecDepth 20000 in
theorem ggX6_readList_X6_readNumber : GoodIn wsX6_readList wsX6_readNumber := goodIn_r _ [5, 6, 7, 8, 9, 10, 4, 11, 12, 13, 14, 15, 16, 17, 18, 19, 37, 38, 39, 40, 41, 42, 43, 44, 45, 46, 47, 48, 49, 50, 51, 52, 53, 54, 55, 56, 57, 58, 59, 60] rfl (by decide +kernel)
set_option maxRecDepth 20000 in
theorem gX6_readList_X6_readNumber : GoodIn wsX6_readList (wsV RX6 59 RX6 yX6_readNumber wsX6_readNumber) := goodIn_app (goodIn_of _ (by decide +kernel)) ggX6_readList_X6_readNumber
set_option maxRecDepth 20000 in
theorem ggX6_readList_X6_readTypes : GoodIn wsX6_readList wsX6_readTypes := goodIn_r _ [23, 7, 12, 24, 25, 26, 4, 27, 6, 28, 29, 8, 9, 10, 11, 13, 14, 15, 16, 17, 18, 19, 30, 31, 32, 33, 34, 35, 36, 37, 38, 39, 40, 41, 42, 43, 44, 45, 46, 47, 48, 49, 50, 51, 52, 53, 54, 55, 56, 57, 58, 59, 60] rfl (by decide +kernel)
set_option maxRecDepth 20000 in
theorem gX6_readList_X6_readTypes : GoodIn wsX6_readList (wsV RX6 66 RX6 yX6_readTypes wsX6_readTypes) := goodIn_app (goodIn_of _ (by decide +kernel)) ggX6_readList_X6_readTypes
theorem dX6_readList_0 : decode cX6_readList 0 = .ok (.aload_n 0, 1) := by decide +kernel
theorem dX6_readList_1 : decode cX6_readList 1 = .ok (.iconst 0, 1) := by decide +kernel
theorem dX6_readList_2 : decode cX6_readList 2 = .ok (.iload_n 1, 1) := by decide +kernel
theorem dX6_readList_3 : decode cX6_readList 3 = .ok (.invokevirtual 59, 3) := by decide +kernel
theorem dX6_readList_6 : decode cX6_readList 6 = .ok (.istore_n 2, 1) := by decide +kernel
theorem dX6_readList_7 : decode cX6_readList 7 = .ok (.aload_n 0, 1) := by decide +kernel
theorem dX6_readList_8 : decode cX6_readList 8 = .ok (.iload_n 2, 1) := by decide +kernel
theorem dX6_readList_9 : decode cX6_readList 9 = .ok (.iconst 1, 1) := by decide +kernel
theorem dX6_readList_10 : decode cX6_readList 10 = .ok (.invokevirtual 66, 3) := by decide +kernel
theorem dX6_readList_13 : decode cX6_readList 13 = .ok (.iload_n 2, 1) := by decide +kernel
theorem dX6_readList_14 : decode cX6_readList 14 = .ok (.ireturn, 1) := by decide +kernel
set_option maxRecDepth 20000 in
theorem ggX6_readTypes_X6_readOneType : GoodIn wsX6_readTypes wsX6_readOneType := goodIn_r _ [7, 8, 9, 2, 10, 11, 12, 13, 6, 14, 1, 15, 16, 17, 18, 19, 20, 21, 29, 30, 31, 32, 33, 34, 35, 36, 37, 38, 39, 40, 41, 42, 43, 44, 45, 46, 47, 48, 49, 50, 51, 52] rfl (by decide +kernel)
set_option maxRecDepth 20000 in
theorem gX6_readTypes_X6_readOneType : GoodIn wsX6_readTypes (wsV RX6 135 RX6 yX6_readOneType wsX6_readOneType) := goodIn_app (goodIn_of _ (by decide +kernel)) ggX6_readTypes_X6_readOneType
set_option maxRecDepth 20000 in
theorem ggX6_readTypes_X5_addType : GoodIn wsX6_readTypes wsX5_addType := goodIn_r _ [26, 27, 28, 38, 39, 40, 41, 42, 43, 44, 45, 46, 47, 48, 49, 50, 51, 52] rfl (by decide +kernel)
set_option maxRecDepth 20000 in
theorem gX6_readTypes_X5_addType : GoodIn wsX6_readTypes (wsV RX6 139 RX5 yX5_addType wsX5_addType) := goodIn_app (goodIn_of _ (by decide +kernel)) ggX6_readTypes_X5_addType
theorem dX6_readTypes_0 : decode cX6_readTypes 0 = .ok (.iconst 0, 1) := by decide +kernel
theorem dX6_readTypes_1 : decode cX6_readTypes 1 = .ok (.istore_n 3, 1) := by decide +kernel
theorem dX6_readTypes_2 : decode cX6_readTypes 2 = .ok (.iload_n 3, 1) := by decide +kernel
theorem dX6_readTypes_3 : decode cX6_readTypes 3 = .ok (.iload_n 1, 1) := by decide +kernel
theorem dX6_readTypes_4 : decode cX6_readTypes 4 = .ok (.if_icmp .ge 28, 3) := by decide +kernel
theorem dX6_readTypes_7 : decode cX6_readTypes 7 = .ok (.aload_n 0, 1) := by decide +kernel
theorem dX6_readTypes_8 : decode cX6_readTypes 8 = .ok (.getfield 21, 3) := by decide +kernel
theorem dX6_readTypes_11 : decode cX6_readTypes 11 = .ok (.ifCond .ne 21, 3) := by decide +kernel
theorem dX6_readTypes_14 : decode cX6_readTypes 14 = .ok (.aload_n 0, 1) := by decide +kernel
theorem dX6_readTypes_15 : decode cX6_readTypes 15 = .ok (.getfield 17, 3) := by decide +kernel
theorem dX6_readTypes_18 : decode cX6_readTypes 18 = .ok (.aload_n 0, 1) := by decide +kernel
theorem dX6_readTypes_19 : decode cX6_readTypes 19 = .ok (.iload_n 2, 1) := by decide +kernel
theorem dX6_readTypes_20 : decode cX6_readTypes 20 = .ok (.invokevirtual 135, 3) := by decide +kernel
theorem dX6_readTypes_23 : decode cX6_readTypes 23 = .ok (.invokevirtual 139, 3) := by decide +kernel
theorem dX6_readTypes_26 : decode cX6_readTypes 26 = .ok (.iinc 3 1, 3) := by decide +kernel
theorem dX6_readTypes_29 : decode cX6_readTypes 29 = .ok (.goto (-27), 3) := by decide +kernel
theorem dX6_readTypes_32 : decode cX6_readTypes 32 = .ok (.return_, 1) := by decide +kernel
set_option maxRecDepth 20000 in
theorem ggX6_readOneType_X6_readByte : GoodIn wsX6_readOneType wsX6_readByte := goodIn_r _ [9, 10, 1, 3, 11, 12, 13, 18, 19, 20, 21, 22, 23, 24, 25, 26, 27, 28, 29, 30, 31, 32, 33, 34, 35, 36, 37, 38, 39, 40, 41] rfl (by decide +kernel)
set_option maxRecDepth 20000 in
theorem gX6_readOneType_X6_readByte : GoodIn wsX6_readOneType (wsV RX6 87 RX6 yX6_readByte wsX6_readByte) := goodIn_app (goodIn_of _ (by decide +kernel)) ggX6_readOneType_X6_readByte
set_option maxRecDepth 20000 in
theorem ggX6_readOneType_X6_fail : GoodIn wsX6_readOneType wsX6_fail := goodIn_r _ [17, 10, 12, 18, 19, 20, 21, 22, 23, 24, 25, 26] rfl (by decide +kernel)
set_option maxRecDepth 20000 in
theorem gX6_readOneType_X6_fail : GoodIn wsX6_readOneType (wsV RX6 76 RX6 yX6_fail wsX6_fail) := goodIn_app (goodIn_of _ (by decide +kernel)) ggX6_readOneType_X6_fail
theorem dX6_readOneType_0 : decode cX6_readOneType 0 = .ok (.lconst 0, 1) := by decide +kernel
theorem dX6_readOneType_1 : decode cX6_readOneType 1 = .ok (.lstore_n 2, 1) := by decide +kernel
theorem dX6_readOneType_2 : decode cX6_readOneType 2 = .ok (.aload_n 0, 1) := by decide +kernel
theorem dX6_readOneType_3 : decode cX6_readOneType 3 = .ok (.getfield 32, 3) := by decide +kernel
theorem dX6_readOneType_6 : decode cX6_readOneType 6 = .ok (.istore 4, 2) := by decide +kernel
theorem dX6_readOneType_8 : decode cX6_readOneType 8 = .ok (.aload_n 0, 1) := by decide +kernel
theorem dX6_readOneType_9 : decode cX6_readOneType 9 = .ok (.invokevirtual 87, 3) := by decide +kernel
theorem dX6_readOneType_12 : decode cX6_readOneType 12 = .ok (.istore 5, 2) := by decide +kernel
theorem dX6_readOneType_14 : decode cX6_readOneType 14 = .ok (.iload_n 1, 1) := by decide +kernel
theorem dX6_readOneType_15 : decode cX6_readOneType 15 = .ok (.ifCond .eq 33, 3) := by decide +kernel
theorem dX6_readOneType_18 : decode cX6_readOneType 18 = .ok (.iload 5, 2) := by decide +kernel
theorem dX6_readOneType_20 : decode cX6_readOneType 20 = .ok (.bipush 8, 2) := by decide +kernel
theorem dX6_readOneType_22 : decode cX6_readOneType 22 = .ok (.if_icmp .eq 10, 3) := by decide +kernel
theorem dX6_readOneType_25 : decode cX6_readOneType 25 = .ok (.iload 5, 2) := by decide +kernel
theorem dX6_readOneType_27 : decode cX6_readOneType 27 = .ok (.bipush 9, 2) := by decide +kernel
theorem dX6_readOneType_29 : decode cX6_readOneType 29 = .ok (.if_icmp .ne 19, 3) := by decide +kernel
theorem dX6_readOneType_32 : decode cX6_readOneType 32 = .ok (.iload 5, 2) := by decide +kernel
theorem dX6_readOneType_34 : decode cX6_readOneType 34 = .ok (.i2l, 1) := by decide +kernel
theorem dX6_readOneType_35 : decode cX6_readOneType 35 = .ok (.lstore_n 2, 1) := by decide +kernel
theorem dX6_readOneType_36 : decode cX6_readOneType 36 = .ok (.aload_n 0, 1) := by decide +kernel
theorem dX6_readOneType_37 : decode cX6_readOneType 37 = .ok (.getfield 32, 3) := by decide +kernel
theorem dX6_readOneType_40 : decode cX6_readOneType 40 = .ok (.istore 4, 2) := by decide +kernel
theorem dX6_readOneType_42 : decode cX6_readOneType 42 = .ok (.aload_n 0, 1) := by decide +kernel
theorem dX6_readOneType_43 : decode cX6_readOneType 43 = .ok (.invokevirtual 87, 3) := by decide +kernel
theorem dX6_readOneType_46 : decode cX6_readOneType 46 = .ok (.istore 5, 2) := by decide +kernel
theorem dX6_readOneType_48 : decode cX6_readOneType 48 = .ok (.iconst 0, 1) := by decide +kernel
theorem dX6_readOneType_49 : decode cX6_readOneType 49 = .ok (.istore 6, 2) := by decide +kernel
theorem dX6_readOneType_51 : decode cX6_readOneType 51 = .ok (.iload 6, 2) := by decide +kernel
theorem dX6_readOneType_53 : decode cX6_readOneType 53 = .ok (.iconst 4, 1) := by decide +kernel
theorem dX6_readOneType_54 : decode cX6_readOneType 54 = .ok (.if_icmp .ge 37, 3) := by decide +kernel
theorem dX6_readOneType_57 : decode cX6_readOneType 57 = .ok (.iload 5, 2) := by decide +kernel
theorem dX6_readOneType_59 : decode cX6_readOneType 59 = .ok (.bipush 7, 2) := by decide +kernel
theorem dX6_readOneType_61 : decode cX6_readOneType 61 = .ok (.if_icmp .ne 30, 3) := by decide +kernel
theorem dX6_readOneType_64 : decode cX6_readOneType 64 = .ok (.lload_n 2, 1) := by decide +kernel
theorem dX6_readOneType_65 : decode cX6_readOneType 65 = .ok (.bipush 8, 2) := by decide +kernel
theorem dX6_readOneType_67 : decode cX6_readOneType 67 = .ok (.lshl, 1) := by decide +kernel
theorem dX6_readOneType_68 : decode cX6_readOneType 68 = .ok (.iload 5, 2) := by decide +kernel
theorem dX6_readOneType_70 : decode cX6_readOneType 70 = .ok (.i2l, 1) := by decide +kernel
theorem dX6_readOneType_71 : decode cX6_readOneType 71 = .ok (.lor, 1) := by decide +kernel
theorem dX6_readOneType_72 : decode cX6_readOneType 72 = .ok (.lstore_n 2, 1) := by decide +kernel
theorem dX6_readOneType_73 : decode cX6_readOneType 73 = .ok (.aload_n 0, 1) := by decide +kernel
theorem dX6_readOneType_74 : decode cX6_readOneType 74 = .ok (.getfield 32, 3) := by decide +kernel
theorem dX6_readOneType_77 : decode cX6_readOneType 77 = .ok (.istore 4, 2) := by decide +kernel
theorem dX6_readOneType_79 : decode cX6_readOneType 79 = .ok (.aload_n 0, 1) := by decide +kernel
theorem dX6_readOneType_80 : decode cX6_readOneType 80 = .ok (.invokevirtual 87, 3) := by decide +kernel
theorem dX6_readOneType_83 : decode cX6_readOneType 83 = .ok (.istore 5, 2) := by decide +kernel
theorem dX6_readOneType_85 : decode cX6_readOneType 85 = .ok (.iinc 6 1, 3) := by decide +kernel
theorem dX6_readOneType_88 : decode cX6_readOneType 88 = .ok (.goto (-37), 3) := by decide +kernel
theorem dX6_readOneType_91 : decode cX6_readOneType 91 = .ok (.iload 5, 2) := by decide +kernel
theorem dX6_readOneType_93 : decode cX6_readOneType 93 = .ok (.iconst 1, 1) := by decide +kernel
theorem dX6_readOneType_94 : decode cX6_readOneType 94 = .ok (.if_icmp .lt 10, 3) := by decide +kernel
theorem dX6_readOneType_97 : decode cX6_readOneType 97 = .ok (.iload 5, 2) := by decide +kernel
theorem dX6_readOneType_99 : decode cX6_readOneType 99 = .ok (.bipush 6, 2) := by decide +kernel
theorem dX6_readOneType_101 : decode cX6_readOneType 101 = .ok (.if_icmp .le 10, 3) := by decide +kernel
theorem dX6_readOneType_104 : decode cX6_readOneType 104 = .ok (.aload_n 0, 1) := by decide +kernel
theorem dX6_readOneType_105 : decode cX6_readOneType 105 = .ok (.iconst 4, 1) := by decide +kernel
theorem dX6_readOneType_106 : decode cX6_readOneType 106 = .ok (.iload 4, 2) := by decide +kernel
theorem dX6_readOneType_108 : decode cX6_readOneType 108 = .ok (.invokevirtual 76, 3) := by decide +kernel
theorem dX6_readOneType_111 : decode cX6_readOneType 111 = .ok (.lload_n 2, 1) := by decide +kernel
theorem dX6_readOneType_112 : decode cX6_readOneType 112 = .ok (.bipush 8, 2) := by decide +kernel
theorem dX6_readOneType_114 : decode cX6_readOneType 114 = .ok (.lshl, 1) := by decide +kernel
theorem dX6_readOneType_115 : decode cX6_readOneType 115 = .ok (.iload 5, 2) := by decide +kernel
theorem dX6_readOneType_117 : decode cX6_readOneType 117 = .ok (.i2l, 1) := by decide +kernel
theorem dX6_readOneType_118 : decode cX6_readOneType 118 = .ok (.lor, 1) := by decide +kernel
theorem dX6_readOneType_119 : decode cX6_readOneType 119 = .ok (.lstore_n 2, 1) := by decide +kernel
theorem dX6_readOneType_120 : decode cX6_readOneType 120 = .ok (.iload 5, 2) := by decide +kernel
theorem dX6_readOneType_122 : decode cX6_readOneType 122 = .ok (.bipush 6, 2) := by decide +kernel
theorem dX6_readOneType_124 : decode cX6_readOneType 124 = .ok (.if_icmp .eq 5, 3) := by decide +kernel
theorem dX6_readOneType_127 : decode cX6_readOneType 127 = .ok (.lload_n 2, 1) := by decide +kernel
theorem dX6_readOneType_128 : decode cX6_readOneType 128 = .ok (.lreturn, 1) := by decide +kernel
theorem dX6_readOneType_129 : decode cX6_readOneType 129 = .ok (.aload_n 0, 1) := by decide +kernel
theorem dX6_readOneType_130 : decode cX6_readOneType 130 = .ok (.getfield 32, 3) := by decide +kernel
theorem dX6_readOneType_133 : decode cX6_readOneType 133 = .ok (.istore 4, 2) := by decide +kernel
theorem dX6_readOneType_135 : decode cX6_readOneType 135 = .ok (.aload_n 0, 1) := by decide +kernel
theorem dX6_readOneType_136 : decode cX6_readOneType 136 = .ok (.invokevirtual 87, 3) := by decide +kernel
theorem dX6_readOneType_139 : decode cX6_readOneType 139 = .ok (.istore 6, 2) := by decide +kernel
theorem dX6_readOneType_141 : decode cX6_readOneType 141 = .ok (.aload_n 0, 1) := by decide +kernel
theorem dX6_readOneType_142 : decode cX6_readOneType 142 = .ok (.getfield 28, 3) := by decide +kernel
theorem dX6_readOneType_145 : decode cX6_readOneType 145 = .ok (.ifCond .eq 23, 3) := by decide +kernel
theorem dX6_readOneType_148 : decode cX6_readOneType 148 = .ok (.iload 6, 2) := by decide +kernel
theorem dX6_readOneType_150 : decode cX6_readOneType 150 = .ok (.aload_n 0, 1) := by decide +kernel
theorem dX6_readOneType_151 : decode cX6_readOneType 151 = .ok (.getfield 17, 3) := by decide +kernel
theorem dX6_readOneType_154 : decode cX6_readOneType 154 = .ok (.getfield 103, 3) := by decide +kernel
theorem dX6_readOneType_157 : decode cX6_readOneType 157 = .ok (.if_icmp .lt 11, 3) := by decide +kernel
theorem dX6_readOneType_160 : decode cX6_readOneType 160 = .ok (.aload_n 0, 1) := by decide +kernel
theorem dX6_readOneType_161 : decode cX6_readOneType 161 = .ok (.bipush 7, 2) := by decide +kernel
theorem dX6_readOneType_163 : decode cX6_readOneType 163 = .ok (.iload 4, 2) := by decide +kernel
theorem dX6_readOneType_165 : decode cX6_readOneType 165 = .ok (.invokevirtual 76, 3) := by decide +kernel
theorem dX6_readOneType_168 : decode cX6_readOneType 168 = .ok (.lload_n 2, 1) := by decide +kernel
theorem dX6_readOneType_169 : decode cX6_readOneType 169 = .ok (.bipush 8, 2) := by decide +kernel
theorem dX6_readOneType_171 : decode cX6_readOneType 171 = .ok (.lshl, 1) := by decide +kernel
theorem dX6_readOneType_172 : decode cX6_readOneType 172 = .ok (.iload 6, 2) := by decide +kernel
theorem dX6_readOneType_174 : decode cX6_readOneType 174 = .ok (.i2l, 1) := by decide +kernel
theorem dX6_readOneType_175 : decode cX6_readOneType 175 = .ok (.lor, 1) := by decide +kernel
theorem dX6_readOneType_176 : decode cX6_readOneType 176 = .ok (.lreturn, 1) := by decide +kernel
set_option maxRecDepth 20000 in
theorem ggX6_readJudged_X6_readByte : GoodIn wsX6_readJudged wsX6_readByte := goodIn_r _ [7, 8, 1, 9, 10, 11, 12, 17, 18, 19, 20, 21, 22, 23, 24, 25, 26, 27, 28, 29, 30, 31, 32, 33, 34, 35, 36, 37, 38, 39, 40] rfl (by decide +kernel)
set_option maxRecDepth 20000 in
theorem gX6_readJudged_X6_readByte : GoodIn wsX6_readJudged (wsV RX6 87 RX6 yX6_readByte wsX6_readByte) := goodIn_app (goodIn_of _ (by decide +kernel)) ggX6_readJudged_X6_readByte
set_option maxRecDepth 20000 in
theorem ggX6_readJudged_X6_fail : GoodIn wsX6_readJudged wsX6_fail := goodIn_r _ [16, 8, 11, 17, 18, 19, 20, 21, 22, 23, 24, 25] rfl (by decide +kernel)
set_option maxRecDepth 20000 in
theorem gX6_readJudged_X6_fail : GoodIn wsX6_readJudged (wsV RX6 76 RX6 yX6_fail wsX6_fail) := goodIn_app (goodIn_of _ (by decide +kernel)) ggX6_readJudged_X6_fail
theorem dX6_readJudged_0 : decode cX6_readJudged 0 = .ok (.aload_n 0, 1) := by decide +kernel
theorem dX6_readJudged_1 : decode cX6_readJudged 1 = .ok (.getfield 32, 3) := by decide +kernel
theorem dX6_readJudged_4 : decode cX6_readJudged 4 = .ok (.istore_n 3, 1) := by decide +kernel
theorem dX6_readJudged_5 : decode cX6_readJudged 5 = .ok (.aload_n 0, 1) := by decide +kernel
theorem dX6_readJudged_6 : decode cX6_readJudged 6 = .ok (.invokevirtual 87, 3) := by decide +kernel
theorem dX6_readJudged_9 : decode cX6_readJudged 9 = .ok (.istore 4, 2) := by decide +kernel
theorem dX6_readJudged_11 : decode cX6_readJudged 11 = .ok (.aload_n 0, 1) := by decide +kernel
theorem dX6_readJudged_12 : decode cX6_readJudged 12 = .ok (.getfield 28, 3) := by decide +kernel
theorem dX6_readJudged_15 : decode cX6_readJudged 15 = .ok (.ifCond .eq 15, 3) := by decide +kernel
theorem dX6_readJudged_18 : decode cX6_readJudged 18 = .ok (.iload 4, 2) := by decide +kernel
theorem dX6_readJudged_20 : decode cX6_readJudged 20 = .ok (.iload_n 1, 1) := by decide +kernel
theorem dX6_readJudged_21 : decode cX6_readJudged 21 = .ok (.if_icmp .lt 9, 3) := by decide +kernel
theorem dX6_readJudged_24 : decode cX6_readJudged 24 = .ok (.aload_n 0, 1) := by decide +kernel
theorem dX6_readJudged_25 : decode cX6_readJudged 25 = .ok (.iload_n 2, 1) := by decide +kernel
theorem dX6_readJudged_26 : decode cX6_readJudged 26 = .ok (.iload_n 3, 1) := by decide +kernel
theorem dX6_readJudged_27 : decode cX6_readJudged 27 = .ok (.invokevirtual 76, 3) := by decide +kernel
theorem dX6_readJudged_30 : decode cX6_readJudged 30 = .ok (.iload 4, 2) := by decide +kernel
theorem dX6_readJudged_32 : decode cX6_readJudged 32 = .ok (.ireturn, 1) := by decide +kernel
set_option maxRecDepth 20000 in
theorem ggX6_readOwnStructure_X6_readJudged : GoodIn wsX6_readOwnStructure wsX6_readJudged := goodIn_r _ [10, 1, 4, 11, 12, 13, 9, 14, 15, 2, 16, 17, 18, 19, 20, 21, 22, 23, 24, 25, 26, 27, 28, 29, 30, 31, 32, 33, 34, 35, 36, 37, 38, 39, 40, 41, 42, 43, 44, 45, 46] rfl (by decide +kernel)
set_option maxRecDepth 20000 in
theorem gX6_readOwnStructure_X6_readJudged : GoodIn wsX6_readOwnStructure (wsV RX6 143 RX6 yX6_readJudged wsX6_readJudged) := goodIn_app (goodIn_of _ (by decide +kernel)) ggX6_readOwnStructure_X6_readJudged
set_option maxRecDepth 20000 in
theorem ggX6_readOwnStructure_X6_fail : GoodIn wsX6_readOwnStructure wsX6_fail := goodIn_r _ [22, 15, 17, 23, 24, 25, 26, 27, 28, 29, 30, 31] rfl (by decide +kernel)
set_option maxRecDepth 20000 in
theorem gX6_readOwnStructure_X6_fail : GoodIn wsX6_readOwnStructure (wsV RX6 76 RX6 yX6_fail wsX6_fail) := goodIn_app (goodIn_of _ (by decide +kernel)) ggX6_readOwnStructure_X6_fail
theorem dX6_readOwnStructure_0 : decode cX6_readOwnStructure 0 = .ok (.aload_n 0, 1) := by decide +kernel
theorem dX6_readOwnStructure_1 : decode cX6_readOwnStructure 1 = .ok (.getfield 32, 3) := by decide +kernel
theorem dX6_readOwnStructure_4 : decode cX6_readOwnStructure 4 = .ok (.istore_n 1, 1) := by decide +kernel
theorem dX6_readOwnStructure_5 : decode cX6_readOwnStructure 5 = .ok (.aload_n 0, 1) := by decide +kernel
theorem dX6_readOwnStructure_6 : decode cX6_readOwnStructure 6 = .ok (.aload_n 0, 1) := by decide +kernel
theorem dX6_readOwnStructure_7 : decode cX6_readOwnStructure 7 = .ok (.getfield 17, 3) := by decide +kernel
theorem dX6_readOwnStructure_10 : decode cX6_readOwnStructure 10 = .ok (.getfield 103, 3) := by decide +kernel
theorem dX6_readOwnStructure_13 : decode cX6_readOwnStructure 13 = .ok (.bipush 7, 2) := by decide +kernel
theorem dX6_readOwnStructure_15 : decode cX6_readOwnStructure 15 = .ok (.invokevirtual 143, 3) := by decide +kernel
theorem dX6_readOwnStructure_18 : decode cX6_readOwnStructure 18 = .ok (.istore_n 2, 1) := by decide +kernel
theorem dX6_readOwnStructure_19 : decode cX6_readOwnStructure 19 = .ok (.aload_n 0, 1) := by decide +kernel
theorem dX6_readOwnStructure_20 : decode cX6_readOwnStructure 20 = .ok (.getfield 28, 3) := by decide +kernel
theorem dX6_readOwnStructure_23 : decode cX6_readOwnStructure 23 = .ok (.ifCond .eq 21, 3) := by decide +kernel
theorem dX6_readOwnStructure_26 : decode cX6_readOwnStructure 26 = .ok (.iload_n 2, 1) := by decide +kernel
theorem dX6_readOwnStructure_27 : decode cX6_readOwnStructure 27 = .ok (.aload_n 0, 1) := by decide +kernel
theorem dX6_readOwnStructure_28 : decode cX6_readOwnStructure 28 = .ok (.getfield 17, 3) := by decide +kernel
theorem dX6_readOwnStructure_31 : decode cX6_readOwnStructure 31 = .ok (.getfield 100, 3) := by decide +kernel
theorem dX6_readOwnStructure_34 : decode cX6_readOwnStructure 34 = .ok (.if_icmp .lt 10, 3) := by decide +kernel
theorem dX6_readOwnStructure_37 : decode cX6_readOwnStructure 37 = .ok (.aload_n 0, 1) := by decide +kernel
theorem dX6_readOwnStructure_38 : decode cX6_readOwnStructure 38 = .ok (.bipush 8, 2) := by decide +kernel
theorem dX6_readOwnStructure_40 : decode cX6_readOwnStructure 40 = .ok (.iload_n 1, 1) := by decide +kernel
theorem dX6_readOwnStructure_41 : decode cX6_readOwnStructure 41 = .ok (.invokevirtual 76, 3) := by decide +kernel
theorem dX6_readOwnStructure_44 : decode cX6_readOwnStructure 44 = .ok (.iload_n 2, 1) := by decide +kernel
theorem dX6_readOwnStructure_45 : decode cX6_readOwnStructure 45 = .ok (.ireturn, 1) := by decide +kernel
set_option maxRecDepth 20000 in
theorem ggX6_readInstruction_X5_addStart : GoodIn wsX6_readInstruction wsX5_addStart := goodIn_r _ [13, 14, 15, 70, 71, 72, 73, 74, 75, 76, 77, 78, 79, 80, 81, 82, 83, 84] rfl (by decide +kernel)
set_option maxRecDepth 20000 in
theorem gX6_readInstruction_X5_addStart : GoodIn wsX6_readInstruction (wsV RX6 146 RX5 yX5_addStart wsX5_addStart) := goodIn_app (goodIn_of _ (by decide +kernel)) ggX6_readInstruction_X5_addStart
set_option maxRecDepth 20000 in
theorem ggX6_readInstruction_X6_readByte : GoodIn wsX6_readInstruction wsX6_readByte := goodIn_r _ [20, 21, 2, 1, 22, 23, 24, 61, 62, 63, 64, 65, 66, 67, 68, 69, 70, 71, 72, 73, 74, 75, 76, 77, 78, 79, 80, 81, 82, 83, 84] rfl (by decide +kernel)
set_option maxRecDepth 20000 in
theorem gX6_readInstruction_X6_readByte : GoodIn wsX6_readInstruction (wsV RX6 87 RX6 yX6_readByte wsX6_readByte) := goodIn_app (goodIn_of _ (by decide +kernel)) ggX6_readInstruction_X6_readByte
set_option maxRecDepth 20000 in
theorem ggX6_readInstruction_X6_fail : GoodIn wsX6_readInstruction wsX6_fail := goodIn_r _ [28, 21, 23, 61, 62, 63, 64, 65, 66, 67, 68, 69] rfl (by decide +kernel)
set_option maxRecDepth 20000 in
theorem gX6_readInstruction_X6_fail : GoodIn wsX6_readInstruction (wsV RX6 76 RX6 yX6_fail wsX6_fail) := goodIn_app (goodIn_of _ (by decide +kernel)) ggX6_readInstruction_X6_fail
set_option maxRecDepth 20000 in
theorem ggX6_readInstruction_X6_readShort : GoodIn wsX6_readInstruction wsX6_readShort := goodIn_r _ [32, 16, 17, 18, 19, 20, 21, 2, 1, 22, 23, 24, 61, 62, 63, 64, 65, 66, 67, 68, 69, 70, 71, 72, 73, 74, 75, 76, 77, 78, 79, 80, 81, 82, 83, 84] rfl (by decide +kernel)
set_option maxRecDepth 20000 in
theorem gX6_readInstruction_X6_readShort : GoodIn wsX6_readInstruction (wsV RX6 94 RX6 yX6_readShort wsX6_readShort) := goodIn_app (goodIn_of _ (by decide +kernel)) ggX6_readInstruction_X6_readShort
set_option maxRecDepth 20000 in
theorem ggX6_readInstruction_X6_pass : GoodIn wsX6_readInstruction wsX6_pass := goodIn_r _ [36, 21, 16, 17, 18, 19, 20, 2, 1, 22, 23, 24, 61, 62, 63, 64, 65, 66, 67, 68, 69, 70, 71, 72, 73, 74, 75, 76, 77, 78, 79, 80, 81, 82, 83, 84] rfl (by decide +kernel)
set_option maxRecDepth 20000 in
theorem gX6_readInstruction_X6_pass : GoodIn wsX6_readInstruction (wsV RX6 150 RX6 yX6_pass wsX6_pass) := goodIn_app (goodIn_of _ (by decide +kernel)) ggX6_readInstruction_X6_pass
set_option maxRecDepth 20000 in
theorem ggX6_readInstruction_X6_readJudged : GoodIn wsX6_readInstruction wsX6_readJudged := goodIn_r _ [40, 2, 4, 16, 17, 18, 19, 20, 21, 1, 22, 23, 24, 25, 26, 27, 28, 61, 62, 63, 64, 65, 66, 67, 68, 69, 70, 71, 72, 73, 74, 75, 76, 77, 78, 79, 80, 81, 82, 83, 84] rfl (by decide +kernel)
set_option maxRecDepth 20000 in
theorem gX6_readInstruction_X6_readJudged : GoodIn wsX6_readInstruction (wsV RX6 143 RX6 yX6_readJudged wsX6_readJudged) := goodIn_app (goodIn_of _ (by decide +kernel)) ggX6_readInstruction_X6_readJudged
set_option maxRecDepth 20000 in
theorem ggX6_readInstruction_X6_readOwnStructure : GoodIn wsX6_readInstruction wsX6_readOwnStructure := goodIn_r _ [44, 2, 1, 45, 4, 46, 37, 38, 39, 19, 40, 16, 17, 18, 20, 21, 22, 23, 24, 25, 26, 27, 28, 61, 62, 63, 64, 65, 66, 67, 68, 69, 70, 71, 72, 73, 74, 75, 76, 77, 78, 79, 80, 81, 82, 83, 84] rfl (by decide +kernel)
set_option maxRecDepth 20000 in
theorem gX6_readInstruction_X6_readOwnStructure : GoodIn wsX6_readInstruction (wsV RX6 153 RX6 yX6_readOwnStructure wsX6_readOwnStructure) := goodIn_app (goodIn_of _ (by decide +kernel)) ggX6_readInstruction_X6_readOwnStructure
set_option maxRecDepth 20000 in
theorem ggX6_readInstruction_X5_fieldCount : GoodIn wsX6_readInstruction wsX5_fieldCount := goodIn_r _ [50, 51, 52, 53, 12, 54, 55, 56, 70, 71, 72, 73, 74, 75, 76, 77, 78, 79, 80, 81, 82, 83, 84] rfl (by decide +kernel)
set_option maxRecDepth 20000 in
theorem gX6_readInstruction_X5_fieldCount : GoodIn wsX6_readInstruction (wsV RX6 156 RX5 yX5_fieldCount wsX5_fieldCount) := goodIn_app (goodIn_of _ (by decide +kernel)) ggX6_readInstruction_X5_fieldCount
set_option maxRecDepth 20000 in
theorem ggX6_readInstruction_X6_readNumber : GoodIn wsX6_readInstruction wsX6_readNumber := goodIn_r _ [60, 2, 21, 16, 17, 18, 19, 20, 1, 22, 23, 24, 25, 26, 27, 28, 61, 62, 63, 64, 65, 66, 67, 68, 69, 70, 71, 72, 73, 74, 75, 76, 77, 78, 79, 80, 81, 82, 83, 84] rfl (by decide +kernel)
set_option maxRecDepth 20000 in
theorem gX6_readInstruction_X6_readNumber : GoodIn wsX6_readInstruction (wsV RX6 59 RX6 yX6_readNumber wsX6_readNumber) := goodIn_app (goodIn_of _ (by decide +kernel)) ggX6_readInstruction_X6_readNumber
theorem dX6_readInstruction_0 : decode cX6_readInstruction 0 = .ok (.aload_n 0, 1) := by decide +kernel
theorem dX6_readInstruction_1 : decode cX6_readInstruction 1 = .ok (.getfield 17, 3) := by decide +kernel
theorem dX6_readInstruction_4 : decode cX6_readInstruction 4 = .ok (.aload_n 0, 1) := by decide +kernel
theorem dX6_readInstruction_5 : decode cX6_readInstruction 5 = .ok (.getfield 32, 3) := by decide +kernel
theorem dX6_readInstruction_8 : decode cX6_readInstruction 8 = .ok (.invokevirtual 146, 3) := by decide +kernel
theorem dX6_readInstruction_11 : decode cX6_readInstruction 11 = .ok (.aload_n 0, 1) := by decide +kernel
theorem dX6_readInstruction_12 : decode cX6_readInstruction 12 = .ok (.getfield 32, 3) := by decide +kernel
theorem dX6_readInstruction_15 : decode cX6_readInstruction 15 = .ok (.istore_n 1, 1) := by decide +kernel
theorem dX6_readInstruction_16 : decode cX6_readInstruction 16 = .ok (.aload_n 0, 1) := by decide +kernel
theorem dX6_readInstruction_17 : decode cX6_readInstruction 17 = .ok (.invokevirtual 87, 3) := by decide +kernel
theorem dX6_readInstruction_20 : decode cX6_readInstruction 20 = .ok (.istore_n 2, 1) := by decide +kernel
theorem dX6_readInstruction_21 : decode cX6_readInstruction 21 = .ok (.iload_n 2, 1) := by decide +kernel
theorem dX6_readInstruction_22 : decode cX6_readInstruction 22 = .ok (.bipush 59, 2) := by decide +kernel
theorem dX6_readInstruction_24 : decode cX6_readInstruction 24 = .ok (.if_icmp .le 12, 3) := by decide +kernel
theorem dX6_readInstruction_27 : decode cX6_readInstruction 27 = .ok (.aload_n 0, 1) := by decide +kernel
theorem dX6_readInstruction_28 : decode cX6_readInstruction 28 = .ok (.iconst 5, 1) := by decide +kernel
theorem dX6_readInstruction_29 : decode cX6_readInstruction 29 = .ok (.iload_n 1, 1) := by decide +kernel
theorem dX6_readInstruction_30 : decode cX6_readInstruction 30 = .ok (.invokevirtual 76, 3) := by decide +kernel
theorem dX6_readInstruction_33 : decode cX6_readInstruction 33 = .ok (.goto 266, 3) := by decide +kernel
theorem dX6_readInstruction_36 : decode cX6_readInstruction 36 = .ok (.iload_n 2, 1) := by decide +kernel
theorem dX6_readInstruction_37 : decode cX6_readInstruction 37 = .ok (.iconst 2, 1) := by decide +kernel
theorem dX6_readInstruction_38 : decode cX6_readInstruction 38 = .ok (.if_icmp .lt 41, 3) := by decide +kernel
theorem dX6_readInstruction_41 : decode cX6_readInstruction 41 = .ok (.iload_n 2, 1) := by decide +kernel
theorem dX6_readInstruction_42 : decode cX6_readInstruction 42 = .ok (.iconst 4, 1) := by decide +kernel
theorem dX6_readInstruction_43 : decode cX6_readInstruction 43 = .ok (.if_icmp .gt 36, 3) := by decide +kernel
theorem dX6_readInstruction_46 : decode cX6_readInstruction 46 = .ok (.aload_n 0, 1) := by decide +kernel
theorem dX6_readInstruction_47 : decode cX6_readInstruction 47 = .ok (.getfield 32, 3) := by decide +kernel
theorem dX6_readInstruction_50 : decode cX6_readInstruction 50 = .ok (.istore_n 1, 1) := by decide +kernel
theorem dX6_readInstruction_51 : decode cX6_readInstruction 51 = .ok (.aload_n 0, 1) := by decide +kernel
theorem dX6_readInstruction_52 : decode cX6_readInstruction 52 = .ok (.invokevirtual 94, 3) := by decide +kernel
theorem dX6_readInstruction_55 : decode cX6_readInstruction 55 = .ok (.aload_n 0, 1) := by decide +kernel
theorem dX6_readInstruction_56 : decode cX6_readInstruction 56 = .ok (.getfield 126, 3) := by decide +kernel
theorem dX6_readInstruction_59 : decode cX6_readInstruction 59 = .ok (.if_icmp .lt 240, 3) := by decide +kernel
theorem dX6_readInstruction_62 : decode cX6_readInstruction 62 = .ok (.aload_n 0, 1) := by decide +kernel
theorem dX6_readInstruction_63 : decode cX6_readInstruction 63 = .ok (.getfield 28, 3) := by decide +kernel
theorem dX6_readInstruction_66 : decode cX6_readInstruction 66 = .ok (.ifCond .eq 233, 3) := by decide +kernel
theorem dX6_readInstruction_69 : decode cX6_readInstruction 69 = .ok (.aload_n 0, 1) := by decide +kernel
theorem dX6_readInstruction_70 : decode cX6_readInstruction 70 = .ok (.bipush 13, 2) := by decide +kernel
theorem dX6_readInstruction_72 : decode cX6_readInstruction 72 = .ok (.iload_n 1, 1) := by decide +kernel
theorem dX6_readInstruction_73 : decode cX6_readInstruction 73 = .ok (.invokevirtual 76, 3) := by decide +kernel
theorem dX6_readInstruction_76 : decode cX6_readInstruction 76 = .ok (.goto 223, 3) := by decide +kernel
theorem dX6_readInstruction_79 : decode cX6_readInstruction 79 = .ok (.iload_n 2, 1) := by decide +kernel
theorem dX6_readInstruction_80 : decode cX6_readInstruction 80 = .ok (.iconst 5, 1) := by decide +kernel
theorem dX6_readInstruction_81 : decode cX6_readInstruction 81 = .ok (.if_icmp .lt 54, 3) := by decide +kernel
theorem dX6_readInstruction_84 : decode cX6_readInstruction 84 = .ok (.iload_n 2, 1) := by decide +kernel
theorem dX6_readInstruction_85 : decode cX6_readInstruction 85 = .ok (.bipush 10, 2) := by decide +kernel
theorem dX6_readInstruction_87 : decode cX6_readInstruction 87 = .ok (.if_icmp .gt 48, 3) := by decide +kernel
theorem dX6_readInstruction_90 : decode cX6_readInstruction 90 = .ok (.aload_n 0, 1) := by decide +kernel
theorem dX6_readInstruction_91 : decode cX6_readInstruction 91 = .ok (.iload_n 2, 1) := by decide +kernel
theorem dX6_readInstruction_92 : decode cX6_readInstruction 92 = .ok (.iconst 5, 1) := by decide +kernel
theorem dX6_readInstruction_93 : decode cX6_readInstruction 93 = .ok (.if_icmp .ne 7, 3) := by decide +kernel
theorem dX6_readInstruction_96 : decode cX6_readInstruction 96 = .ok (.iconst 1, 1) := by decide +kernel
theorem dX6_readInstruction_97 : decode cX6_readInstruction 97 = .ok (.goto 32, 3) := by decide +kernel
theorem dX6_readInstruction_100 : decode cX6_readInstruction 100 = .ok (.iload_n 2, 1) := by decide +kernel
theorem dX6_readInstruction_101 : decode cX6_readInstruction 101 = .ok (.bipush 7, 2) := by decide +kernel
theorem dX6_readInstruction_103 : decode cX6_readInstruction 103 = .ok (.if_icmp .ne 8, 3) := by decide +kernel
theorem dX6_readInstruction_106 : decode cX6_readInstruction 106 = .ok (.bipush 16, 2) := by decide +kernel
theorem dX6_readInstruction_108 : decode cX6_readInstruction 108 = .ok (.goto 21, 3) := by decide +kernel
theorem dX6_readInstruction_111 : decode cX6_readInstruction 111 = .ok (.iload_n 2, 1) := by decide +kernel
theorem dX6_readInstruction_112 : decode cX6_readInstruction 112 = .ok (.bipush 6, 2) := by decide +kernel
theorem dX6_readInstruction_114 : decode cX6_readInstruction 114 = .ok (.if_icmp .eq 9, 3) := by decide +kernel
theorem dX6_readInstruction_117 : decode cX6_readInstruction 117 = .ok (.iload_n 2, 1) := by decide +kernel
theorem dX6_readInstruction_118 : decode cX6_readInstruction 118 = .ok (.bipush 10, 2) := by decide +kernel
theorem dX6_readInstruction_120 : decode cX6_readInstruction 120 = .ok (.if_icmp .ne 8, 3) := by decide +kernel
theorem dX6_readInstruction_123 : decode cX6_readInstruction 123 = .ok (.bipush 8, 2) := by decide +kernel
theorem dX6_readInstruction_125 : decode cX6_readInstruction 125 = .ok (.goto 4, 3) := by decide +kernel
theorem dX6_readInstruction_128 : decode cX6_readInstruction 128 = .ok (.iconst 0, 1) := by decide +kernel
theorem dX6_readInstruction_129 : decode cX6_readInstruction 129 = .ok (.invokevirtual 150, 3) := by decide +kernel
theorem dX6_readInstruction_132 : decode cX6_readInstruction 132 = .ok (.goto 167, 3) := by decide +kernel
theorem dX6_readInstruction_135 : decode cX6_readInstruction 135 = .ok (.iload_n 2, 1) := by decide +kernel
theorem dX6_readInstruction_136 : decode cX6_readInstruction 136 = .ok (.bipush 11, 2) := by decide +kernel
theorem dX6_readInstruction_138 : decode cX6_readInstruction 138 = .ok (.if_icmp .lt 23, 3) := by decide +kernel
theorem dX6_readInstruction_141 : decode cX6_readInstruction 141 = .ok (.iload_n 2, 1) := by decide +kernel
theorem dX6_readInstruction_142 : decode cX6_readInstruction 142 = .ok (.bipush 15, 2) := by decide +kernel
theorem dX6_readInstruction_144 : decode cX6_readInstruction 144 = .ok (.if_icmp .gt 17, 3) := by decide +kernel
theorem dX6_readInstruction_147 : decode cX6_readInstruction 147 = .ok (.aload_n 0, 1) := by decide +kernel
theorem dX6_readInstruction_148 : decode cX6_readInstruction 148 = .ok (.aload_n 0, 1) := by decide +kernel
theorem dX6_readInstruction_149 : decode cX6_readInstruction 149 = .ok (.getfield 123, 3) := by decide +kernel
theorem dX6_readInstruction_152 : decode cX6_readInstruction 152 = .ok (.bipush 10, 2) := by decide +kernel
theorem dX6_readInstruction_154 : decode cX6_readInstruction 154 = .ok (.invokevirtual 143, 3) := by decide +kernel
theorem dX6_readInstruction_157 : decode cX6_readInstruction 157 = .ok (.pop, 1) := by decide +kernel
theorem dX6_readInstruction_158 : decode cX6_readInstruction 158 = .ok (.goto 141, 3) := by decide +kernel
theorem dX6_readInstruction_161 : decode cX6_readInstruction 161 = .ok (.iload_n 2, 1) := by decide +kernel
theorem dX6_readInstruction_162 : decode cX6_readInstruction 162 = .ok (.bipush 16, 2) := by decide +kernel
theorem dX6_readInstruction_164 : decode cX6_readInstruction 164 = .ok (.if_icmp .eq 9, 3) := by decide +kernel
theorem dX6_readInstruction_167 : decode cX6_readInstruction 167 = .ok (.iload_n 2, 1) := by decide +kernel
theorem dX6_readInstruction_168 : decode cX6_readInstruction 168 = .ok (.bipush 17, 2) := by decide +kernel
theorem dX6_readInstruction_170 : decode cX6_readInstruction 170 = .ok (.if_icmp .ne 26, 3) := by decide +kernel
theorem dX6_readInstruction_173 : decode cX6_readInstruction 173 = .ok (.aload_n 0, 1) := by decide +kernel
theorem dX6_readInstruction_174 : decode cX6_readInstruction 174 = .ok (.invokevirtual 153, 3) := by decide +kernel
theorem dX6_readInstruction_177 : decode cX6_readInstruction 177 = .ok (.istore_n 3, 1) := by decide +kernel
theorem dX6_readInstruction_178 : decode cX6_readInstruction 178 = .ok (.aload_n 0, 1) := by decide +kernel
theorem dX6_readInstruction_179 : decode cX6_readInstruction 179 = .ok (.aload_n 0, 1) := by decide +kernel
theorem dX6_readInstruction_180 : decode cX6_readInstruction 180 = .ok (.getfield 17, 3) := by decide +kernel
theorem dX6_readInstruction_183 : decode cX6_readInstruction 183 = .ok (.iload_n 3, 1) := by decide +kernel
theorem dX6_readInstruction_184 : decode cX6_readInstruction 184 = .ok (.invokevirtual 156, 3) := by decide +kernel
theorem dX6_readInstruction_187 : decode cX6_readInstruction 187 = .ok (.bipush 9, 2) := by decide +kernel
theorem dX6_readInstruction_189 : decode cX6_readInstruction 189 = .ok (.invokevirtual 143, 3) := by decide +kernel
theorem dX6_readInstruction_192 : decode cX6_readInstruction 192 = .ok (.pop, 1) := by decide +kernel
theorem dX6_readInstruction_193 : decode cX6_readInstruction 193 = .ok (.goto 106, 3) := by decide +kernel
theorem dX6_readInstruction_196 : decode cX6_readInstruction 196 = .ok (.iload_n 2, 1) := by decide +kernel
theorem dX6_readInstruction_197 : decode cX6_readInstruction 197 = .ok (.bipush 21, 2) := by decide +kernel
theorem dX6_readInstruction_199 : decode cX6_readInstruction 199 = .ok (.if_icmp .eq 21, 3) := by decide +kernel
theorem dX6_readInstruction_202 : decode cX6_readInstruction 202 = .ok (.iload_n 2, 1) := by decide +kernel
theorem dX6_readInstruction_203 : decode cX6_readInstruction 203 = .ok (.bipush 22, 2) := by decide +kernel
theorem dX6_readInstruction_205 : decode cX6_readInstruction 205 = .ok (.if_icmp .eq 15, 3) := by decide +kernel
theorem dX6_readInstruction_208 : decode cX6_readInstruction 208 = .ok (.iload_n 2, 1) := by decide +kernel
theorem dX6_readInstruction_209 : decode cX6_readInstruction 209 = .ok (.bipush 47, 2) := by decide +kernel
theorem dX6_readInstruction_211 : decode cX6_readInstruction 211 = .ok (.if_icmp .lt 17, 3) := by decide +kernel
theorem dX6_readInstruction_214 : decode cX6_readInstruction 214 = .ok (.iload_n 2, 1) := by decide +kernel
theorem dX6_readInstruction_215 : decode cX6_readInstruction 215 = .ok (.bipush 51, 2) := by decide +kernel
theorem dX6_readInstruction_217 : decode cX6_readInstruction 217 = .ok (.if_icmp .gt 11, 3) := by decide +kernel
theorem dX6_readInstruction_220 : decode cX6_readInstruction 220 = .ok (.aload_n 0, 1) := by decide +kernel
theorem dX6_readInstruction_221 : decode cX6_readInstruction 221 = .ok (.invokevirtual 153, 3) := by decide +kernel
theorem dX6_readInstruction_224 : decode cX6_readInstruction 224 = .ok (.pop, 1) := by decide +kernel
theorem dX6_readInstruction_225 : decode cX6_readInstruction 225 = .ok (.goto 74, 3) := by decide +kernel
theorem dX6_readInstruction_228 : decode cX6_readInstruction 228 = .ok (.iload_n 2, 1) := by decide +kernel
theorem dX6_readInstruction_229 : decode cX6_readInstruction 229 = .ok (.bipush 23, 2) := by decide +kernel
theorem dX6_readInstruction_231 : decode cX6_readInstruction 231 = .ok (.if_icmp .ne 28, 3) := by decide +kernel
theorem dX6_readInstruction_234 : decode cX6_readInstruction 234 = .ok (.aload_n 0, 1) := by decide +kernel
theorem dX6_readInstruction_235 : decode cX6_readInstruction 235 = .ok (.aload_n 0, 1) := by decide +kernel
theorem dX6_readInstruction_236 : decode cX6_readInstruction 236 = .ok (.getfield 17, 3) := by decide +kernel
theorem dX6_readInstruction_239 : decode cX6_readInstruction 239 = .ok (.getfield 120, 3) := by decide +kernel
theorem dX6_readInstruction_242 : decode cX6_readInstruction 242 = .ok (.aload_n 0, 1) := by decide +kernel
theorem dX6_readInstruction_243 : decode cX6_readInstruction 243 = .ok (.getfield 17, 3) := by decide +kernel
theorem dX6_readInstruction_246 : decode cX6_readInstruction 246 = .ok (.getfield 110, 3) := by decide +kernel
theorem dX6_readInstruction_249 : decode cX6_readInstruction 249 = .ok (.iadd, 1) := by decide +kernel
theorem dX6_readInstruction_250 : decode cX6_readInstruction 250 = .ok (.bipush 11, 2) := by decide +kernel
theorem dX6_readInstruction_252 : decode cX6_readInstruction 252 = .ok (.invokevirtual 143, 3) := by decide +kernel
theorem dX6_readInstruction_255 : decode cX6_readInstruction 255 = .ok (.pop, 1) := by decide +kernel
theorem dX6_readInstruction_256 : decode cX6_readInstruction 256 = .ok (.goto 43, 3) := by decide +kernel
theorem dX6_readInstruction_259 : decode cX6_readInstruction 259 = .ok (.iload_n 2, 1) := by decide +kernel
theorem dX6_readInstruction_260 : decode cX6_readInstruction 260 = .ok (.bipush 52, 2) := by decide +kernel
theorem dX6_readInstruction_262 : decode cX6_readInstruction 262 = .ok (.if_icmp .lt 37, 3) := by decide +kernel
theorem dX6_readInstruction_265 : decode cX6_readInstruction 265 = .ok (.iload_n 2, 1) := by decide +kernel
theorem dX6_readInstruction_266 : decode cX6_readInstruction 266 = .ok (.bipush 58, 2) := by decide +kernel
theorem dX6_readInstruction_268 : decode cX6_readInstruction 268 = .ok (.if_icmp .gt 31, 3) := by decide +kernel
theorem dX6_readInstruction_271 : decode cX6_readInstruction 271 = .ok (.aload_n 0, 1) := by decide +kernel
theorem dX6_readInstruction_272 : decode cX6_readInstruction 272 = .ok (.aload_n 0, 1) := by decide +kernel
theorem dX6_readInstruction_273 : decode cX6_readInstruction 273 = .ok (.getfield 17, 3) := by decide +kernel
theorem dX6_readInstruction_276 : decode cX6_readInstruction 276 = .ok (.getfield 63, 3) := by decide +kernel
theorem dX6_readInstruction_279 : decode cX6_readInstruction 279 = .ok (.bipush 12, 2) := by decide +kernel
theorem dX6_readInstruction_281 : decode cX6_readInstruction 281 = .ok (.invokevirtual 143, 3) := by decide +kernel
theorem dX6_readInstruction_284 : decode cX6_readInstruction 284 = .ok (.pop, 1) := by decide +kernel
theorem dX6_readInstruction_285 : decode cX6_readInstruction 285 = .ok (.iload_n 2, 1) := by decide +kernel
theorem dX6_readInstruction_286 : decode cX6_readInstruction 286 = .ok (.bipush 52, 2) := by decide +kernel
theorem dX6_readInstruction_288 : decode cX6_readInstruction 288 = .ok (.if_icmp .ne 11, 3) := by decide +kernel
theorem dX6_readInstruction_291 : decode cX6_readInstruction 291 = .ok (.aload_n 0, 1) := by decide +kernel
theorem dX6_readInstruction_292 : decode cX6_readInstruction 292 = .ok (.iconst 0, 1) := by decide +kernel
theorem dX6_readInstruction_293 : decode cX6_readInstruction 293 = .ok (.bipush 64, 2) := by decide +kernel
theorem dX6_readInstruction_295 : decode cX6_readInstruction 295 = .ok (.invokevirtual 59, 3) := by decide +kernel
theorem dX6_readInstruction_298 : decode cX6_readInstruction 298 = .ok (.pop, 1) := by decide +kernel
theorem dX6_readInstruction_299 : decode cX6_readInstruction 299 = .ok (.return_, 1) := by decide +kernel
set_option maxRecDepth 20000 in
theorem ggX6_pass_X6_readByte : GoodIn wsX6_pass wsX6_readByte := goodIn_r _ [6, 1, 7, 8, 9, 10, 11, 12, 13, 14, 15, 16, 17, 18, 19, 20, 21, 22, 23, 24, 25, 26, 27, 28, 29, 30, 31, 32, 33, 34, 35] rfl (by decide +kernel)
set_option maxRecDepth 20000 in
theorem gX6_pass_X6_readByte : GoodIn wsX6_pass (wsV RX6 87 RX6 yX6_readByte wsX6_readByte) := goodIn_app (goodIn_of _ (by decide +kernel)) ggX6_pass_X6_readByte
theorem dX6_pass_0 : decode cX6_pass 0 = .ok (.iconst 0, 1) := by decide +kernel
theorem dX6_pass_1 : decode cX6_pass 1 = .ok (.istore_n 2, 1) := by decide +kernel
theorem dX6_pass_2 : decode cX6_pass 2 = .ok (.iload_n 2, 1) := by decide +kernel
theorem dX6_pass_3 : decode cX6_pass 3 = .ok (.iload_n 1, 1) := by decide +kernel
theorem dX6_pass_4 : decode cX6_pass 4 = .ok (.if_icmp .ge 21, 3) := by decide +kernel
theorem dX6_pass_7 : decode cX6_pass 7 = .ok (.aload_n 0, 1) := by decide +kernel
theorem dX6_pass_8 : decode cX6_pass 8 = .ok (.getfield 21, 3) := by decide +kernel
theorem dX6_pass_11 : decode cX6_pass 11 = .ok (.ifCond .ne 14, 3) := by decide +kernel
theorem dX6_pass_14 : decode cX6_pass 14 = .ok (.aload_n 0, 1) := by decide +kernel
theorem dX6_pass_15 : decode cX6_pass 15 = .ok (.invokevirtual 87, 3) := by decide +kernel
theorem dX6_pass_18 : decode cX6_pass 18 = .ok (.pop, 1) := by decide +kernel
theorem dX6_pass_19 : decode cX6_pass 19 = .ok (.iinc 2 1, 3) := by decide +kernel
theorem dX6_pass_22 : decode cX6_pass 22 = .ok (.goto (-20), 3) := by decide +kernel
theorem dX6_pass_25 : decode cX6_pass 25 = .ok (.return_, 1) := by decide +kernel
set_option maxRecDepth 20000 in
theorem ggX6_findRound_X5_fieldCount : GoodIn wsX6_findRound wsX5_fieldCount := goodIn_r _ [8, 9, 10, 11, 7, 12, 13, 14, 47, 48, 49, 50, 51, 52, 53, 54, 55, 56, 57, 58, 59, 60, 61] rfl (by decide +kernel)
set_option maxRecDepth 20000 in
theorem gX6_findRound_X5_fieldCount : GoodIn wsX6_findRound (wsV RX6 156 RX5 yX5_fieldCount wsX5_fieldCount) := goodIn_app (goodIn_of _ (by decide +kernel)) ggX6_findRound_X5_fieldCount
set_option maxRecDepth 20000 in
theorem ggX6_findRound_X5_fieldType : GoodIn wsX6_findRound wsX5_fieldType := goodIn_r _ [18, 9, 10, 11, 7, 12, 13, 14, 19, 20, 21, 22, 23, 24, 47, 48, 49, 50, 51, 52, 53, 54, 55, 56, 57, 58, 59, 60, 61] rfl (by decide +kernel)
set_option maxRecDepth 20000 in
theorem gX6_findRound_X5_fieldType : GoodIn wsX6_findRound (wsV RX6 159 RX5 yX5_fieldType wsX5_fieldType) := goodIn_app (goodIn_of _ (by decide +kernel)) ggX6_findRound_X5_fieldType
set_option maxRecDepth 20000 in
theorem ggX6_findRound_X5_endsInStructure : GoodIn wsX6_findRound wsX5_endsInStructure := goodIn_r _ [27, 28, 29] rfl (by decide +kernel)
set_option maxRecDepth 20000 in
theorem gX6_findRound_X5_endsInStructure : GoodIn wsX6_findRound (va_wsS RX6 163 yX5_endsInStructure wsX5_endsInStructure) := goodIn_app (goodIn_of _ (by decide +kernel)) ggX6_findRound_X5_endsInStructure
set_option maxRecDepth 20000 in
theorem ggX6_findRound_X5_structureColumn : GoodIn wsX6_findRound wsX5_structureColumn := goodIn_r _ [12, 13, 14, 47, 48, 49, 50, 51, 52, 53, 54, 55, 56, 57, 58, 59, 60, 61] rfl (by decide +kernel)
set_option maxRecDepth 20000 in
theorem gX6_findRound_X5_structureColumn : GoodIn wsX6_findRound (wsV RX6 167 RX5 yX5_structureColumn wsX5_structureColumn) := goodIn_app (goodIn_of _ (by decide +kernel)) ggX6_findRound_X5_structureColumn
set_option maxRecDepth 20000 in
theorem ggX6_findRound_X6_fail : GoodIn wsX6_findRound wsX6_fail := goodIn_r _ [35, 36, 37, 38, 39, 40, 41, 42, 43, 44, 45, 46] rfl (by decide +kernel)
set_option maxRecDepth 20000 in
theorem gX6_findRound_X6_fail : GoodIn wsX6_findRound (wsV RX6 76 RX6 yX6_fail wsX6_fail) := goodIn_app (goodIn_of _ (by decide +kernel)) ggX6_findRound_X6_fail
theorem dX6_findRound_0 : decode cX6_findRound 0 = .ok (.aload_n 0, 1) := by decide +kernel
theorem dX6_findRound_1 : decode cX6_findRound 1 = .ok (.getfield 17, 3) := by decide +kernel
theorem dX6_findRound_4 : decode cX6_findRound 4 = .ok (.getfield 100, 3) := by decide +kernel
theorem dX6_findRound_7 : decode cX6_findRound 7 = .ok (.istore_n 1, 1) := by decide +kernel
theorem dX6_findRound_8 : decode cX6_findRound 8 = .ok (.iconst 0, 1) := by decide +kernel
theorem dX6_findRound_9 : decode cX6_findRound 9 = .ok (.istore_n 2, 1) := by decide +kernel
theorem dX6_findRound_10 : decode cX6_findRound 10 = .ok (.iload_n 2, 1) := by decide +kernel
theorem dX6_findRound_11 : decode cX6_findRound 11 = .ok (.iload_n 1, 1) := by decide +kernel
theorem dX6_findRound_12 : decode cX6_findRound 12 = .ok (.if_icmp .ge 83, 3) := by decide +kernel
theorem dX6_findRound_15 : decode cX6_findRound 15 = .ok (.aload_n 0, 1) := by decide +kernel
theorem dX6_findRound_16 : decode cX6_findRound 16 = .ok (.getfield 11, 3) := by decide +kernel
theorem dX6_findRound_19 : decode cX6_findRound 19 = .ok (.iload_n 2, 1) := by decide +kernel
theorem dX6_findRound_20 : decode cX6_findRound 20 = .ok (.iconst 0, 1) := by decide +kernel
theorem dX6_findRound_21 : decode cX6_findRound 21 = .ok (.iastore, 1) := by decide +kernel
theorem dX6_findRound_22 : decode cX6_findRound 22 = .ok (.iconst 0, 1) := by decide +kernel
theorem dX6_findRound_23 : decode cX6_findRound 23 = .ok (.istore_n 3, 1) := by decide +kernel
theorem dX6_findRound_24 : decode cX6_findRound 24 = .ok (.iload_n 3, 1) := by decide +kernel
theorem dX6_findRound_25 : decode cX6_findRound 25 = .ok (.aload_n 0, 1) := by decide +kernel
theorem dX6_findRound_26 : decode cX6_findRound 26 = .ok (.getfield 17, 3) := by decide +kernel
theorem dX6_findRound_29 : decode cX6_findRound 29 = .ok (.iload_n 2, 1) := by decide +kernel
theorem dX6_findRound_30 : decode cX6_findRound 30 = .ok (.invokevirtual 156, 3) := by decide +kernel
theorem dX6_findRound_33 : decode cX6_findRound 33 = .ok (.if_icmp .ge 56, 3) := by decide +kernel
theorem dX6_findRound_36 : decode cX6_findRound 36 = .ok (.aload_n 0, 1) := by decide +kernel
theorem dX6_findRound_37 : decode cX6_findRound 37 = .ok (.getfield 17, 3) := by decide +kernel
theorem dX6_findRound_40 : decode cX6_findRound 40 = .ok (.iload_n 2, 1) := by decide +kernel
theorem dX6_findRound_41 : decode cX6_findRound 41 = .ok (.iload_n 3, 1) := by decide +kernel
theorem dX6_findRound_42 : decode cX6_findRound 42 = .ok (.invokevirtual 159, 3) := by decide +kernel
theorem dX6_findRound_45 : decode cX6_findRound 45 = .ok (.lstore 4, 2) := by decide +kernel
theorem dX6_findRound_47 : decode cX6_findRound 47 = .ok (.lload 4, 2) := by decide +kernel
theorem dX6_findRound_49 : decode cX6_findRound 49 = .ok (.l2i, 1) := by decide +kernel
theorem dX6_findRound_50 : decode cX6_findRound 50 = .ok (.sipush 255, 3) := by decide +kernel
theorem dX6_findRound_53 : decode cX6_findRound 53 = .ok (.iand, 1) := by decide +kernel
theorem dX6_findRound_54 : decode cX6_findRound 54 = .ok (.istore 6, 2) := by decide +kernel
theorem dX6_findRound_56 : decode cX6_findRound 56 = .ok (.lload 4, 2) := by decide +kernel
theorem dX6_findRound_58 : decode cX6_findRound 58 = .ok (.invokestatic 163, 3) := by decide +kernel
theorem dX6_findRound_61 : decode cX6_findRound 61 = .ok (.ifCond .eq 22, 3) := by decide +kernel
theorem dX6_findRound_64 : decode cX6_findRound 64 = .ok (.iload 6, 2) := by decide +kernel
theorem dX6_findRound_66 : decode cX6_findRound 66 = .ok (.iload_n 1, 1) := by decide +kernel
theorem dX6_findRound_67 : decode cX6_findRound 67 = .ok (.if_icmp .ge 16, 3) := by decide +kernel
theorem dX6_findRound_70 : decode cX6_findRound 70 = .ok (.aload_n 0, 1) := by decide +kernel
theorem dX6_findRound_71 : decode cX6_findRound 71 = .ok (.getfield 11, 3) := by decide +kernel
theorem dX6_findRound_74 : decode cX6_findRound 74 = .ok (.iload_n 2, 1) := by decide +kernel
theorem dX6_findRound_75 : decode cX6_findRound 75 = .ok (.dup2, 1) := by decide +kernel
theorem dX6_findRound_76 : decode cX6_findRound 76 = .ok (.iaload, 1) := by decide +kernel
theorem dX6_findRound_77 : decode cX6_findRound 77 = .ok (.iconst 1, 1) := by decide +kernel
theorem dX6_findRound_78 : decode cX6_findRound 78 = .ok (.iload 6, 2) := by decide +kernel
theorem dX6_findRound_80 : decode cX6_findRound 80 = .ok (.ishl, 1) := by decide +kernel
theorem dX6_findRound_81 : decode cX6_findRound 81 = .ok (.ior, 1) := by decide +kernel
theorem dX6_findRound_82 : decode cX6_findRound 82 = .ok (.iastore, 1) := by decide +kernel
theorem dX6_findRound_83 : decode cX6_findRound 83 = .ok (.iinc 3 1, 3) := by decide +kernel
theorem dX6_findRound_86 : decode cX6_findRound 86 = .ok (.goto (-62), 3) := by decide +kernel
theorem dX6_findRound_89 : decode cX6_findRound 89 = .ok (.iinc 2 1, 3) := by decide +kernel
theorem dX6_findRound_92 : decode cX6_findRound 92 = .ok (.goto (-82), 3) := by decide +kernel
theorem dX6_findRound_95 : decode cX6_findRound 95 = .ok (.iconst 0, 1) := by decide +kernel
theorem dX6_findRound_96 : decode cX6_findRound 96 = .ok (.istore_n 2, 1) := by decide +kernel
theorem dX6_findRound_97 : decode cX6_findRound 97 = .ok (.iload_n 2, 1) := by decide +kernel
theorem dX6_findRound_98 : decode cX6_findRound 98 = .ok (.iload_n 1, 1) := by decide +kernel
theorem dX6_findRound_99 : decode cX6_findRound 99 = .ok (.if_icmp .ge 50, 3) := by decide +kernel
theorem dX6_findRound_102 : decode cX6_findRound 102 = .ok (.iconst 0, 1) := by decide +kernel
theorem dX6_findRound_103 : decode cX6_findRound 103 = .ok (.istore_n 3, 1) := by decide +kernel
theorem dX6_findRound_104 : decode cX6_findRound 104 = .ok (.iload_n 3, 1) := by decide +kernel
theorem dX6_findRound_105 : decode cX6_findRound 105 = .ok (.iload_n 1, 1) := by decide +kernel
theorem dX6_findRound_106 : decode cX6_findRound 106 = .ok (.if_icmp .ge 37, 3) := by decide +kernel
theorem dX6_findRound_109 : decode cX6_findRound 109 = .ok (.aload_n 0, 1) := by decide +kernel
theorem dX6_findRound_110 : decode cX6_findRound 110 = .ok (.getfield 11, 3) := by decide +kernel
theorem dX6_findRound_113 : decode cX6_findRound 113 = .ok (.iload_n 3, 1) := by decide +kernel
theorem dX6_findRound_114 : decode cX6_findRound 114 = .ok (.iaload, 1) := by decide +kernel
theorem dX6_findRound_115 : decode cX6_findRound 115 = .ok (.iload_n 2, 1) := by decide +kernel
theorem dX6_findRound_116 : decode cX6_findRound 116 = .ok (.iushr, 1) := by decide +kernel
theorem dX6_findRound_117 : decode cX6_findRound 117 = .ok (.iconst 1, 1) := by decide +kernel
theorem dX6_findRound_118 : decode cX6_findRound 118 = .ok (.iand, 1) := by decide +kernel
theorem dX6_findRound_119 : decode cX6_findRound 119 = .ok (.ifCond .eq 18, 3) := by decide +kernel
theorem dX6_findRound_122 : decode cX6_findRound 122 = .ok (.aload_n 0, 1) := by decide +kernel
theorem dX6_findRound_123 : decode cX6_findRound 123 = .ok (.getfield 11, 3) := by decide +kernel
theorem dX6_findRound_126 : decode cX6_findRound 126 = .ok (.iload_n 3, 1) := by decide +kernel
theorem dX6_findRound_127 : decode cX6_findRound 127 = .ok (.dup2, 1) := by decide +kernel
theorem dX6_findRound_128 : decode cX6_findRound 128 = .ok (.iaload, 1) := by decide +kernel
theorem dX6_findRound_129 : decode cX6_findRound 129 = .ok (.aload_n 0, 1) := by decide +kernel
theorem dX6_findRound_130 : decode cX6_findRound 130 = .ok (.getfield 11, 3) := by decide +kernel
theorem dX6_findRound_133 : decode cX6_findRound 133 = .ok (.iload_n 2, 1) := by decide +kernel
theorem dX6_findRound_134 : decode cX6_findRound 134 = .ok (.iaload, 1) := by decide +kernel
theorem dX6_findRound_135 : decode cX6_findRound 135 = .ok (.ior, 1) := by decide +kernel
theorem dX6_findRound_136 : decode cX6_findRound 136 = .ok (.iastore, 1) := by decide +kernel
theorem dX6_findRound_137 : decode cX6_findRound 137 = .ok (.iinc 3 1, 3) := by decide +kernel
theorem dX6_findRound_140 : decode cX6_findRound 140 = .ok (.goto (-36), 3) := by decide +kernel
theorem dX6_findRound_143 : decode cX6_findRound 143 = .ok (.iinc 2 1, 3) := by decide +kernel
theorem dX6_findRound_146 : decode cX6_findRound 146 = .ok (.goto (-49), 3) := by decide +kernel
theorem dX6_findRound_149 : decode cX6_findRound 149 = .ok (.iconst 0, 1) := by decide +kernel
theorem dX6_findRound_150 : decode cX6_findRound 150 = .ok (.istore_n 2, 1) := by decide +kernel
theorem dX6_findRound_151 : decode cX6_findRound 151 = .ok (.iload_n 2, 1) := by decide +kernel
theorem dX6_findRound_152 : decode cX6_findRound 152 = .ok (.iload_n 1, 1) := by decide +kernel
theorem dX6_findRound_153 : decode cX6_findRound 153 = .ok (.if_icmp .ge 37, 3) := by decide +kernel
theorem dX6_findRound_156 : decode cX6_findRound 156 = .ok (.aload_n 0, 1) := by decide +kernel
theorem dX6_findRound_157 : decode cX6_findRound 157 = .ok (.getfield 11, 3) := by decide +kernel
theorem dX6_findRound_160 : decode cX6_findRound 160 = .ok (.iload_n 2, 1) := by decide +kernel
theorem dX6_findRound_161 : decode cX6_findRound 161 = .ok (.iaload, 1) := by decide +kernel
theorem dX6_findRound_162 : decode cX6_findRound 162 = .ok (.iload_n 2, 1) := by decide +kernel
theorem dX6_findRound_163 : decode cX6_findRound 163 = .ok (.iushr, 1) := by decide +kernel
theorem dX6_findRound_164 : decode cX6_findRound 164 = .ok (.iconst 1, 1) := by decide +kernel
theorem dX6_findRound_165 : decode cX6_findRound 165 = .ok (.iand, 1) := by decide +kernel
theorem dX6_findRound_166 : decode cX6_findRound 166 = .ok (.ifCond .eq 18, 3) := by decide +kernel
theorem dX6_findRound_169 : decode cX6_findRound 169 = .ok (.aload_n 0, 1) := by decide +kernel
theorem dX6_findRound_170 : decode cX6_findRound 170 = .ok (.bipush 14, 2) := by decide +kernel
theorem dX6_findRound_172 : decode cX6_findRound 172 = .ok (.aload_n 0, 1) := by decide +kernel
theorem dX6_findRound_173 : decode cX6_findRound 173 = .ok (.getfield 17, 3) := by decide +kernel
theorem dX6_findRound_176 : decode cX6_findRound 176 = .ok (.iload_n 2, 1) := by decide +kernel
theorem dX6_findRound_177 : decode cX6_findRound 177 = .ok (.iconst 1, 1) := by decide +kernel
theorem dX6_findRound_178 : decode cX6_findRound 178 = .ok (.invokevirtual 167, 3) := by decide +kernel
theorem dX6_findRound_181 : decode cX6_findRound 181 = .ok (.invokevirtual 76, 3) := by decide +kernel
theorem dX6_findRound_184 : decode cX6_findRound 184 = .ok (.iinc 2 1, 3) := by decide +kernel
theorem dX6_findRound_187 : decode cX6_findRound 187 = .ok (.goto (-36), 3) := by decide +kernel
theorem dX6_findRound_190 : decode cX6_findRound 190 = .ok (.return_, 1) := by decide +kernel
set_option maxRecDepth 20000 in
theorem ggX11_init_X5_lay : GoodIn wsX11_init wsX5_lay := goodIn_r _ [163, 164, 165, 166, 167, 168, 52, 169, 170, 171, 172, 173, 443, 444, 445, 446, 447, 448, 449, 450, 451, 452, 453, 454, 455, 456, 457] rfl (by decide +kernel)
set_option maxRecDepth 20000 in
theorem gX11_init_X5_lay : GoodIn wsX11_init (wsV RX11 69 RX5 yX5_lay wsX5_lay) := goodIn_app (goodIn_of _ (by decide +kernel)) ggX11_init_X5_lay
set_option maxRecDepth 20000 in
theorem ggX11_init_X6_read : GoodIn wsX11_init wsX6_read := goodIn_r _ [177, 178, 179, 180, 181, 182, 183, 184, 185, 186, 187, 188, 167, 168, 52, 169, 170, 171, 172, 173, 189, 190, 191, 14, 192, 193, 194, 195, 196, 197, 198, 199, 200, 201, 202, 203, 204, 205, 206, 207, 208, 209, 210, 211, 212, 213, 214, 215, 216, 217, 218, 219, 220, 221, 58, 222, 223, 224, 225, 226, 227, 228, 229, 230, 231, 232, 233, 56, 234, 235, 236, 237, 238, 239, 240, 241, 242, 243, 244, 245, 246, 59, 247, 248, 249, 250, 251, 252, 253, 254, 255, 256, 257, 258, 259, 260, 261, 262, 263, 264, 265, 266, 57, 267, 268, 269, 270, 271, 272, 273, 274, 275, 276, 277, 278, 279, 280, 281, 282, 283, 284, 285, 286, 287, 288, 289, 290, 291, 63, 292, 293, 294, 295, 296, 297, 298, 299, 300, 301, 302, 303, 304, 305, 362, 363, 364, 365, 366, 367, 368, 369, 370, 443, 444, 445, 446, 447, 448, 449, 450, 451, 452, 453, 454, 455, 456, 457] rfl (by decide +kernel)
set_option maxRecDepth 20000 in
theorem gX11_init_X6_read : GoodIn wsX11_init (wsV RX11 73 RX6 yX6_read wsX6_read) := goodIn_app (goodIn_of _ (by decide +kernel)) ggX11_init_X6_read
set_option maxRecDepth 20000 in
theorem ggX11_init_X5_measure : GoodIn wsX11_init wsX5_measure := goodIn_r _ [309, 287, 310, 311, 312, 313, 314, 283, 284, 285, 52, 286, 58, 315, 316, 317, 10, 318, 319, 42, 320, 321, 219, 220, 221, 322, 280, 281, 282, 323, 293, 294, 295, 296, 297, 298, 299, 171, 56, 324, 325, 326, 327, 303, 328, 329, 301, 302, 304, 330, 331, 332, 443, 444, 445, 446, 447, 448, 449, 450, 451, 452, 453, 454, 455, 456, 457, 346, 347, 348, 349, 350, 351, 352, 353, 354, 355, 356, 357, 358, 359, 360, 361] rfl (by decide +kernel)
set_option maxRecDepth 20000 in
theorem gX11_init_X5_measure : GoodIn wsX11_init (wsV RX11 77 RX5 yX5_measure wsX5_measure) := goodIn_app (goodIn_of _ (by decide +kernel)) ggX11_init_X5_measure
