def wsX7_findAccount : List Cond := .code yX7_findAccount cX7_findAccount 4 (some .int) :: ([.fieldLink RX7 51 "ResourceLedger$State" "accountCount" "I", .fieldLink RX7 9 "ResourceLedger$State" "accountAddress" "[J"] ++ wsX70)
def wsX7_findResource : List Cond := .code yX7_findResource cX7_findResource 6 (some .int) :: ([.fieldLink RX7 37 "ResourceLedger$State" "nodeCount" "[I", .fieldLink RX7 27 "ResourceLedger$State" "resourceAddress" "[J", .fieldLink RX7 30 "ResourceLedger$State" "resourceModule" "[I", .fieldLink RX7 34 "ResourceLedger$State" "resourceStructure" "[I"] ++ wsX70)
def wsX7_placeCount : List Cond := .code yX7_placeCount cX7_placeCount 1 (some .int) :: ([.fieldLink RX7 51 "ResourceLedger$State" "accountCount" "I", .fieldLink RX7 55 "ResourceLedger$State" "moduleCount" "I", .fieldLink RX7 58 "ResourceLedger$State" "resourceCount" "I"] ++ wsX70)
def wsX7_openAccount : List Cond := .code yX7_openAccount cX7_openAccount 4 (some .int) :: ([.fieldLink RX7 51 "ResourceLedger$State" "accountCount" "I", .methodLink RX7 61 Lib.Math.min.name, .static Lib.Math.min.name, .initialized "java/lang/Math", .code Lib.Math.min.name Lib.Math.min.code 2 (some .int), .fieldLink RX7 9 "ResourceLedger$State" "accountAddress" "[J", .fieldLink RX7 15 "ResourceLedger$State" "balance" "[J", .fieldLink RX7 18 "ResourceLedger$State" "sequence" "[J"] ++ wsX70)
def wsX4_slipCount : List Cond := .code yX4_slipCount cX4_slipCount 1 (some .int) :: ([.fieldLink RX4 12 "ResourceLedger$Machine" "heap" "LResourceLedger$Heap;", .fieldLink RX4 71 "ResourceLedger$Heap" "slips" "I"] ++ wsX40 ++ wsX10)
def wsX7_allBalances : List Cond := .code yX7_allBalances cX7_allBalances 4 (some .long) :: ([.fieldLink RX7 51 "ResourceLedger$State" "accountCount" "I", .fieldLink RX7 15 "ResourceLedger$State" "balance" "[J"] ++ wsX70)
def wsX7_storedCoins : List Cond := .code yX7_storedCoins cX7_storedCoins 5 (some .long) :: ([.fieldLink RX7 37 "ResourceLedger$State" "nodeCount" "[I", .fieldLink RX7 40 "ResourceLedger$State" "nodeKind" "[B", .fieldLink RX7 47 "ResourceLedger$State" "nodeLow" "[J"] ++ wsX70)
def wsX8_lay : List Cond := .code yX8_lay cX8_lay 6 none :: ([.fieldLink RX8 31 "ResourceLedger$Transaction" "calls" "Z", .fieldLink RX8 35 "ResourceLedger$Transaction" "sender" "J", .fieldLink RX8 39 "ResourceLedger$Transaction" "sequence" "J", .fieldLink RX8 42 "ResourceLedger$Transaction" "limit" "I", .fieldLink RX8 46 "ResourceLedger$Transaction" "argumentCount" "I", .fieldLink RX8 49 "ResourceLedger$Transaction" "resultCount" "I", .fieldLink RX8 52 "ResourceLedger$Transaction" "place" "I", .fieldLink RX8 55 "ResourceLedger$Transaction" "bytes" "[B"] ++ wsX80)
def wsX11_type : List Cond := .code yX11_type cX11_type 5 (some .int) :: ([.fieldLink RX11 80 "ResourceLedger" "tapeLength" "I", .fieldLink RX11 9 "ResourceLedger" "tape" "[B"] ++ wsX110)
def wsX11_mint_r1 : List Cond := [Cond.constantLong RX11 84 (4611686018427387904), Cond.fieldLink RX11 22 "ResourceLedger" "state" "LResourceLedger$State;", Cond.fieldLink RX11 86 "ResourceLedger$State" "minted" "J", Cond.fieldLink RX11 90 "ResourceLedger$State" "burned" "J", Cond.fieldLink RX11 104 "ResourceLedger$State" "balance" "[J", Cond.fieldLink RX11 43 "ResourceLedger" "tree" "LResourceLedger$Tree;", Cond.fieldLink RX11 108 "ResourceLedger$Tree" "stale" "Z", Cond.methodLink RX11 93 yX7_findAccount, Cond.instanceMethod yX7_findAccount, Cond.selects RX7 yX7_findAccount yX7_findAccount, Cond.initialized RX7, Cond.code yX7_findAccount cX7_findAccount 4 (some .int), Cond.fieldLink RX7 51 "ResourceLedger$State" "accountCount" "I", Cond.fieldLink RX7 9 "ResourceLedger$State" "accountAddress" "[J", Cond.methodLink RX11 97 yX7_placeCount, Cond.instanceMethod yX7_placeCount, Cond.selects RX7 yX7_placeCount yX7_placeCount, Cond.code yX7_placeCount cX7_placeCount 1 (some .int), Cond.fieldLink RX7 55 "ResourceLedger$State" "moduleCount" "I", Cond.fieldLink RX7 58 "ResourceLedger$State" "resourceCount" "I", Cond.methodLink RX11 101 yX7_openAccount, Cond.instanceMethod yX7_openAccount, Cond.selects RX7 yX7_openAccount yX7_openAccount, Cond.code yX7_openAccount cX7_openAccount 4 (some .int)]
def wsX11_mint_r2 : List Cond := [Cond.methodLink RX7 61 Lib.Math.min.name, Cond.static Lib.Math.min.name, Cond.initialized "java/lang/Math", Cond.code Lib.Math.min.name Lib.Math.min.code 2 (some .int), Cond.fieldLink RX7 15 "ResourceLedger$State" "balance" "[J", Cond.fieldLink RX7 18 "ResourceLedger$State" "sequence" "[J"]
def wsX11_mint : List Cond := .code yX11_mint cX11_mint 6 (some .boolean) :: ((wsX11_mint_r1 ++ wsX11_mint_r2) ++ wsX110 ++ wsX70 ++ wsX90)
def wsX11_begin : List Cond := .code yX11_begin cX11_begin 2 (some .int) :: ([.fieldLink RX11 112 "ResourceLedger" "blockLength" "I", .fieldLink RX11 115 "ResourceLedger" "doneLength" "I"] ++ wsX110)
def wsX11_publish_r1 : List Cond := [Cond.fieldLink RX11 112 "ResourceLedger" "blockLength" "I", Cond.fieldLink RX11 15 "ResourceLedger" "block" "[LResourceLedger$Transaction;", Cond.fieldLink RX11 9 "ResourceLedger" "tape" "[B", Cond.fieldLink RX11 80 "ResourceLedger" "tapeLength" "I", Cond.fieldLink RX11 127 "ResourceLedger$Transaction" "bytes" "[B", Cond.methodLink RX11 118 yX8_lay, Cond.instanceMethod yX8_lay, Cond.selects RX8 yX8_lay yX8_lay, Cond.initialized RX8, Cond.code yX8_lay cX8_lay 6 none, Cond.fieldLink RX8 31 "ResourceLedger$Transaction" "calls" "Z", Cond.fieldLink RX8 35 "ResourceLedger$Transaction" "sender" "J", Cond.fieldLink RX8 39 "ResourceLedger$Transaction" "sequence" "J", Cond.fieldLink RX8 42 "ResourceLedger$Transaction" "limit" "I", Cond.fieldLink RX8 46 "ResourceLedger$Transaction" "argumentCount" "I", Cond.fieldLink RX8 49 "ResourceLedger$Transaction" "resultCount" "I", Cond.fieldLink RX8 52 "ResourceLedger$Transaction" "place" "I", Cond.fieldLink RX8 55 "ResourceLedger$Transaction" "bytes" "[B", Cond.methodLink RX11 121 yJ7_copyOf_9075b, Cond.static yJ7_copyOf_9075b, Cond.initialized RJ7, Cond.code yJ7_copyOf_9075b cJ7_copyOf_9075b 3 (some (.array .byte)), Cond.methodLink RJ7 310 ⟨"[B", "clone", "()Ljava/lang/Object;"⟩, Cond.sameMethod "[B" "java/lang/Object" "clone" "()Ljava/lang/Object;"]
def wsX11_publish_r2 : List Cond := [Cond.native ⟨"java/lang/Object", "clone", "()Ljava/lang/Object;"⟩, Cond.instanceMethod ⟨"java/lang/Object", "clone", "()Ljava/lang/Object;"⟩, Cond.selects "[B" ⟨"[B", "clone", "()Ljava/lang/Object;"⟩ ⟨"java/lang/Object", "clone", "()Ljava/lang/Object;"⟩, Cond.classLink RJ7 311 "[B", Cond.arrayClass .byte, Cond.methodLink RJ7 304 Lib.Math.min.name, Cond.static Lib.Math.min.name, Cond.initialized "java/lang/Math", Cond.code Lib.Math.min.name Lib.Math.min.code 2 (some .int), Cond.methodLink RJ7 150 arraycopyName, Cond.native arraycopyName, Cond.static arraycopyName, Cond.initialized "java/lang/System"]
def wsX11_publish : List Cond := .code yX11_publish cX11_publish 7 (some .int) :: ((wsX11_publish_r1 ++ wsX11_publish_r2) ++ wsX110 ++ wsX80)
def wsX11_call : List Cond := .code yX11_call cX11_call 9 (some .int) :: ([.constant RX11 130 (65535), .fieldLink RX11 112 "ResourceLedger" "blockLength" "I", .fieldLink RX11 15 "ResourceLedger" "block" "[LResourceLedger$Transaction;", .fieldLink RX11 131 "ResourceLedger$Transaction" "calls" "Z", .fieldLink RX11 134 "ResourceLedger$Transaction" "module" "I", .fieldLink RX11 137 "ResourceLedger$Transaction" "function" "I", .methodLink RX11 118 yX8_lay, .instanceMethod yX8_lay, .selects RX8 yX8_lay yX8_lay, .initialized RX8, .code yX8_lay cX8_lay 6 none, .fieldLink RX8 31 "ResourceLedger$Transaction" "calls" "Z", .fieldLink RX8 35 "ResourceLedger$Transaction" "sender" "J", .fieldLink RX8 39 "ResourceLedger$Transaction" "sequence" "J", .fieldLink RX8 42 "ResourceLedger$Transaction" "limit" "I", .fieldLink RX8 46 "ResourceLedger$Transaction" "argumentCount" "I", .fieldLink RX8 49 "ResourceLedger$Transaction" "resultCount" "I", .fieldLink RX8 52 "ResourceLedger$Transaction" "place" "I", .fieldLink RX8 55 "ResourceLedger$Transaction" "bytes" "[B"] ++ wsX110 ++ wsX80)
def wsX11_isArgument : List Cond := .code yX11_isArgument cX11_isArgument 5 (some .boolean) :: ([.constantLong RX11 148 (255)])
def wsX11_argument : List Cond := .code yX11_argument cX11_argument 6 (some .int) :: ([.fieldLink RX11 112 "ResourceLedger" "blockLength" "I", .fieldLink RX11 115 "ResourceLedger" "doneLength" "I", .fieldLink RX11 15 "ResourceLedger" "block" "[LResourceLedger$Transaction;", .fieldLink RX11 131 "ResourceLedger$Transaction" "calls" "Z", .methodLink RX11 140 yX11_isArgument, .static yX11_isArgument, .initialized RX11, .code yX11_isArgument cX11_isArgument 5 (some .boolean), .constantLong RX11 148 (255), .methodLink RX11 144 yX8_addArgument, .instanceMethod yX8_addArgument, .selects RX8 yX8_addArgument yX8_addArgument, .initialized RX8, .code yX8_addArgument cX8_addArgument 6 (some .int), .fieldLink RX8 46 "ResourceLedger$Transaction" "argumentCount" "I", .fieldLink RX8 9 "ResourceLedger$Transaction" "argumentType" "[I", .fieldLink RX8 15 "ResourceLedger$Transaction" "argumentHigh" "[J", .fieldLink RX8 19 "ResourceLedger$Transaction" "argumentLow" "[J"] ++ wsX110 ++ wsX80)
def wsX11_weave : List Cond := .code yX11_weave cX11_weave 3 (some .int) :: ([.fieldLink RX11 150 "ResourceLedger" "weaveLength" "I"] ++ wsX110)
def wsX11_unweave : List Cond := .code yX11_unweave cX11_unweave 2 (some .int) :: ([.fieldLink RX11 150 "ResourceLedger" "weaveLength" "I"] ++ wsX110)
def wsX11_execute_r1 : List Cond := [Cond.fieldLink RX11 115 "ResourceLedger" "doneLength" "I", Cond.fieldLink RX11 112 "ResourceLedger" "blockLength" "I", Cond.fieldLink RX11 15 "ResourceLedger" "block" "[LResourceLedger$Transaction;", Cond.fieldLink RX11 22 "ResourceLedger" "state" "LResourceLedger$State;", Cond.fieldLink RX11 131 "ResourceLedger$Transaction" "calls" "Z", Cond.fieldLink RX11 55 "ResourceLedger" "machine" "LResourceLedger$Machine;", Cond.fieldLink RX11 174 "ResourceLedger$Transaction" "outcome" "I", Cond.fieldLink RX11 43 "ResourceLedger" "tree" "LResourceLedger$Tree;", Cond.fieldLink RX11 108 "ResourceLedger$Tree" "stale" "Z", Cond.methodLink RX11 153 yX11_refusalOf, Cond.instanceMethod yX11_refusalOf, Cond.selects RX11 yX11_refusalOf yX11_refusalOf, Cond.initialized RX11, Cond.code yX11_refusalOf cX11_refusalOf 4 (some .int), Cond.fieldLink RX11 177 "ResourceLedger$Transaction" "sender" "J", Cond.fieldLink RX11 180 "ResourceLedger$State" "sequence" "[J", Cond.fieldLink RX11 183 "ResourceLedger$Transaction" "sequence" "J", Cond.fieldLink RX11 104 "ResourceLedger$State" "balance" "[J", Cond.fieldLink RX11 185 "ResourceLedger$Transaction" "limit" "I", Cond.fieldLink RX11 134 "ResourceLedger$Transaction" "module" "I", Cond.fieldLink RX11 137 "ResourceLedger$Transaction" "function" "I", Cond.fieldLink RX11 192 "ResourceLedger$Program" "ownFunctions" "I", Cond.methodLink RX11 93 yX7_findAccount, Cond.instanceMethod yX7_findAccount]
def wsX11_execute_r2 : List Cond := [Cond.selects RX7 yX7_findAccount yX7_findAccount, Cond.initialized RX7, Cond.code yX7_findAccount cX7_findAccount 4 (some .int), Cond.fieldLink RX7 51 "ResourceLedger$State" "accountCount" "I", Cond.fieldLink RX7 9 "ResourceLedger$State" "accountAddress" "[J", Cond.methodLink RX11 188 yX7_findProgram, Cond.instanceMethod yX7_findProgram, Cond.selects RX7 yX7_findProgram yX7_findProgram, Cond.code yX7_findProgram cX7_findProgram 3 (some (.object "ResourceLedger$Program")), Cond.fieldLink RX7 55 "ResourceLedger$State" "moduleCount" "I", Cond.fieldLink RX7 23 "ResourceLedger$State" "programs" "[LResourceLedger$Program;", Cond.fieldLink RX7 86 "ResourceLedger$Program" "number" "I", Cond.methodLink RX11 195 yX5_flags, Cond.instanceMethod yX5_flags, Cond.selects RX5 yX5_flags yX5_flags, Cond.initialized RX5, Cond.code yX5_flags cX5_flags 2 (some .int), Cond.methodLink RX5 58 yX5_functionColumn, Cond.instanceMethod yX5_functionColumn, Cond.selects RX5 yX5_functionColumn yX5_functionColumn, Cond.code yX5_functionColumn cX5_functionColumn 4 (some .int), Cond.fieldLink RX5 55 "ResourceLedger$Program" "ownFunctions" "I", Cond.fieldLink RX5 45 "ResourceLedger$Program" "foreignFunctions" "I", Cond.fieldLink RX5 22 "ResourceLedger$Program" "functionRows" "[I"]
def wsX11_execute_r3 : List Cond := [Cond.methodLink RX11 199 yX8_fits, Cond.instanceMethod yX8_fits, Cond.selects RX8 yX8_fits yX8_fits, Cond.initialized RX8, Cond.code yX8_fits cX8_fits 3 (some .boolean), Cond.fieldLink RX8 59 "ResourceLedger$Transaction" "function" "I", Cond.fieldLink RX8 46 "ResourceLedger$Transaction" "argumentCount" "I", Cond.fieldLink RX8 9 "ResourceLedger$Transaction" "argumentType" "[I", Cond.methodLink RX8 62 yX5_takes, Cond.instanceMethod yX5_takes, Cond.selects RX5 yX5_takes yX5_takes, Cond.code yX5_takes cX5_takes 2 (some .int), Cond.methodLink RX8 68 yX5_takenType, Cond.instanceMethod yX5_takenType, Cond.selects RX5 yX5_takenType yX5_takenType, Cond.code yX5_takenType cX5_takenType 3 (some .long), Cond.methodLink RX5 65 yX5_typeAt, Cond.instanceMethod yX5_typeAt, Cond.selects RX5 yX5_typeAt yX5_typeAt, Cond.code yX5_typeAt cX5_typeAt 2 (some .long), Cond.fieldLink RX5 39 "ResourceLedger$Program" "typeCount" "I", Cond.fieldLink RX5 9 "ResourceLedger$Program" "types" "[J", Cond.methodLink RX11 203 yX5_givesPlain, Cond.instanceMethod yX5_givesPlain]
def wsX11_execute_r4 : List Cond := [Cond.selects RX5 yX5_givesPlain yX5_givesPlain, Cond.code yX5_givesPlain cX5_givesPlain 5 (some .boolean), Cond.constantLong RX5 97 (5), Cond.methodLink RX5 69 yX5_gives, Cond.instanceMethod yX5_gives, Cond.selects RX5 yX5_gives yX5_gives, Cond.code yX5_gives cX5_gives 2 (some .int), Cond.methodLink RX5 93 yX5_givenType, Cond.instanceMethod yX5_givenType, Cond.selects RX5 yX5_givenType yX5_givenType, Cond.code yX5_givenType cX5_givenType 3 (some .long), Cond.methodLink RX5 62 yX5_takes, Cond.methodLink RX11 157 yX8_end, Cond.instanceMethod yX8_end, Cond.selects RX8 yX8_end yX8_end, Cond.code yX8_end cX8_end 5 none, Cond.fieldLink RX8 72 "ResourceLedger$Transaction" "outcome" "I", Cond.fieldLink RX8 75 "ResourceLedger$Transaction" "code" "J", Cond.fieldLink RX8 78 "ResourceLedger$Transaction" "gas" "I", Cond.methodLink RX11 161 yX7_charge, Cond.instanceMethod yX7_charge, Cond.selects RX7 yX7_charge yX7_charge, Cond.code yX7_charge cX7_charge 3 none, Cond.fieldLink RX7 67 "ResourceLedger$Transaction" "sender" "J"]
def wsX11_execute_r5 : List Cond := [Cond.fieldLink RX7 15 "ResourceLedger$State" "balance" "[J", Cond.fieldLink RX7 77 "ResourceLedger$Transaction" "limit" "I", Cond.fieldLink RX7 18 "ResourceLedger$State" "sequence" "[J", Cond.methodLink RX7 73 yX7_findAccount, Cond.methodLink RX11 165 yX4_run, Cond.instanceMethod yX4_run, Cond.selects RX4 yX4_run yX4_run, Cond.initialized RX4, Cond.code yX4_run cX4_run 4 none, Cond.fieldLink RX4 75 "ResourceLedger$Machine" "t" "LResourceLedger$Transaction;", Cond.fieldLink RX4 79 "ResourceLedger$Machine" "gas" "I", Cond.fieldLink RX4 82 "ResourceLedger$Machine" "running" "Z", Cond.fieldLink RX4 86 "ResourceLedger$Machine" "outcome" "I", Cond.fieldLink RX4 89 "ResourceLedger$Machine" "code" "J", Cond.fieldLink RX4 12 "ResourceLedger$Machine" "heap" "LResourceLedger$Heap;", Cond.fieldLink RX4 67 "ResourceLedger$Machine" "journal" "LResourceLedger$Journal;", Cond.fieldLink RX4 100 "ResourceLedger$Machine" "top" "I", Cond.fieldLink RX4 58 "ResourceLedger$Machine" "state" "LResourceLedger$State;", Cond.fieldLink RX4 103 "ResourceLedger$Transaction" "module" "I", Cond.fieldLink RX4 114 "ResourceLedger$Transaction" "function" "I", Cond.fieldLink RX4 121 "ResourceLedger$Transaction" "argumentCount" "I", Cond.fieldLink RX4 52 "ResourceLedger$Machine" "locals" "[I", Cond.fieldLink RX4 124 "ResourceLedger$Transaction" "argumentType" "[I", Cond.fieldLink RX4 127 "ResourceLedger$Transaction" "argumentHigh" "[J"]
def wsX11_execute_r6 : List Cond := [Cond.fieldLink RX4 131 "ResourceLedger$Transaction" "argumentLow" "[J", Cond.fieldLink RX4 71 "ResourceLedger$Heap" "slips" "I", Cond.methodLink RX4 141 Lib.Math.min.name, Cond.static Lib.Math.min.name, Cond.initialized "java/lang/Math", Cond.code Lib.Math.min.name Lib.Math.min.code 2 (some .int), Cond.constantLong RX4 151 (4), Cond.fieldLink RX4 49 "ResourceLedger$Machine" "depths" "[I", Cond.fieldLink RX4 55 "ResourceLedger$Machine" "stack" "[I", Cond.fieldLink RX4 157 "ResourceLedger$Heap" "kind" "[B", Cond.fieldLink RX4 160 "ResourceLedger$Heap" "high" "[J", Cond.fieldLink RX4 163 "ResourceLedger$Heap" "low" "[J", Cond.methodLink RX4 93 yX1_clear, Cond.instanceMethod yX1_clear, Cond.selects RX1 yX1_clear yX1_clear, Cond.initialized RX1, Cond.code yX1_clear cX1_clear 1 none, Cond.fieldLink RX1 26 "ResourceLedger$Heap" "used" "I", Cond.methodLink RX4 96 yX2_open, Cond.instanceMethod yX2_open, Cond.selects RX2 yX2_open yX2_open, Cond.initialized RX2, Cond.code yX2_open cX2_open 2 none, Cond.fieldLink RX2 46 "ResourceLedger$Journal" "count" "I"]
def wsX11_execute_r7 : List Cond := [Cond.fieldLink RX2 50 "ResourceLedger$Transaction" "sender" "J", Cond.fieldLink RX2 60 "ResourceLedger$Transaction" "module" "I", Cond.methodLink RX2 56 yX2_ask, Cond.instanceMethod yX2_ask, Cond.selects RX2 yX2_ask yX2_ask, Cond.code yX2_ask cX2_ask 8 (some .int), Cond.fieldLink RX2 11 "ResourceLedger$Journal" "kind" "[I", Cond.fieldLink RX2 15 "ResourceLedger$Journal" "address" "[J", Cond.fieldLink RX2 19 "ResourceLedger$Journal" "module" "[I", Cond.fieldLink RX2 22 "ResourceLedger$Journal" "structure" "[I", Cond.fieldLink RX2 32 "ResourceLedger$Journal" "balance" "[J", Cond.fieldLink RX2 35 "ResourceLedger$Journal" "node" "[I", Cond.fieldLink RX2 38 "ResourceLedger$Journal" "state" "LResourceLedger$State;", Cond.fieldLink RX2 68 "ResourceLedger$State" "balance" "[J", Cond.fieldLink RX2 42 "ResourceLedger$Journal" "heap" "LResourceLedger$Heap;", Cond.fieldLink RX2 25 "ResourceLedger$Journal" "wasThere" "[Z", Cond.fieldLink RX2 29 "ResourceLedger$Journal" "isThere" "[Z", Cond.methodLink RX2 62 yX7_findAccount, Cond.methodLink RX2 69 yX7_findResource, Cond.instanceMethod yX7_findResource, Cond.selects RX7 yX7_findResource yX7_findResource, Cond.code yX7_findResource cX7_findResource 6 (some .int), Cond.fieldLink RX7 37 "ResourceLedger$State" "nodeCount" "[I", Cond.fieldLink RX7 27 "ResourceLedger$State" "resourceAddress" "[J"]
def wsX11_execute_r8 : List Cond := [Cond.fieldLink RX7 30 "ResourceLedger$State" "resourceModule" "[I", Cond.fieldLink RX7 34 "ResourceLedger$State" "resourceStructure" "[I", Cond.methodLink RX2 73 yX1_load, Cond.instanceMethod yX1_load, Cond.selects RX1 yX1_load yX1_load, Cond.code yX1_load cX1_load 3 (some .int), Cond.fieldLink RX1 75 "ResourceLedger$Heap" "cursor" "I", Cond.methodLink RX1 78 yX1_loadNode, Cond.instanceMethod yX1_loadNode, Cond.selects RX1 yX1_loadNode yX1_loadNode, Cond.code yX1_loadNode cX1_loadNode 9 (some .int), Cond.fieldLink RX1 60 "ResourceLedger$State" "nodeKind" "[B", Cond.fieldLink RX1 30 "ResourceLedger$Heap" "slips" "I", Cond.fieldLink RX1 65 "ResourceLedger$State" "nodeHigh" "[J", Cond.fieldLink RX1 68 "ResourceLedger$State" "nodeLow" "[J", Cond.methodLink RX1 33 yX1_holdsOthers, Cond.static yX1_holdsOthers, Cond.code yX1_holdsOthers cX1_holdsOthers 1 (some .boolean), Cond.methodLink RX1 52 yX1_make, Cond.instanceMethod yX1_make, Cond.selects RX1 yX1_make yX1_make, Cond.code yX1_make cX1_make 6 (some .int), Cond.fieldLink RX1 11 "ResourceLedger$Heap" "kind" "[B", Cond.fieldLink RX1 19 "ResourceLedger$Heap" "high" "[J"]
def wsX11_execute_r9 : List Cond := [Cond.fieldLink RX1 15 "ResourceLedger$Heap" "low" "[J", Cond.fieldLink RX1 22 "ResourceLedger$Heap" "next" "[I", Cond.methodLink RX1 82 yX1_prepend, Cond.instanceMethod yX1_prepend, Cond.selects RX1 yX1_prepend yX1_prepend, Cond.code yX1_prepend cX1_prepend 3 none, Cond.methodLink RX4 108 yX7_findProgram, Cond.methodLink RX4 117 yX4_pushFrame, Cond.instanceMethod yX4_pushFrame, Cond.selects RX4 yX4_pushFrame yX4_pushFrame, Cond.code yX4_pushFrame cX4_pushFrame 4 none, Cond.fieldLink RX4 38 "ResourceLedger$Machine" "programs" "[LResourceLedger$Program;", Cond.fieldLink RX4 42 "ResourceLedger$Machine" "functions" "[I", Cond.fieldLink RX4 46 "ResourceLedger$Machine" "nexts" "[I", Cond.methodLink RX4 134 yX1_make, Cond.methodLink RX4 138 yX4_step, Cond.instanceMethod yX4_step, Cond.selects RX4 yX4_step yX4_step, Cond.code yX4_step cX4_step 8 none, Cond.fieldLink RX4 242 "ResourceLedger$Program" "number" "I", Cond.methodLink RX4 189 yX5_instructions, Cond.instanceMethod yX5_instructions, Cond.selects RX5 yX5_instructions yX5_instructions, Cond.code yX5_instructions cX5_instructions 2 (some .int)]
def wsX11_execute_r10 : List Cond := [Cond.methodLink RX4 153 yX4_end, Cond.instanceMethod yX4_end, Cond.selects RX4 yX4_end yX4_end, Cond.code yX4_end cX4_end 4 none, Cond.methodLink RX4 193 yX5_instructionPlace, Cond.instanceMethod yX5_instructionPlace, Cond.selects RX5 yX5_instructionPlace yX5_instructionPlace, Cond.code yX5_instructionPlace cX5_instructionPlace 4 (some .int), Cond.fieldLink RX5 42 "ResourceLedger$Program" "startCount" "I", Cond.fieldLink RX5 15 "ResourceLedger$Program" "starts" "[I", Cond.methodLink RX4 196 yX5_at, Cond.instanceMethod yX5_at, Cond.selects RX5 yX5_at yX5_at, Cond.code yX5_at cX5_at 2 (some .int), Cond.fieldLink RX5 29 "ResourceLedger$Program" "length" "I", Cond.fieldLink RX5 25 "ResourceLedger$Program" "bytes" "[B", Cond.methodLink RX4 199 yX4_pay, Cond.instanceMethod yX4_pay, Cond.selects RX4 yX4_pay yX4_pay, Cond.code yX4_pay cX4_pay 2 (some .boolean), Cond.fieldLink RX4 176 "ResourceLedger$Transaction" "limit" "I", Cond.constantLong RX4 179 (5), Cond.methodLink RX4 203 yX5_numberAt, Cond.instanceMethod yX5_numberAt]
def wsX11_execute_r11 : List Cond := [Cond.selects RX5 yX5_numberAt yX5_numberAt, Cond.code yX5_numberAt cX5_numberAt 6 (some .long), Cond.methodLink RX5 48 yX5_at, Cond.methodLink RX4 207 yX4_steer, Cond.instanceMethod yX4_steer, Cond.selects RX4 yX4_steer yX4_steer, Cond.code yX4_steer cX4_steer 3 none, Cond.methodLink RX4 181 yX4_pop, Cond.instanceMethod yX4_pop, Cond.selects RX4 yX4_pop yX4_pop, Cond.code yX4_pop cX4_pop 1 (some .int), Cond.methodLink RX4 255 yX4_giveBack, Cond.instanceMethod yX4_giveBack, Cond.selects RX4 yX4_giveBack yX4_giveBack, Cond.code yX4_giveBack cX4_giveBack 6 none, Cond.methodLink RX4 261 yX5_gives, Cond.methodLink RX4 264 yX5_localCount, Cond.instanceMethod yX5_localCount, Cond.selects RX5 yX5_localCount yX5_localCount, Cond.code yX5_localCount cX5_localCount 2 (some .int), Cond.methodLink RX4 267 yX5_localType, Cond.instanceMethod yX5_localType, Cond.selects RX5 yX5_localType yX5_localType, Cond.code yX5_localType cX5_localType 3 (some .long)]
def wsX11_execute_r12 : List Cond := [Cond.methodLink RX4 270 yX5_abilities, Cond.instanceMethod yX5_abilities, Cond.selects RX5 yX5_abilities yX5_abilities, Cond.code yX5_abilities cX5_abilities 5 (some .int), Cond.methodLink RX5 78 yX5_head, Cond.static yX5_head, Cond.code yX5_head cX5_head 3 (some .int), Cond.methodLink RX5 89 yX5_endsInStructure, Cond.static yX5_endsInStructure, Cond.code yX5_endsInStructure cX5_endsInStructure 2 (some .boolean), Cond.constantLong RX5 85 (255), Cond.constantLong RX5 87 (6), Cond.methodLink RX5 72 yX5_structureColumn, Cond.instanceMethod yX5_structureColumn, Cond.selects RX5 yX5_structureColumn yX5_structureColumn, Cond.code yX5_structureColumn cX5_structureColumn 3 (some .int), Cond.fieldLink RX5 52 "ResourceLedger$Program" "allStructures" "I", Cond.fieldLink RX5 19 "ResourceLedger$Program" "structureRows" "[I", Cond.methodLink RX4 185 yX4_push, Cond.instanceMethod yX4_push, Cond.selects RX4 yX4_push yX4_push, Cond.code yX4_push cX4_push 2 none, Cond.methodLink RX4 258 yX4_popOf, Cond.instanceMethod yX4_popOf]
def wsX11_execute_r13 : List Cond := [Cond.selects RX4 yX4_popOf yX4_popOf, Cond.code yX4_popOf cX4_popOf 3 (some .int), Cond.methodLink RX4 211 yX4_set, Cond.instanceMethod yX4_set, Cond.selects RX4 yX4_set yX4_set, Cond.code yX4_set cX4_set 4 none, Cond.fieldLink RX4 277 "ResourceLedger$Transaction" "sender" "J", Cond.methodLink RX4 274 yX4_pushNumber, Cond.instanceMethod yX4_pushNumber, Cond.selects RX4 yX4_pushNumber yX4_pushNumber, Cond.code yX4_pushNumber cX4_pushNumber 6 none, Cond.methodLink RX4 215 yX4_useLocal, Cond.instanceMethod yX4_useLocal, Cond.selects RX4 yX4_useLocal yX4_useLocal, Cond.code yX4_useLocal cX4_useLocal 4 none, Cond.methodLink RX4 280 yX4_pushCopy, Cond.instanceMethod yX4_pushCopy, Cond.selects RX4 yX4_pushCopy yX4_pushCopy, Cond.code yX4_pushCopy cX4_pushCopy 2 none, Cond.methodLink RX4 283 yX1_sizeOf, Cond.instanceMethod yX1_sizeOf, Cond.selects RX1 yX1_sizeOf yX1_sizeOf, Cond.code yX1_sizeOf cX1_sizeOf 2 (some .int), Cond.methodLink RX1 41 yX1_sizeAt]
def wsX11_execute_r14 : List Cond := [Cond.instanceMethod yX1_sizeAt, Cond.selects RX1 yX1_sizeAt yX1_sizeAt, Cond.code yX1_sizeAt cX1_sizeAt 7 (some .int), Cond.methodLink RX4 286 yX1_copyOf, Cond.instanceMethod yX1_copyOf, Cond.selects RX1 yX1_copyOf yX1_copyOf, Cond.code yX1_copyOf cX1_copyOf 2 (some .int), Cond.methodLink RX1 45 yX1_copyAt, Cond.instanceMethod yX1_copyAt, Cond.selects RX1 yX1_copyAt yX1_copyAt, Cond.code yX1_copyAt cX1_copyAt 9 (some .int), Cond.methodLink RX4 218 yX4_refer, Cond.instanceMethod yX4_refer, Cond.selects RX4 yX4_refer yX4_refer, Cond.code yX4_refer cX4_refer 5 none, Cond.methodLink RX4 289 yX4_target, Cond.instanceMethod yX4_target, Cond.selects RX4 yX4_target yX4_target, Cond.code yX4_target cX4_target 2 (some .int), Cond.methodLink RX4 292 yX1_child, Cond.instanceMethod yX1_child, Cond.selects RX1 yX1_child yX1_child, Cond.code yX1_child cX1_child 7 (some .int), Cond.methodLink RX4 296 yX1_assign]
def wsX11_execute_r15 : List Cond := [Cond.instanceMethod yX1_assign, Cond.selects RX1 yX1_assign yX1_assign, Cond.code yX1_assign cX1_assign 3 none, Cond.methodLink RX4 221 yX5_fieldCount, Cond.instanceMethod yX5_fieldCount, Cond.selects RX5 yX5_fieldCount yX5_fieldCount, Cond.code yX5_fieldCount cX5_fieldCount 2 (some .int), Cond.methodLink RX4 224 yX4_gather, Cond.instanceMethod yX4_gather, Cond.selects RX4 yX4_gather yX4_gather, Cond.code yX4_gather cX4_gather 6 none, Cond.methodLink RX4 299 yX1_prepend, Cond.methodLink RX4 227 yX4_scatter, Cond.instanceMethod yX4_scatter, Cond.selects RX4 yX4_scatter yX4_scatter, Cond.code yX4_scatter cX4_scatter 5 none, Cond.methodLink RX4 302 yX1_detach, Cond.instanceMethod yX1_detach, Cond.selects RX1 yX1_detach yX1_detach, Cond.code yX1_detach cX1_detach 3 (some .int), Cond.methodLink RX4 230 yX5_functionColumn, Cond.methodLink RX4 233 yX4_useCoin, Cond.instanceMethod yX4_useCoin, Cond.selects RX4 yX4_useCoin yX4_useCoin]
def wsX11_execute_r16 : List Cond := [Cond.code yX4_useCoin cX4_useCoin 5 none, Cond.fieldLink RX4 325 "ResourceLedger$Journal" "isThere" "[Z", Cond.fieldLink RX4 329 "ResourceLedger$Journal" "balance" "[J", Cond.methodLink RX4 318 yX4_peek, Cond.instanceMethod yX4_peek, Cond.selects RX4 yX4_peek yX4_peek, Cond.code yX4_peek cX4_peek 3 (some .int), Cond.methodLink RX4 305 yX2_ask, Cond.methodLink RX4 321 yX4_withdraw, Cond.instanceMethod yX4_withdraw, Cond.selects RX4 yX4_withdraw yX4_withdraw, Cond.code yX4_withdraw cX4_withdraw 3 none, Cond.methodLink RX4 335 yX10_below, Cond.static yX10_below, Cond.initialized RX10, Cond.code yX10_below cX10_below 4 (some .boolean), Cond.constantLong RX10 9 (-9223372036854775808), Cond.methodLink RX4 332 yX4_split, Cond.instanceMethod yX4_split, Cond.selects RX4 yX4_split yX4_split, Cond.code yX4_split cX4_split 5 none, Cond.constantLong RX4 339 (2), Cond.methodLink RX4 236 yX4_enter, Cond.instanceMethod yX4_enter]
def wsX11_execute_r17 : List Cond := [Cond.selects RX4 yX4_enter yX4_enter, Cond.code yX4_enter cX4_enter 6 none, Cond.methodLink RX4 312 arraycopyName, Cond.native arraycopyName, Cond.static arraycopyName, Cond.initialized "java/lang/System", Cond.methodLink RX4 309 yX5_takes, Cond.methodLink RX4 239 yX4_reckon, Cond.instanceMethod yX4_reckon, Cond.selects RX4 yX4_reckon yX4_reckon, Cond.code yX4_reckon cX4_reckon 4 none, Cond.fieldLink RX4 21 "ResourceLedger$Machine" "wide" "LResourceLedger$Wide;", Cond.methodLink RX4 341 yX10_set, Cond.instanceMethod yX10_set, Cond.selects RX10 yX10_set yX10_set, Cond.code yX10_set cX10_set 5 none, Cond.fieldLink RX10 17 "ResourceLedger$Wide" "high" "J", Cond.fieldLink RX10 21 "ResourceLedger$Wide" "low" "J", Cond.fieldLink RX10 24 "ResourceLedger$Wide" "beyond" "Z", Cond.methodLink RX4 344 yX4_pushWide, Cond.instanceMethod yX4_pushWide, Cond.selects RX4 yX4_pushWide yX4_pushWide, Cond.code yX4_pushWide cX4_pushWide 2 none, Cond.fieldLink RX4 359 "ResourceLedger$Wide" "high" "J"]
def wsX11_execute_r18 : List Cond := [Cond.fieldLink RX4 361 "ResourceLedger$Wide" "low" "J", Cond.methodLink RX4 357 yX10_fits, Cond.instanceMethod yX10_fits, Cond.selects RX10 yX10_fits yX10_fits, Cond.code yX10_fits cX10_fits 2 (some .boolean), Cond.methodLink RX4 347 yX4_compare, Cond.instanceMethod yX4_compare, Cond.selects RX4 yX4_compare yX4_compare, Cond.code yX4_compare cX4_compare 6 none, Cond.methodLink RX4 388 yX1_areAlike, Cond.instanceMethod yX1_areAlike, Cond.selects RX1 yX1_areAlike yX1_areAlike, Cond.code yX1_areAlike cX1_areAlike 3 (some .boolean), Cond.methodLink RX1 48 yX1_alikeAt, Cond.instanceMethod yX1_alikeAt, Cond.selects RX1 yX1_alikeAt yX1_alikeAt, Cond.code yX1_alikeAt cX1_alikeAt 8 (some .boolean), Cond.methodLink RX4 392 yX10_compare, Cond.static yX10_compare, Cond.code yX10_compare cX10_compare 8 (some .int), Cond.methodLink RX10 11 yX10_below, Cond.methodLink RX4 350 yX4_shift, Cond.instanceMethod yX4_shift, Cond.selects RX4 yX4_shift yX4_shift]
def wsX11_execute_r19 : List Cond := [Cond.code yX4_shift cX4_shift 5 none, Cond.methodLink RX4 376 yX10_bitsOf, Cond.static yX10_bitsOf, Cond.code yX10_bitsOf cX10_bitsOf 1 (some .int), Cond.methodLink RX4 379 yX10_shiftUp, Cond.instanceMethod yX10_shiftUp, Cond.selects RX10 yX10_shiftUp yX10_shiftUp, Cond.code yX10_shiftUp cX10_shiftUp 2 none, Cond.methodLink RX4 382 yX10_cut, Cond.instanceMethod yX10_cut, Cond.selects RX10 yX10_cut yX10_cut, Cond.code yX10_cut cX10_cut 2 none, Cond.constantLong RX10 44 (255), Cond.methodLink RX4 385 yX10_shiftDown, Cond.instanceMethod yX10_shiftDown, Cond.selects RX10 yX10_shiftDown yX10_shiftDown, Cond.code yX10_shiftDown cX10_shiftDown 2 none, Cond.methodLink RX4 354 yX4_combine, Cond.instanceMethod yX4_combine, Cond.selects RX4 yX4_combine yX4_combine, Cond.code yX4_combine cX4_combine 6 none, Cond.methodLink RX4 363 yX10_add, Cond.instanceMethod yX10_add, Cond.selects RX10 yX10_add yX10_add]
def wsX11_execute_r20 : List Cond := [Cond.code yX10_add cX10_add 13 none, Cond.methodLink RX4 366 yX10_subtract, Cond.instanceMethod yX10_subtract, Cond.selects RX10 yX10_subtract yX10_subtract, Cond.code yX10_subtract cX10_subtract 5 none, Cond.methodLink RX10 28 yX10_compare, Cond.methodLink RX4 369 yX10_multiply, Cond.instanceMethod yX10_multiply, Cond.selects RX10 yX10_multiply yX10_multiply, Cond.code yX10_multiply cX10_multiply 14 none, Cond.methodLink RX10 32 yX10_upperProduct, Cond.static yX10_upperProduct, Cond.code yX10_upperProduct cX10_upperProduct 18 (some .long), Cond.constantLong RX10 36 (4294967295), Cond.methodLink RX4 372 yX10_divide, Cond.instanceMethod yX10_divide, Cond.selects RX10 yX10_divide yX10_divide, Cond.code yX10_divide cX10_divide 8 none, Cond.fieldLink RX10 38 "ResourceLedger$Wide" "restHigh" "J", Cond.fieldLink RX10 41 "ResourceLedger$Wide" "restLow" "J", Cond.methodLink RX4 245 yX4_keep, Cond.instanceMethod yX4_keep, Cond.selects RX4 yX4_keep yX4_keep, Cond.code yX4_keep cX4_keep 8 none]
def wsX11_execute_r21 : List Cond := [Cond.constantLong RX4 395 (3), Cond.fieldLink RX4 397 "ResourceLedger$Journal" "node" "[I", Cond.methodLink RX4 249 yX4_hash, Cond.instanceMethod yX4_hash, Cond.selects RX4 yX4_hash yX4_hash, Cond.code yX4_hash cX4_hash 8 none, Cond.constantLong RX4 412 (256), Cond.methodLink RX4 417 Lib.MathLoose.min_long.x, Cond.static Lib.MathLoose.min_long.x, Cond.code Lib.MathLoose.min_long.x Lib.MathLoose.min_long.code 4 (some .long), Cond.fieldLink RX4 32 "ResourceLedger$Machine" "row" "[B", Cond.fieldLink RX4 420 "ResourceLedger$Heap" "next" "[I", Cond.fieldLink RX4 28 "ResourceLedger$Machine" "digest" "LResourceLedger$Digest;", Cond.constantLong RX4 436 (255), Cond.methodLink RX4 423 yX0_start, Cond.instanceMethod yX0_start, Cond.selects RX0 yX0_start yX0_start, Cond.initialized RX0, Cond.code yX0_start cX0_start 1 none, Cond.fieldLink RX0 16 "ResourceLedger$Digest" "FIRST" "[I", Cond.fieldLink RX0 7 "ResourceLedger$Digest" "words" "[I", Cond.methodLink RX0 19 arraycopyName, Cond.fieldLink RX0 25 "ResourceLedger$Digest" "filled" "I", Cond.fieldLink RX0 29 "ResourceLedger$Digest" "total" "J"]
def wsX11_execute_r22 : List Cond := [Cond.methodLink RX4 426 yX0_put, Cond.instanceMethod yX0_put, Cond.selects RX0 yX0_put yX0_put, Cond.code yX0_put cX0_put 3 none, Cond.fieldLink RX0 13 "ResourceLedger$Digest" "w" "[I", Cond.methodLink RX0 33 yX0_mix, Cond.instanceMethod yX0_mix, Cond.selects RX0 yX0_mix yX0_mix, Cond.code yX0_mix cX0_mix 12 none, Cond.fieldLink RX0 52 "ResourceLedger$Digest" "K" "[I", Cond.methodLink RX4 429 yX0_finish, Cond.instanceMethod yX0_finish, Cond.selects RX0 yX0_finish yX0_finish, Cond.code yX0_finish cX0_finish 4 none, Cond.constantLong RX0 44 (8), Cond.methodLink RX0 36 yX0_put, Cond.methodLink RX4 432 yX0_part, Cond.instanceMethod yX0_part, Cond.selects RX0 yX0_part yX0_part, Cond.code yX0_part cX0_part 2 (some .long), Cond.constantLong RX0 46 (4294967295), Cond.methodLink RX4 252 yX4_lineUp, Cond.instanceMethod yX4_lineUp, Cond.selects RX4 yX4_lineUp yX4_lineUp]
def wsX11_execute_r23 : List Cond := [Cond.code yX4_lineUp cX4_lineUp 8 none, Cond.methodLink RX4 400 yX4_append, Cond.instanceMethod yX4_append, Cond.selects RX4 yX4_append yX4_append, Cond.code yX4_append cX4_append 4 none, Cond.methodLink RX4 403 yX4_removeLast, Cond.instanceMethod yX4_removeLast, Cond.selects RX4 yX4_removeLast yX4_removeLast, Cond.code yX4_removeLast cX4_removeLast 4 none, Cond.methodLink RX4 406 yX4_exchange, Cond.instanceMethod yX4_exchange, Cond.selects RX4 yX4_exchange yX4_exchange, Cond.code yX4_exchange cX4_exchange 8 none, Cond.methodLink RX4 414 yX1_swap, Cond.instanceMethod yX1_swap, Cond.selects RX1 yX1_swap yX1_swap, Cond.code yX1_swap cX1_swap 8 none, Cond.methodLink RX1 37 yX1_assign, Cond.methodLink RX4 409 yX4_borrowElement, Cond.instanceMethod yX4_borrowElement, Cond.selects RX4 yX4_borrowElement yX4_borrowElement, Cond.code yX4_borrowElement cX4_borrowElement 7 none, Cond.methodLink RX4 147 yX2_fits, Cond.instanceMethod yX2_fits]
def wsX11_execute_r24 : List Cond := [Cond.selects RX2 yX2_fits yX2_fits, Cond.code yX2_fits cX2_fits 3 (some .boolean), Cond.methodLink RX2 79 yX7_placeCount, Cond.instanceMethod yX7_placeCount, Cond.selects RX7 yX7_placeCount yX7_placeCount, Cond.code yX7_placeCount cX7_placeCount 1 (some .int), Cond.fieldLink RX7 58 "ResourceLedger$State" "resourceCount" "I", Cond.methodLink RX2 83 yX1_sizeOf, Cond.methodLink RX4 166 yX8_addResult, Cond.instanceMethod yX8_addResult, Cond.selects RX8 yX8_addResult yX8_addResult, Cond.code yX8_addResult cX8_addResult 6 none, Cond.fieldLink RX8 49 "ResourceLedger$Transaction" "resultCount" "I", Cond.fieldLink RX8 22 "ResourceLedger$Transaction" "resultType" "[I", Cond.fieldLink RX8 25 "ResourceLedger$Transaction" "resultHigh" "[J", Cond.fieldLink RX8 28 "ResourceLedger$Transaction" "resultLow" "[J", Cond.methodLink RX4 170 yX2_commit, Cond.instanceMethod yX2_commit, Cond.selects RX2 yX2_commit yX2_commit, Cond.code yX2_commit cX2_commit 3 none, Cond.methodLink RX2 87 yX7_removeResource, Cond.instanceMethod yX7_removeResource, Cond.selects RX7 yX7_removeResource yX7_removeResource, Cond.code yX7_removeResource cX7_removeResource 6 none]
def wsX11_execute_r25 : List Cond := [Cond.methodLink RX7 89 yX7_findResource, Cond.methodLink RX2 91 yX7_openAccount, Cond.instanceMethod yX7_openAccount, Cond.selects RX7 yX7_openAccount yX7_openAccount, Cond.code yX7_openAccount cX7_openAccount 4 (some .int), Cond.methodLink RX7 61 Lib.Math.min.name, Cond.methodLink RX2 94 yX2_storeResource, Cond.instanceMethod yX2_storeResource, Cond.selects RX2 yX2_storeResource yX2_storeResource, Cond.code yX2_storeResource cX2_storeResource 3 none, Cond.fieldLink RX2 101 "ResourceLedger$State" "nodeCount" "[I", Cond.methodLink RX2 98 yX7_slotFor, Cond.instanceMethod yX7_slotFor, Cond.selects RX7 yX7_slotFor yX7_slotFor, Cond.code yX7_slotFor cX7_slotFor 6 (some .int), Cond.methodLink RX7 93 yX7_freeSlot, Cond.instanceMethod yX7_freeSlot, Cond.selects RX7 yX7_freeSlot yX7_freeSlot, Cond.code yX7_freeSlot cX7_freeSlot 2 (some .int), Cond.methodLink RX2 104 yX1_store, Cond.instanceMethod yX1_store, Cond.selects RX1 yX1_store yX1_store, Cond.code yX1_store cX1_store 4 (some .int), Cond.methodLink RX1 56 yX1_storeNode]
def wsX11_execute_r26 : List Cond := [Cond.instanceMethod yX1_storeNode, Cond.selects RX1 yX1_storeNode yX1_storeNode, Cond.code yX1_storeNode cX1_storeNode 8 (some .int), Cond.methodLink RX1 71 yX1_child, Cond.methodLink RX4 173 yX8_end, Cond.methodLink RX11 168 yX11_takeModule, Cond.instanceMethod yX11_takeModule, Cond.selects RX11 yX11_takeModule yX11_takeModule, Cond.code yX11_takeModule cX11_takeModule 5 none, Cond.fieldLink RX11 127 "ResourceLedger$Transaction" "bytes" "[B", Cond.constantLong RX11 207 (5), Cond.fieldLink RX11 209 "ResourceLedger$State" "moduleCount" "I", Cond.constantLong RX11 212 (4), Cond.fieldLink RX11 60 "ResourceLedger$State" "programs" "[LResourceLedger$Program;", Cond.fieldLink RX11 29 "ResourceLedger" "reader" "LResourceLedger$Reader;", Cond.fieldLink RX11 214 "ResourceLedger$Reader" "place" "I", Cond.fieldLink RX11 217 "ResourceLedger$Transaction" "place" "I", Cond.fieldLink RX11 36 "ResourceLedger" "looker" "LResourceLedger$Looker;", Cond.fieldLink RX11 225 "ResourceLedger$Looker" "place" "I", Cond.methodLink RX11 69 yX5_lay, Cond.instanceMethod yX5_lay, Cond.selects RX5 yX5_lay yX5_lay, Cond.code yX5_lay cX5_lay 2 none, Cond.methodLink RX5 33 yX5_clear]
def wsX11_execute_r27 : List Cond := [Cond.instanceMethod yX5_clear, Cond.selects RX5 yX5_clear yX5_clear, Cond.code yX5_clear cX5_clear 1 none, Cond.fieldLink RX5 36 "ResourceLedger$Program" "number" "I", Cond.methodLink RX11 73 yX6_read, Cond.instanceMethod yX6_read, Cond.selects RX6 yX6_read yX6_read, Cond.initialized RX6, Cond.code yX6_read cX6_read 3 (some .int), Cond.fieldLink RX6 17 "ResourceLedger$Reader" "p" "LResourceLedger$Program;", Cond.fieldLink RX6 21 "ResourceLedger$Reader" "fault" "I", Cond.fieldLink RX6 25 "ResourceLedger$Reader" "place" "I", Cond.fieldLink RX6 28 "ResourceLedger$Reader" "judging" "Z", Cond.fieldLink RX6 32 "ResourceLedger$Reader" "at" "I", Cond.fieldLink RX6 35 "ResourceLedger$Reader" "told" "I", Cond.fieldLink RX6 53 "ResourceLedger$Program" "typeCount" "I", Cond.fieldLink RX6 56 "ResourceLedger$Program" "firstElement" "I", Cond.fieldLink RX6 63 "ResourceLedger$Program" "elementCount" "I", Cond.fieldLink RX6 73 "ResourceLedger$Program" "length" "I", Cond.methodLink RX6 38 yX5_clear, Cond.methodLink RX6 41 yX6_readBeginning, Cond.instanceMethod yX6_readBeginning, Cond.selects RX6 yX6_readBeginning yX6_readBeginning, Cond.code yX6_readBeginning cX6_readBeginning 3 none]
def wsX11_execute_r28 : List Cond := [Cond.fieldLink RX6 91 "ResourceLedger$Program" "COIN_BYTES" "[B", Cond.fieldLink RX6 97 "ResourceLedger$Program" "number" "I", Cond.methodLink RX6 87 yX6_readByte, Cond.instanceMethod yX6_readByte, Cond.selects RX6 yX6_readByte yX6_readByte, Cond.code yX6_readByte cX6_readByte 1 (some .int), Cond.fieldLink RX6 83 "ResourceLedger$Program" "bytes" "[B", Cond.methodLink RX6 76 yX6_fail, Cond.instanceMethod yX6_fail, Cond.selects RX6 yX6_fail yX6_fail, Cond.code yX6_fail cX6_fail 3 none, Cond.methodLink RX6 94 yX6_readShort, Cond.instanceMethod yX6_readShort, Cond.selects RX6 yX6_readShort yX6_readShort, Cond.code yX6_readShort cX6_readShort 2 (some .int), Cond.methodLink RX6 44 yX6_readStructures, Cond.instanceMethod yX6_readStructures, Cond.selects RX6 yX6_readStructures yX6_readStructures, Cond.code yX6_readStructures cX6_readStructures 3 none, Cond.fieldLink RX6 100 "ResourceLedger$Program" "ownStructures" "I", Cond.fieldLink RX6 103 "ResourceLedger$Program" "allStructures" "I", Cond.methodLink RX6 59 yX6_readNumber, Cond.instanceMethod yX6_readNumber, Cond.selects RX6 yX6_readNumber yX6_readNumber]
def wsX11_execute_r29 : List Cond := [Cond.code yX6_readNumber cX6_readNumber 5 (some .int), Cond.methodLink RX6 106 yX5_setStructure, Cond.instanceMethod yX5_setStructure, Cond.selects RX5 yX5_setStructure yX5_setStructure, Cond.code yX5_setStructure cX5_setStructure 4 none, Cond.methodLink RX6 66 yX6_readTypes, Cond.instanceMethod yX6_readTypes, Cond.selects RX6 yX6_readTypes yX6_readTypes, Cond.code yX6_readTypes cX6_readTypes 4 none, Cond.methodLink RX6 135 yX6_readOneType, Cond.instanceMethod yX6_readOneType, Cond.selects RX6 yX6_readOneType yX6_readOneType, Cond.code yX6_readOneType cX6_readOneType 7 (some .long), Cond.methodLink RX6 139 yX5_addType, Cond.instanceMethod yX5_addType, Cond.selects RX5 yX5_addType yX5_addType, Cond.code yX5_addType cX5_addType 3 none, Cond.methodLink RX6 47 yX6_readForeignStructures, Cond.instanceMethod yX6_readForeignStructures, Cond.selects RX6 yX6_readForeignStructures yX6_readForeignStructures, Cond.code yX6_readForeignStructures cX6_readForeignStructures 3 none, Cond.methodLink RX6 50 yX6_readForeignFunctions, Cond.instanceMethod yX6_readForeignFunctions, Cond.selects RX6 yX6_readForeignFunctions yX6_readForeignFunctions]
def wsX11_execute_r30 : List Cond := [Cond.code yX6_readForeignFunctions cX6_readForeignFunctions 3 none, Cond.fieldLink RX6 110 "ResourceLedger$Program" "foreignFunctions" "I", Cond.methodLink RX6 113 yX5_setFunction, Cond.instanceMethod yX5_setFunction, Cond.selects RX5 yX5_setFunction yX5_setFunction, Cond.code yX5_setFunction cX5_setFunction 4 none, Cond.methodLink RX6 116 yX6_readList, Cond.instanceMethod yX6_readList, Cond.selects RX6 yX6_readList yX6_readList, Cond.code yX6_readList cX6_readList 3 (some .int), Cond.methodLink RX6 70 yX6_readFunctions, Cond.instanceMethod yX6_readFunctions, Cond.selects RX6 yX6_readFunctions yX6_readFunctions, Cond.code yX6_readFunctions cX6_readFunctions 7 none, Cond.fieldLink RX6 120 "ResourceLedger$Program" "ownFunctions" "I", Cond.fieldLink RX6 123 "ResourceLedger$Reader" "locals" "I", Cond.fieldLink RX6 126 "ResourceLedger$Reader" "instructions" "I", Cond.fieldLink RX6 129 "ResourceLedger$Program" "startCount" "I", Cond.methodLink RX6 132 yX6_readInstruction, Cond.instanceMethod yX6_readInstruction, Cond.selects RX6 yX6_readInstruction yX6_readInstruction, Cond.code yX6_readInstruction cX6_readInstruction 4 none, Cond.methodLink RX6 146 yX5_addStart, Cond.instanceMethod yX5_addStart]
def wsX11_execute_r31 : List Cond := [Cond.selects RX5 yX5_addStart yX5_addStart, Cond.code yX5_addStart cX5_addStart 2 none, Cond.methodLink RX6 150 yX6_pass, Cond.instanceMethod yX6_pass, Cond.selects RX6 yX6_pass yX6_pass, Cond.code yX6_pass cX6_pass 3 none, Cond.methodLink RX6 143 yX6_readJudged, Cond.instanceMethod yX6_readJudged, Cond.selects RX6 yX6_readJudged yX6_readJudged, Cond.code yX6_readJudged cX6_readJudged 5 (some .int), Cond.methodLink RX6 153 yX6_readOwnStructure, Cond.instanceMethod yX6_readOwnStructure, Cond.selects RX6 yX6_readOwnStructure yX6_readOwnStructure, Cond.code yX6_readOwnStructure cX6_readOwnStructure 3 (some .int), Cond.methodLink RX6 156 yX5_fieldCount, Cond.methodLink RX6 80 yX6_findRound, Cond.instanceMethod yX6_findRound, Cond.selects RX6 yX6_findRound yX6_findRound, Cond.code yX6_findRound cX6_findRound 7 none, Cond.fieldLink RX6 11 "ResourceLedger$Reader" "holds" "[I", Cond.methodLink RX6 159 yX5_fieldType, Cond.instanceMethod yX5_fieldType, Cond.selects RX5 yX5_fieldType yX5_fieldType, Cond.code yX5_fieldType cX5_fieldType 3 (some .long)]
def wsX11_execute_r32 : List Cond := [Cond.methodLink RX6 163 yX5_endsInStructure, Cond.methodLink RX6 167 yX5_structureColumn, Cond.methodLink RX11 218 yX11_misfitOf, Cond.instanceMethod yX11_misfitOf, Cond.selects RX11 yX11_misfitOf yX11_misfitOf, Cond.code yX11_misfitOf cX11_misfitOf 3 (some .int), Cond.fieldLink RX11 226 "ResourceLedger$Program" "number" "I", Cond.methodLink RX11 229 yX5_strangeStructure, Cond.instanceMethod yX5_strangeStructure, Cond.selects RX5 yX5_strangeStructure yX5_strangeStructure, Cond.code yX5_strangeStructure cX5_strangeStructure 5 (some .int), Cond.fieldLink RX5 99 "ResourceLedger$Program" "ownStructures" "I", Cond.methodLink RX5 102 yX7_findProgram, Cond.methodLink RX11 233 yX5_strangeFunction, Cond.instanceMethod yX5_strangeFunction, Cond.selects RX5 yX5_strangeFunction yX5_strangeFunction, Cond.code yX5_strangeFunction cX5_strangeFunction 6 (some .int), Cond.methodLink RX5 108 yX5_flags, Cond.methodLink RX5 111 yX5_sameLists, Cond.instanceMethod yX5_sameLists, Cond.selects RX5 yX5_sameLists yX5_sameLists, Cond.code yX5_sameLists cX5_sameLists 5 (some .boolean), Cond.methodLink RX5 115 yX5_takenType, Cond.methodLink RX5 118 yX5_sameType]
def wsX11_execute_r33 : List Cond := [Cond.instanceMethod yX5_sameType, Cond.selects RX5 yX5_sameType yX5_sameType, Cond.code yX5_sameType cX5_sameType 8 (some .boolean), Cond.methodLink RX11 236 yX5_weakStructure, Cond.instanceMethod yX5_weakStructure, Cond.selects RX5 yX5_weakStructure yX5_weakStructure, Cond.code yX5_weakStructure cX5_weakStructure 5 (some .int), Cond.methodLink RX5 122 yX5_fieldCount, Cond.methodLink RX5 125 yX5_fieldType, Cond.methodLink RX5 128 yX5_abilities, Cond.methodLink RX11 77 yX5_measure, Cond.instanceMethod yX5_measure, Cond.selects RX5 yX5_measure yX5_measure, Cond.code yX5_measure cX5_measure 6 none, Cond.methodLink RX5 138 Lib.Math.max.name, Cond.static Lib.Math.max.name, Cond.code Lib.Math.max.name Lib.Math.max.code 2 (some .int), Cond.methodLink RX5 131 yX5_setStructure, Cond.methodLink RX5 135 yX5_depthOf, Cond.instanceMethod yX5_depthOf, Cond.selects RX5 yX5_depthOf yX5_depthOf, Cond.code yX5_depthOf cX5_depthOf 5 (some .int), Cond.constantLong RX5 143 (7), Cond.methodLink RX5 82 yX5_headShift]
def wsX11_execute_r34 : List Cond := [Cond.static yX5_headShift, Cond.code yX5_headShift cX5_headShift 3 (some .int), Cond.methodLink RX11 239 yX5_deepStructure, Cond.instanceMethod yX5_deepStructure, Cond.selects RX5 yX5_deepStructure yX5_deepStructure, Cond.code yX5_deepStructure cX5_deepStructure 2 (some .int), Cond.methodLink RX11 222 yX3_look, Cond.instanceMethod yX3_look, Cond.selects RX3 yX3_look yX3_look, Cond.initialized RX3, Cond.code yX3_look cX3_look 3 (some .int), Cond.fieldLink RX3 44 "ResourceLedger$Looker" "p" "LResourceLedger$Program;", Cond.fieldLink RX3 48 "ResourceLedger$Looker" "fault" "I", Cond.fieldLink RX3 52 "ResourceLedger$Looker" "place" "I", Cond.fieldLink RX3 55 "ResourceLedger$Program" "ownFunctions" "I", Cond.fieldLink RX3 64 "ResourceLedger$Looker" "at" "I", Cond.methodLink RX3 60 yX3_prepare, Cond.instanceMethod yX3_prepare, Cond.selects RX3 yX3_prepare yX3_prepare, Cond.code yX3_prepare cX3_prepare 6 none, Cond.fieldLink RX3 77 "ResourceLedger$Looker" "function" "I", Cond.methodLink RX3 80 Lib.Math.min.name, Cond.fieldLink RX3 28 "ResourceLedger$Looker" "target" "[Z", Cond.fieldLink RX3 31 "ResourceLedger$Looker" "reached" "[Z"]
def wsX11_execute_r35 : List Cond := [Cond.fieldLink RX3 95 "ResourceLedger$Looker" "depth" "I", Cond.fieldLink RX3 98 "ResourceLedger$Looker" "inside" "J", Cond.fieldLink RX3 105 "ResourceLedger$Looker" "there" "J", Cond.fieldLink RX3 108 "ResourceLedger$Looker" "droppable" "J", Cond.fieldLink RX3 22 "ResourceLedger$Looker" "localType" "[J", Cond.fieldLink RX3 25 "ResourceLedger$Looker" "localOrigins" "[J", Cond.fieldLink RX3 124 "ResourceLedger$Looker" "flowing" "Z", Cond.methodLink RX3 67 yX5_instructions, Cond.methodLink RX3 86 yX5_instructionPlace, Cond.methodLink RX3 89 yX5_numberAt, Cond.methodLink RX3 93 yX5_at, Cond.methodLink RX3 102 yX5_takes, Cond.methodLink RX3 111 yX5_localCount, Cond.methodLink RX3 114 yX5_localType, Cond.methodLink RX3 116 yX5_isReference, Cond.static yX5_isReference, Cond.code yX5_isReference cX5_isReference 2 (some .boolean), Cond.methodLink RX3 120 yX5_abilities, Cond.methodLink RX3 128 yX3_join, Cond.instanceMethod yX3_join, Cond.selects RX3 yX3_join yX3_join, Cond.code yX3_join cX3_join 5 none, Cond.fieldLink RX3 34 "ResourceLedger$Looker" "keptThere" "[J", Cond.fieldLink RX3 37 "ResourceLedger$Looker" "keptInside" "[J"]
def wsX11_execute_r36 : List Cond := [Cond.fieldLink RX3 41 "ResourceLedger$Looker" "keptOrigins" "[J", Cond.methodLink RX3 134 arraycopyName, Cond.constantLong RX3 185 (-1), Cond.methodLink RX3 131 yX3_fail, Cond.instanceMethod yX3_fail, Cond.selects RX3 yX3_fail yX3_fail, Cond.code yX3_fail cX3_fail 2 none, Cond.methodLink RX3 71 yX3_arrive, Cond.instanceMethod yX3_arrive, Cond.selects RX3 yX3_arrive yX3_arrive, Cond.code yX3_arrive cX3_arrive 1 none, Cond.methodLink RX3 74 yX3_operate, Cond.instanceMethod yX3_operate, Cond.selects RX3 yX3_operate yX3_operate, Cond.code yX3_operate cX3_operate 5 none, Cond.methodLink RX3 140 yX3_giveBack, Cond.instanceMethod yX3_giveBack, Cond.selects RX3 yX3_giveBack yX3_giveBack, Cond.code yX3_giveBack cX3_giveBack 4 none, Cond.fieldLink RX3 11 "ResourceLedger$Looker" "stackType" "[J", Cond.fieldLink RX3 15 "ResourceLedger$Looker" "stackOrigins" "[J", Cond.constantLong RX3 231 (-280375465082881), Cond.methodLink RX3 225 yX5_gives, Cond.methodLink RX3 228 yX5_givenType]
def wsX11_execute_r37 : List Cond := [Cond.methodLink RX3 143 yX3_steer, Cond.instanceMethod yX3_steer, Cond.selects RX3 yX3_steer yX3_steer, Cond.code yX3_steer cX3_steer 2 none, Cond.constantLong RX3 219 (3), Cond.methodLink RX3 200 yX3_take, Cond.instanceMethod yX3_take, Cond.selects RX3 yX3_take yX3_take, Cond.code yX3_take cX3_take 1 (some .long), Cond.fieldLink RX3 194 "ResourceLedger$Looker" "takenOrigins" "J", Cond.fieldLink RX3 18 "ResourceLedger$Looker" "stackInside" "[Z", Cond.fieldLink RX3 197 "ResourceLedger$Looker" "takenInside" "Z", Cond.methodLink RX3 215 yX3_has, Cond.instanceMethod yX3_has, Cond.selects RX3 yX3_has yX3_has, Cond.code yX3_has cX3_has 4 (some .boolean), Cond.methodLink RX3 221 yX3_takeOnly, Cond.instanceMethod yX3_takeOnly, Cond.selects RX3 yX3_takeOnly yX3_takeOnly, Cond.code yX3_takeOnly cX3_takeOnly 3 none, Cond.methodLink RX3 146 yX3_set, Cond.instanceMethod yX3_set, Cond.selects RX3 yX3_set yX3_set, Cond.code yX3_set cX3_set 2 none]
def wsX11_execute_r38 : List Cond := [Cond.constantLong RX3 190 (2), Cond.constantLong RX3 192 (4), Cond.constantLong RX3 236 (5), Cond.methodLink RX3 233 yX3_put, Cond.instanceMethod yX3_put, Cond.selects RX3 yX3_put yX3_put, Cond.code yX3_put cX3_put 3 none, Cond.methodLink RX3 211 yX3_putReference, Cond.instanceMethod yX3_putReference, Cond.selects RX3 yX3_putReference yX3_putReference, Cond.code yX3_putReference cX3_putReference 6 none, Cond.methodLink RX3 149 yX3_useLocal, Cond.instanceMethod yX3_useLocal, Cond.selects RX3 yX3_useLocal yX3_useLocal, Cond.code yX3_useLocal cX3_useLocal 6 none, Cond.methodLink RX3 238 yX3_isThere, Cond.instanceMethod yX3_isThere, Cond.selects RX3 yX3_isThere yX3_isThere, Cond.code yX3_isThere cX3_isThere 2 (some .boolean), Cond.methodLink RX3 242 yX3_isLive, Cond.instanceMethod yX3_isLive, Cond.selects RX3 yX3_isLive yX3_isLive, Cond.code yX3_isLive cX3_isLive 5 (some .boolean), Cond.methodLink RX3 204 yX3_writes]
def wsX11_execute_r39 : List Cond := [Cond.static yX3_writes, Cond.code yX3_writes cX3_writes 2 (some .boolean), Cond.methodLink RX3 187 yX5_head, Cond.methodLink RX3 246 yX3_setLocal, Cond.instanceMethod yX3_setLocal, Cond.selects RX3 yX3_setLocal yX3_setLocal, Cond.code yX3_setLocal cX3_setLocal 5 none, Cond.methodLink RX3 153 yX3_borrowLocal, Cond.instanceMethod yX3_borrowLocal, Cond.selects RX3 yX3_borrowLocal yX3_borrowLocal, Cond.code yX3_borrowLocal cX3_borrowLocal 5 none, Cond.methodLink RX3 250 yX5_prefixed, Cond.static yX5_prefixed, Cond.code yX5_prefixed cX5_prefixed 4 (some .long), Cond.methodLink RX3 157 yX3_refer, Cond.instanceMethod yX3_refer, Cond.selects RX3 yX3_refer yX3_refer, Cond.code yX3_refer cX3_refer 8 none, Cond.methodLink RX3 254 yX5_structureType, Cond.static yX5_structureType, Cond.code yX5_structureType cX5_structureType 1 (some .long), Cond.methodLink RX3 258 yX3_takeReferenceTo, Cond.instanceMethod yX3_takeReferenceTo, Cond.selects RX3 yX3_takeReferenceTo yX3_takeReferenceTo]
def wsX11_execute_r40 : List Cond := [Cond.code yX3_takeReferenceTo cX3_takeReferenceTo 6 none, Cond.methodLink RX3 207 yX5_pointee, Cond.static yX5_pointee, Cond.code yX5_pointee cX5_pointee 2 (some .long), Cond.methodLink RX3 262 yX5_fieldType, Cond.methodLink RX3 265 yX3_takeReference, Cond.instanceMethod yX3_takeReference, Cond.selects RX3 yX3_takeReference yX3_takeReference, Cond.code yX3_takeReference cX3_takeReference 4 (some .long), Cond.methodLink RX3 269 yX3_isSole, Cond.instanceMethod yX3_isSole, Cond.selects RX3 yX3_isSole yX3_isSole, Cond.code yX3_isSole cX3_isSole 4 (some .boolean), Cond.methodLink RX3 161 yX3_pack, Cond.instanceMethod yX3_pack, Cond.selects RX3 yX3_pack yX3_pack, Cond.code yX3_pack cX3_pack 5 none, Cond.methodLink RX3 272 yX5_fieldCount, Cond.methodLink RX3 164 yX3_enter, Cond.instanceMethod yX3_enter, Cond.selects RX3 yX3_enter yX3_enter, Cond.code yX3_enter cX3_enter 12 none, Cond.constantLong RX3 285 (-281474976710656), Cond.methodLink RX3 275 yX5_takenType]
def wsX11_execute_r41 : List Cond := [Cond.methodLink RX3 278 yX5_flags, Cond.methodLink RX3 281 yX3_meetsOther, Cond.instanceMethod yX3_meetsOther, Cond.selects RX3 yX3_meetsOther yX3_meetsOther, Cond.code yX3_meetsOther cX3_meetsOther 4 (some .boolean), Cond.methodLink RX3 167 yX3_reckon, Cond.instanceMethod yX3_reckon, Cond.selects RX3 yX3_reckon yX3_reckon, Cond.code yX3_reckon cX3_reckon 5 none, Cond.methodLink RX3 287 yX3_isNumber, Cond.static yX3_isNumber, Cond.code yX3_isNumber cX3_isNumber 2 (some .boolean), Cond.methodLink RX3 170 yX3_keep, Cond.instanceMethod yX3_keep, Cond.selects RX3 yX3_keep yX3_keep, Cond.code yX3_keep cX3_keep 7 none, Cond.methodLink RX3 173 yX3_lineUp, Cond.instanceMethod yX3_lineUp, Cond.selects RX3 yX3_lineUp yX3_lineUp, Cond.code yX3_lineUp cX3_lineUp 9 none, Cond.methodLink RX3 290 yX5_elementType, Cond.instanceMethod yX5_elementType, Cond.selects RX5 yX5_elementType yX5_elementType, Cond.code yX5_elementType cX5_elementType 2 (some .long)]
def wsX11_execute_r42 : List Cond := [Cond.fieldLink RX5 75 "ResourceLedger$Program" "firstElement" "I", Cond.methodLink RX3 176 yX3_leave, Cond.instanceMethod yX3_leave, Cond.selects RX3 yX3_leave yX3_leave, Cond.code yX3_leave cX3_leave 3 none, Cond.methodLink RX3 179 yX3_come, Cond.instanceMethod yX3_come, Cond.selects RX3 yX3_come yX3_come, Cond.code yX3_come cX3_come 2 none, Cond.methodLink RX3 182 yX3_comeBack, Cond.instanceMethod yX3_comeBack, Cond.selects RX3 yX3_comeBack yX3_comeBack, Cond.code yX3_comeBack cX3_comeBack 5 none, Cond.methodLink RX11 97 yX7_placeCount, Cond.methodLink RX11 171 yX7_settle, Cond.instanceMethod yX7_settle, Cond.selects RX7 yX7_settle yX7_settle, Cond.code yX7_settle cX7_settle 3 none, Cond.fieldLink RX7 80 "ResourceLedger$Transaction" "gas" "I", Cond.fieldLink RX7 83 "ResourceLedger$State" "burned" "J"]
def wsX11_execute : List Cond := .code yX11_execute cX11_execute 5 (some .int) :: ((wsX11_execute_r1 ++ (wsX11_execute_r2 ++ (wsX11_execute_r3 ++ (wsX11_execute_r4 ++ (wsX11_execute_r5 ++ (wsX11_execute_r6 ++ (wsX11_execute_r7 ++ (wsX11_execute_r8 ++ (wsX11_execute_r9 ++ (wsX11_execute_r10 ++ (wsX11_execute_r11 ++ (wsX11_execute_r12 ++ (wsX11_execute_r13 ++ (wsX11_execute_r14 ++ (wsX11_execute_r15 ++ (wsX11_execute_r16 ++ (wsX11_execute_r17 ++ (wsX11_execute_r18 ++ (wsX11_execute_r19 ++ (wsX11_execute_r20 ++ (wsX11_execute_r21 ++ (wsX11_execute_r22 ++ (wsX11_execute_r23 ++ (wsX11_execute_r24 ++ (wsX11_execute_r25 ++ (wsX11_execute_r26 ++ (wsX11_execute_r27 ++ (wsX11_execute_r28 ++ (wsX11_execute_r29 ++ (wsX11_execute_r30 ++ (wsX11_execute_r31 ++ (wsX11_execute_r32 ++ (wsX11_execute_r33 ++ (wsX11_execute_r34 ++ (wsX11_execute_r35 ++ (wsX11_execute_r36 ++ (wsX11_execute_r37 ++ (wsX11_execute_r38 ++ (wsX11_execute_r39 ++ (wsX11_execute_r40 ++ (wsX11_execute_r41 ++ wsX11_execute_r42))))))))))))))))))))))))))))))))))))))))) ++ wsX110 ++ wsX80 ++ wsX90 ++ wsX70 ++ wsX50 ++ wsX40 ++ wsX10 ++ wsX20 ++ wsX100 ++ wsX00 ++ wsX60 ++ wsX30)
def wsX11_told : List Cond := .code yX11_told cX11_told 3 (some .int) :: ([.fieldLink RX11 112 "ResourceLedger" "blockLength" "I", .fieldLink RX11 115 "ResourceLedger" "doneLength" "I", .fieldLink RX11 15 "ResourceLedger" "block" "[LResourceLedger$Transaction;", .fieldLink RX11 174 "ResourceLedger$Transaction" "outcome" "I", .fieldLink RX11 242 "ResourceLedger$Transaction" "gas" "I", .fieldLink RX11 245 "ResourceLedger$Transaction" "resultCount" "I", .fieldLink RX11 217 "ResourceLedger$Transaction" "place" "I"] ++ wsX110 ++ wsX80)
def wsX11_code : List Cond := .code yX11_code cX11_code 2 (some .long) :: ([.fieldLink RX11 115 "ResourceLedger" "doneLength" "I", .fieldLink RX11 15 "ResourceLedger" "block" "[LResourceLedger$Transaction;", .fieldLink RX11 248 "ResourceLedger$Transaction" "code" "J"] ++ wsX110 ++ wsX80)
def wsX11_result : List Cond := .code yX11_result cX11_result 4 (some .long) :: ([.fieldLink RX11 115 "ResourceLedger" "doneLength" "I", .fieldLink RX11 15 "ResourceLedger" "block" "[LResourceLedger$Transaction;", .fieldLink RX11 245 "ResourceLedger$Transaction" "resultCount" "I", .fieldLink RX11 251 "ResourceLedger$Transaction" "resultLow" "[J", .fieldLink RX11 254 "ResourceLedger$Transaction" "resultHigh" "[J", .fieldLink RX11 257 "ResourceLedger$Transaction" "resultType" "[I"] ++ wsX110 ++ wsX80)
def wsX11_account : List Cond := .code yX11_account cX11_account 5 (some .long) :: ([.fieldLink RX11 22 "ResourceLedger" "state" "LResourceLedger$State;", .fieldLink RX11 104 "ResourceLedger$State" "balance" "[J", .fieldLink RX11 180 "ResourceLedger$State" "sequence" "[J", .methodLink RX11 93 yX7_findAccount, .instanceMethod yX7_findAccount, .selects RX7 yX7_findAccount yX7_findAccount, .initialized RX7, .code yX7_findAccount cX7_findAccount 4 (some .int), .fieldLink RX7 51 "ResourceLedger$State" "accountCount" "I", .fieldLink RX7 9 "ResourceLedger$State" "accountAddress" "[J"] ++ wsX110 ++ wsX70)
def wsX11_coins : List Cond := .code yX11_coins cX11_coins 2 (some .long) :: ([.fieldLink RX11 22 "ResourceLedger" "state" "LResourceLedger$State;", .fieldLink RX11 86 "ResourceLedger$State" "minted" "J", .fieldLink RX11 90 "ResourceLedger$State" "burned" "J", .methodLink RX11 261 yX7_allBalances, .instanceMethod yX7_allBalances, .selects RX7 yX7_allBalances yX7_allBalances, .initialized RX7, .code yX7_allBalances cX7_allBalances 4 (some .long), .fieldLink RX7 51 "ResourceLedger$State" "accountCount" "I", .fieldLink RX7 15 "ResourceLedger$State" "balance" "[J", .methodLink RX11 265 yX7_storedCoins, .instanceMethod yX7_storedCoins, .selects RX7 yX7_storedCoins yX7_storedCoins, .code yX7_storedCoins cX7_storedCoins 5 (some .long), .fieldLink RX7 37 "ResourceLedger$State" "nodeCount" "[I", .fieldLink RX7 40 "ResourceLedger$State" "nodeKind" "[B", .fieldLink RX7 47 "ResourceLedger$State" "nodeLow" "[J"] ++ wsX110 ++ wsX70)
def wsX11_places : List Cond := .code yX11_places cX11_places 2 (some .int) :: ([.fieldLink RX11 22 "ResourceLedger" "state" "LResourceLedger$State;", .fieldLink RX11 209 "ResourceLedger$State" "moduleCount" "I", .fieldLink RX11 268 "ResourceLedger$State" "resourceCount" "I", .fieldLink RX11 271 "ResourceLedger$State" "accountCount" "I", .methodLink RX11 97 yX7_placeCount, .instanceMethod yX7_placeCount, .selects RX7 yX7_placeCount yX7_placeCount, .initialized RX7, .code yX7_placeCount cX7_placeCount 1 (some .int), .fieldLink RX7 51 "ResourceLedger$State" "accountCount" "I", .fieldLink RX7 55 "ResourceLedger$State" "moduleCount" "I", .fieldLink RX7 58 "ResourceLedger$State" "resourceCount" "I"] ++ wsX110 ++ wsX70)
def wsX11_resource : List Cond := .code yX11_resource cX11_resource 6 (some .int) :: ([.fieldLink RX11 274 "ResourceLedger" "askedLength" "I", .fieldLink RX11 22 "ResourceLedger" "state" "LResourceLedger$State;", .fieldLink RX11 47 "ResourceLedger" "asked" "[B", .methodLink RX11 277 yX7_findResource, .instanceMethod yX7_findResource, .selects RX7 yX7_findResource yX7_findResource, .initialized RX7, .code yX7_findResource cX7_findResource 6 (some .int), .fieldLink RX7 37 "ResourceLedger$State" "nodeCount" "[I", .fieldLink RX7 27 "ResourceLedger$State" "resourceAddress" "[J", .fieldLink RX7 30 "ResourceLedger$State" "resourceModule" "[I", .fieldLink RX7 34 "ResourceLedger$State" "resourceStructure" "[I", .methodLink RX11 281 yX7_writeBytes, .instanceMethod yX7_writeBytes, .selects RX7 yX7_writeBytes yX7_writeBytes, .code yX7_writeBytes cX7_writeBytes 11 (some .int), .fieldLink RX7 40 "ResourceLedger$State" "nodeKind" "[B", .fieldLink RX7 44 "ResourceLedger$State" "nodeHigh" "[J", .fieldLink RX7 47 "ResourceLedger$State" "nodeLow" "[J", .methodLink RX7 97 yX7_widthOf, .static yX7_widthOf, .code yX7_widthOf cX7_widthOf 1 (some .int)] ++ wsX110 ++ wsX70)
def wsX11_byteOf : List Cond := .code yX11_byteOf cX11_byteOf 2 (some .int) :: ([.fieldLink RX11 274 "ResourceLedger" "askedLength" "I", .fieldLink RX11 47 "ResourceLedger" "asked" "[B"] ++ wsX110)
def wsX11_root_r1 : List Cond := [Cond.fieldLink RX11 43 "ResourceLedger" "tree" "LResourceLedger$Tree;", Cond.fieldLink RX11 108 "ResourceLedger$Tree" "stale" "Z", Cond.fieldLink RX11 22 "ResourceLedger" "state" "LResourceLedger$State;", Cond.fieldLink RX11 288 "ResourceLedger$Tree" "top" "[J", Cond.methodLink RX11 285 yX9_rebuild, Cond.instanceMethod yX9_rebuild, Cond.selects RX9 yX9_rebuild yX9_rebuild, Cond.initialized RX9, Cond.code yX9_rebuild cX9_rebuild 3 none, Cond.fieldLink RX9 48 "ResourceLedger$Tree" "stale" "Z", Cond.fieldLink RX9 52 "ResourceLedger$Tree" "count" "I", Cond.fieldLink RX9 69 "ResourceLedger$Tree" "waitingCount" "I", Cond.fieldLink RX9 9 "ResourceLedger$Tree" "top" "[J", Cond.fieldLink RX9 42 "ResourceLedger$Tree" "waiting" "[J", Cond.methodLink RX9 56 yX9_gatherAccounts, Cond.instanceMethod yX9_gatherAccounts, Cond.selects RX9 yX9_gatherAccounts yX9_gatherAccounts, Cond.code yX9_gatherAccounts cX9_gatherAccounts 3 none, Cond.fieldLink RX9 76 "ResourceLedger$State" "accountCount" "I", Cond.fieldLink RX9 18 "ResourceLedger$Tree" "digest" "LResourceLedger$Digest;", Cond.fieldLink RX9 84 "ResourceLedger$State" "balance" "[J", Cond.fieldLink RX9 91 "ResourceLedger$State" "sequence" "[J", Cond.fieldLink RX9 102 "ResourceLedger$State" "accountAddress" "[J", Cond.methodLink RX9 81 yX0_start]
def wsX11_root_r2 : List Cond := [Cond.instanceMethod yX0_start, Cond.selects RX0 yX0_start yX0_start, Cond.initialized RX0, Cond.code yX0_start cX0_start 1 none, Cond.fieldLink RX0 16 "ResourceLedger$Digest" "FIRST" "[I", Cond.fieldLink RX0 7 "ResourceLedger$Digest" "words" "[I", Cond.methodLink RX0 19 arraycopyName, Cond.native arraycopyName, Cond.static arraycopyName, Cond.initialized "java/lang/System", Cond.fieldLink RX0 25 "ResourceLedger$Digest" "filled" "I", Cond.fieldLink RX0 29 "ResourceLedger$Digest" "total" "J", Cond.methodLink RX9 87 yX0_putLong, Cond.instanceMethod yX0_putLong, Cond.selects RX0 yX0_putLong yX0_putLong, Cond.code yX0_putLong cX0_putLong 4 none, Cond.methodLink RX0 36 yX0_put, Cond.instanceMethod yX0_put, Cond.selects RX0 yX0_put yX0_put, Cond.code yX0_put cX0_put 3 none, Cond.fieldLink RX0 13 "ResourceLedger$Digest" "w" "[I", Cond.methodLink RX0 33 yX0_mix, Cond.instanceMethod yX0_mix, Cond.selects RX0 yX0_mix yX0_mix]
def wsX11_root_r3 : List Cond := [Cond.code yX0_mix cX0_mix 12 none, Cond.fieldLink RX0 52 "ResourceLedger$Digest" "K" "[I", Cond.methodLink RX9 94 yX9_keepValue, Cond.instanceMethod yX9_keepValue, Cond.selects RX9 yX9_keepValue yX9_keepValue, Cond.code yX9_keepValue cX9_keepValue 1 none, Cond.fieldLink RX9 28 "ResourceLedger$Tree" "value" "[J", Cond.methodLink RX9 144 yX0_finish, Cond.instanceMethod yX0_finish, Cond.selects RX0 yX0_finish yX0_finish, Cond.code yX0_finish cX0_finish 4 none, Cond.constantLong RX0 44 (8), Cond.methodLink RX9 147 yX0_copyTo, Cond.instanceMethod yX0_copyTo, Cond.selects RX0 yX0_copyTo yX0_copyTo, Cond.code yX0_copyTo cX0_copyTo 4 none, Cond.methodLink RX0 48 yX0_part, Cond.instanceMethod yX0_part, Cond.selects RX0 yX0_part yX0_part, Cond.code yX0_part cX0_part 2 (some .long), Cond.constantLong RX0 46 (4294967295), Cond.methodLink RX9 99 yX0_put, Cond.methodLink RX9 105 yX9_addPlace, Cond.instanceMethod yX9_addPlace]
def wsX11_root_r4 : List Cond := [Cond.selects RX9 yX9_addPlace yX9_addPlace, Cond.code yX9_addPlace cX9_addPlace 8 none, Cond.fieldLink RX9 22 "ResourceLedger$Tree" "rows" "[J", Cond.fieldLink RX9 25 "ResourceLedger$Tree" "leaves" "[J", Cond.fieldLink RX9 31 "ResourceLedger$Tree" "order" "[I", Cond.methodLink RX9 151 yX0_putLongs, Cond.instanceMethod yX0_putLongs, Cond.selects RX0 yX0_putLongs yX0_putLongs, Cond.code yX0_putLongs cX0_putLongs 4 none, Cond.methodLink RX0 40 yX0_putLong, Cond.methodLink RX9 154 yX9_isBelow, Cond.instanceMethod yX9_isBelow, Cond.selects RX9 yX9_isBelow yX9_isBelow, Cond.code yX9_isBelow cX9_isBelow 8 (some .boolean), Cond.methodLink RX9 158 yX10_below, Cond.static yX10_below, Cond.initialized RX10, Cond.code yX10_below cX10_below 4 (some .boolean), Cond.constantLong RX10 9 (-9223372036854775808), Cond.methodLink RX9 60 yX9_gatherModules, Cond.instanceMethod yX9_gatherModules, Cond.selects RX9 yX9_gatherModules yX9_gatherModules, Cond.code yX9_gatherModules cX9_gatherModules 5 none, Cond.fieldLink RX9 109 "ResourceLedger$State" "moduleCount" "I"]
def wsX11_root_r5 : List Cond := [Cond.fieldLink RX9 112 "ResourceLedger$State" "programs" "[LResourceLedger$Program;", Cond.fieldLink RX9 116 "ResourceLedger$Program" "length" "I", Cond.fieldLink RX9 125 "ResourceLedger$Program" "number" "I", Cond.methodLink RX9 121 yX5_at, Cond.instanceMethod yX5_at, Cond.selects RX5 yX5_at yX5_at, Cond.initialized RX5, Cond.code yX5_at cX5_at 2 (some .int), Cond.fieldLink RX5 29 "ResourceLedger$Program" "length" "I", Cond.fieldLink RX5 25 "ResourceLedger$Program" "bytes" "[B", Cond.methodLink RX9 63 yX9_gatherResources, Cond.instanceMethod yX9_gatherResources, Cond.selects RX9 yX9_gatherResources yX9_gatherResources, Cond.code yX9_gatherResources cX9_gatherResources 5 none, Cond.fieldLink RX9 128 "ResourceLedger$State" "nodeCount" "[I", Cond.fieldLink RX9 35 "ResourceLedger$Tree" "bytes" "[B", Cond.fieldLink RX9 135 "ResourceLedger$State" "resourceAddress" "[J", Cond.fieldLink RX9 138 "ResourceLedger$State" "resourceModule" "[I", Cond.fieldLink RX9 141 "ResourceLedger$State" "resourceStructure" "[I", Cond.methodLink RX9 131 yX7_writeBytes, Cond.instanceMethod yX7_writeBytes, Cond.selects RX7 yX7_writeBytes yX7_writeBytes, Cond.initialized RX7, Cond.code yX7_writeBytes cX7_writeBytes 11 (some .int)]
def wsX11_root_r6 : List Cond := [Cond.fieldLink RX7 37 "ResourceLedger$State" "nodeCount" "[I", Cond.fieldLink RX7 40 "ResourceLedger$State" "nodeKind" "[B", Cond.fieldLink RX7 44 "ResourceLedger$State" "nodeHigh" "[J", Cond.fieldLink RX7 47 "ResourceLedger$State" "nodeLow" "[J", Cond.methodLink RX7 97 yX7_widthOf, Cond.static yX7_widthOf, Cond.code yX7_widthOf cX7_widthOf 1 (some .int), Cond.methodLink RX9 66 yX9_leaveOutDoubles, Cond.instanceMethod yX9_leaveOutDoubles, Cond.selects RX9 yX9_leaveOutDoubles yX9_leaveOutDoubles, Cond.code yX9_leaveOutDoubles cX9_leaveOutDoubles 3 none, Cond.methodLink RX9 164 yX9_firstDifference, Cond.instanceMethod yX9_firstDifference, Cond.selects RX9 yX9_firstDifference yX9_firstDifference, Cond.code yX9_firstDifference cX9_firstDifference 7 (some .int), Cond.methodLink RX9 72 yX9_climb, Cond.instanceMethod yX9_climb, Cond.selects RX9 yX9_climb yX9_climb, Cond.code yX9_climb cX9_climb 8 none, Cond.methodLink RX9 176 Lib.Math.max.name, Cond.static Lib.Math.max.name, Cond.initialized "java/lang/Math", Cond.code Lib.Math.max.name Lib.Math.max.code 2 (some .int), Cond.fieldLink RX9 39 "ResourceLedger$Tree" "now" "[J"]
def wsX11_root_r7 : List Cond := [Cond.methodLink RX9 179 arraycopyName, Cond.fieldLink RX9 45 "ResourceLedger$Tree" "waitingLevel" "[I", Cond.methodLink RX9 173 yX9_parting, Cond.instanceMethod yX9_parting, Cond.selects RX9 yX9_parting yX9_parting, Cond.code yX9_parting cX9_parting 2 (some .int), Cond.methodLink RX9 168 Lib.Math.min.name, Cond.static Lib.Math.min.name, Cond.code Lib.Math.min.name Lib.Math.min.code 2 (some .int), Cond.methodLink RX9 185 yX9_putNothing, Cond.instanceMethod yX9_putNothing, Cond.selects RX9 yX9_putNothing yX9_putNothing, Cond.code yX9_putNothing cX9_putNothing 2 none]
def wsX11_root : List Cond := .code yX11_root cX11_root 2 (some .long) :: ((wsX11_root_r1 ++ (wsX11_root_r2 ++ (wsX11_root_r3 ++ (wsX11_root_r4 ++ (wsX11_root_r5 ++ (wsX11_root_r6 ++ wsX11_root_r7)))))) ++ wsX110 ++ wsX90 ++ wsX70 ++ wsX00 ++ wsX50)
def wsX11_slips : List Cond := .code yX11_slips cX11_slips 1 (some .int) :: ([.fieldLink RX11 55 "ResourceLedger" "machine" "LResourceLedger$Machine;", .methodLink RX11 291 yX4_slipCount, .instanceMethod yX4_slipCount, .selects RX4 yX4_slipCount yX4_slipCount, .initialized RX4, .code yX4_slipCount cX4_slipCount 1 (some .int), .fieldLink RX4 12 "ResourceLedger$Machine" "heap" "LResourceLedger$Heap;", .fieldLink RX4 71 "ResourceLedger$Heap" "slips" "I"] ++ wsX110 ++ wsX40 ++ wsX10)
def wsX12_begin : List Cond := .code yX12_begin cX12_begin 1 none :: ([.fieldLink RX12 20 "ResourceLedgerModel$Digester" "size" "I"] ++ wsX120)
def wsX14_begin : List Cond := .code yX14_begin cX14_begin 1 none :: ([.fieldLink RX14 39 "ResourceLedgerModel$Roots" "count" "I"] ++ wsX140)
def wsX14_all_r1 : List Cond := [Cond.fieldLink RX14 39 "ResourceLedgerModel$Roots" "count" "I", Cond.fieldLink RX14 79 "ResourceLedgerModel$Roots" "nodes" "I", Cond.fieldLink RX14 29 "ResourceLedgerModel$Roots" "begins" "[I", Cond.fieldLink RX14 32 "ResourceLedgerModel$Roots" "sizes" "[I", Cond.fieldLink RX14 35 "ResourceLedgerModel$Roots" "digester" "LResourceLedgerModel$Digester;", Cond.fieldLink RX14 7 "ResourceLedgerModel$Roots" "keys" "[J", Cond.fieldLink RX14 13 "ResourceLedgerModel$Roots" "values" "[J", Cond.methodLink RX14 99 Lib.Math.max.name, Cond.static Lib.Math.max.name, Cond.initialized "java/lang/Math", Cond.code Lib.Math.max.name Lib.Math.max.code 2 (some .int), Cond.methodLink RX14 82 yX12_begin, Cond.instanceMethod yX12_begin, Cond.selects RX12 yX12_begin yX12_begin, Cond.initialized RX12, Cond.code yX12_begin cX12_begin 1 none, Cond.fieldLink RX12 20 "ResourceLedgerModel$Digester" "size" "I", Cond.methodLink RX14 85 yX12_add, Cond.instanceMethod yX12_add, Cond.selects RX12 yX12_add yX12_add, Cond.code yX12_add cX12_add 2 none, Cond.fieldLink RX12 7 "ResourceLedgerModel$Digester" "message" "[B", Cond.methodLink RX14 89 yX14_add, Cond.instanceMethod yX14_add]
def wsX14_all_r2 : List Cond := [Cond.selects RX14 yX14_add yX14_add, Cond.initialized RX14, Cond.code yX14_add cX14_add 5 none, Cond.methodLink RX14 66 yX12_addNumber, Cond.instanceMethod yX12_addNumber, Cond.selects RX12 yX12_addNumber yX12_addNumber, Cond.code yX12_addNumber cX12_addNumber 5 none, Cond.methodLink RX12 24 yX12_add, Cond.methodLink RX14 92 yX14_keepHash, Cond.instanceMethod yX14_keepHash, Cond.selects RX14 yX14_keepHash yX14_keepHash, Cond.code yX14_keepHash cX14_keepHash 3 none, Cond.fieldLink RX14 26 "ResourceLedgerModel$Roots" "hashes" "[J", Cond.methodLink RX14 72 yX12_end, Cond.instanceMethod yX12_end, Cond.selects RX12 yX12_end yX12_end, Cond.code yX12_end cX12_end 3 none, Cond.fieldLink RX12 13 "ResourceLedgerModel$Digester" "words" "[J", Cond.constantLong RX12 30 (1779033703), Cond.constantLong RX12 32 (3144134277), Cond.constantLong RX12 34 (1013904242), Cond.constantLong RX12 36 (2773480762), Cond.constantLong RX12 38 (1359893119), Cond.constantLong RX12 40 (2600822924)]
def wsX14_all_r3 : List Cond := [Cond.constantLong RX12 42 (528734635), Cond.constantLong RX12 44 (1541459225), Cond.constantLong RX12 46 (8), Cond.methodLink RX12 48 yX12_addNumber, Cond.methodLink RX12 52 yX12_block, Cond.instanceMethod yX12_block, Cond.selects RX12 yX12_block yX12_block, Cond.code yX12_block cX12_block 23 none, Cond.constantLong RX12 55 (256), Cond.fieldLink RX12 17 "ResourceLedgerModel$Digester" "schedule" "[J", Cond.constantLong RX12 28 (4294967295), Cond.fieldLink RX12 61 "ResourceLedgerModel$Digester" "CONSTANTS" "[J", Cond.methodLink RX12 57 yX12_turned, Cond.static yX12_turned, Cond.code yX12_turned cX12_turned 3 (some .long), Cond.methodLink RX14 75 yX12_four, Cond.instanceMethod yX12_four, Cond.selects RX12 yX12_four yX12_four, Cond.code yX12_four cX12_four 2 (some .long), Cond.methodLink RX14 95 yX14_parting, Cond.instanceMethod yX14_parting, Cond.selects RX14 yX14_parting yX14_parting, Cond.code yX14_parting cX14_parting 3 (some .int), Cond.methodLink RX14 105 yX14_level]
def wsX14_all_r4 : List Cond := [Cond.instanceMethod yX14_level, Cond.selects RX14 yX14_level yX14_level, Cond.code yX14_level cX14_level 8 none, Cond.methodLink RX14 108 yX14_agree, Cond.instanceMethod yX14_agree, Cond.selects RX14 yX14_agree yX14_agree, Cond.code yX14_agree cX14_agree 8 (some .boolean)]
def wsX14_all : List Cond := .code yX14_all cX14_all 3 none :: ((wsX14_all_r1 ++ (wsX14_all_r2 ++ (wsX14_all_r3 ++ wsX14_all_r4))) ++ wsX140 ++ wsX120)
def wsX14_get : List Cond := .code yX14_get cX14_get 2 (some .long) :: ([.fieldLink RX14 39 "ResourceLedgerModel$Roots" "count" "I", .fieldLink RX14 26 "ResourceLedgerModel$Roots" "hashes" "[J"] ++ wsX140)
def wsX18_placeCount : List Cond := .code yX18_placeCount cX18_placeCount 1 (some .int) :: ([.fieldLink RX18 1 "ResourceLedgerModel" "accounts" "I", .fieldLink RX18 7 "ResourceLedgerModel" "modules" "I", .fieldLink RX18 10 "ResourceLedgerModel" "resources" "I"] ++ wsX180)
def wsX18_findAccount : List Cond := .code yX18_findAccount cX18_findAccount 4 (some .int) :: ([.fieldLink RX18 1 "ResourceLedgerModel" "accounts" "I", .fieldLink RX18 13 "ResourceLedgerModel" "addresses" "[J"] ++ wsX180)
def wsX18_findResource : List Cond := .code yX18_findResource cX18_findResource 5 (some .int) :: ([.fieldLink RX18 10 "ResourceLedgerModel" "resources" "I", .fieldLink RX18 27 "ResourceLedgerModel" "owners" "[J", .fieldLink RX18 30 "ResourceLedgerModel" "kindsOf" "[I"] ++ wsX180)
def wsX18_type : List Cond := .code yX18_type cX18_type 5 (some .int) :: ([.fieldLink RX18 609 "ResourceLedgerModel" "tapeSize" "I", .fieldLink RX18 535 "ResourceLedgerModel" "tape" "[B"] ++ wsX180)
def wsX18_newAccount : List Cond := .code yX18_newAccount cX18_newAccount 3 (some .int) :: ([.fieldLink RX18 13 "ResourceLedgerModel" "addresses" "[J", .fieldLink RX18 1 "ResourceLedgerModel" "accounts" "I", .fieldLink RX18 303 "ResourceLedgerModel" "balances" "[J", .fieldLink RX18 519 "ResourceLedgerModel" "sequences" "[J"] ++ wsX180)
def wsX18_mint : List Cond := .code yX18_mint cX18_mint 6 (some .boolean) :: ([.fieldLink RX18 612 "ResourceLedgerModel" "minted" "J", .fieldLink RX18 615 "ResourceLedgerModel" "burned" "J", .constantLong RX18 618 (4611686018427387904), .fieldLink RX18 303 "ResourceLedgerModel" "balances" "[J", .methodLink RX18 288 yX18_findAccount, .instanceMethod yX18_findAccount, .selects RX18 yX18_findAccount yX18_findAccount, .initialized RX18, .code yX18_findAccount cX18_findAccount 4 (some .int), .fieldLink RX18 1 "ResourceLedgerModel" "accounts" "I", .fieldLink RX18 13 "ResourceLedgerModel" "addresses" "[J", .methodLink RX18 620 yX18_placeCount, .instanceMethod yX18_placeCount, .selects RX18 yX18_placeCount yX18_placeCount, .code yX18_placeCount cX18_placeCount 1 (some .int), .fieldLink RX18 7 "ResourceLedgerModel" "modules" "I", .fieldLink RX18 10 "ResourceLedgerModel" "resources" "I", .methodLink RX18 623 yX18_newAccount, .instanceMethod yX18_newAccount, .selects RX18 yX18_newAccount yX18_newAccount, .code yX18_newAccount cX18_newAccount 3 (some .int), .fieldLink RX18 519 "ResourceLedgerModel" "sequences" "[J"] ++ wsX180)
def wsX18_begin : List Cond := .code yX18_begin cX18_begin 2 (some .int) :: ([.fieldLink RX18 626 "ResourceLedgerModel" "count" "I", .fieldLink RX18 628 "ResourceLedgerModel" "done" "I"] ++ wsX180)
def wsX18_isLimit : List Cond := .code yX18_isLimit cX18_isLimit 1 (some .boolean) :: ([])
def wsX18_add : List Cond := .code yX18_add cX18_add 8 (some .int) :: ([.fieldLink RX18 626 "ResourceLedgerModel" "count" "I", .fieldLink RX18 538 "ResourceLedgerModel" "sorts" "[I", .fieldLink RX18 541 "ResourceLedgerModel" "senders" "[J", .fieldLink RX18 544 "ResourceLedgerModel" "turns" "[J", .fieldLink RX18 547 "ResourceLedgerModel" "limits" "[I", .fieldLink RX18 556 "ResourceLedgerModel" "argumentCounts" "[I"] ++ wsX180)
def wsX18_publish : List Cond := .code yX18_publish cX18_publish 8 (some .int) :: ([.fieldLink RX18 626 "ResourceLedgerModel" "count" "I", .fieldLink RX18 609 "ResourceLedgerModel" "tapeSize" "I", .fieldLink RX18 569 "ResourceLedgerModel" "published" "[B", .fieldLink RX18 535 "ResourceLedgerModel" "tape" "[B", .fieldLink RX18 572 "ResourceLedgerModel" "publishedSizes" "[I", .methodLink RX18 631 yX18_isLimit, .static yX18_isLimit, .initialized RX18, .code yX18_isLimit cX18_isLimit 1 (some .boolean), .methodLink RX18 634 yX18_add, .instanceMethod yX18_add, .selects RX18 yX18_add yX18_add, .code yX18_add cX18_add 8 (some .int), .fieldLink RX18 538 "ResourceLedgerModel" "sorts" "[I", .fieldLink RX18 541 "ResourceLedgerModel" "senders" "[J", .fieldLink RX18 544 "ResourceLedgerModel" "turns" "[J", .fieldLink RX18 547 "ResourceLedgerModel" "limits" "[I", .fieldLink RX18 556 "ResourceLedgerModel" "argumentCounts" "[I"] ++ wsX180)
def wsX18_call : List Cond := .code yX18_call cX18_call 9 (some .int) :: ([.constant RX18 637 (65535), .fieldLink RX18 626 "ResourceLedgerModel" "count" "I", .fieldLink RX18 550 "ResourceLedgerModel" "modulesCalled" "[I", .fieldLink RX18 553 "ResourceLedgerModel" "functionsCalled" "[I", .methodLink RX18 631 yX18_isLimit, .static yX18_isLimit, .initialized RX18, .code yX18_isLimit cX18_isLimit 1 (some .boolean), .methodLink RX18 634 yX18_add, .instanceMethod yX18_add, .selects RX18 yX18_add yX18_add, .code yX18_add cX18_add 8 (some .int), .fieldLink RX18 538 "ResourceLedgerModel" "sorts" "[I", .fieldLink RX18 541 "ResourceLedgerModel" "senders" "[J", .fieldLink RX18 544 "ResourceLedgerModel" "turns" "[J", .fieldLink RX18 547 "ResourceLedgerModel" "limits" "[I", .fieldLink RX18 556 "ResourceLedgerModel" "argumentCounts" "[I"] ++ wsX180)
def wsX18_argument : List Cond := .code yX18_argument cX18_argument 9 (some .int) :: ([.constantLong RX18 638 (256), .fieldLink RX18 626 "ResourceLedgerModel" "count" "I", .fieldLink RX18 628 "ResourceLedgerModel" "done" "I", .fieldLink RX18 538 "ResourceLedgerModel" "sorts" "[I", .fieldLink RX18 556 "ResourceLedgerModel" "argumentCounts" "[I", .fieldLink RX18 559 "ResourceLedgerModel" "argumentTypes" "[B", .fieldLink RX18 562 "ResourceLedgerModel" "argumentHighs" "[J", .fieldLink RX18 565 "ResourceLedgerModel" "argumentLows" "[J"] ++ wsX180)
def wsX18_weave : List Cond := .code yX18_weave cX18_weave 3 (some .int) :: ([.fieldLink RX18 640 "ResourceLedgerModel" "woven" "I"] ++ wsX180)
def wsX18_unweave : List Cond := .code yX18_unweave cX18_unweave 2 (some .int) :: ([.fieldLink RX18 640 "ResourceLedgerModel" "woven" "I"] ++ wsX180)
def wsX18_execute_r1 : List Cond := [Cond.fieldLink RX18 628 "ResourceLedgerModel" "done" "I", Cond.fieldLink RX18 626 "ResourceLedgerModel" "count" "I", Cond.fieldLink RX18 575 "ResourceLedgerModel" "outcomes" "[I", Cond.methodLink RX18 643 yX18_doOne, Cond.instanceMethod yX18_doOne, Cond.selects RX18 yX18_doOne yX18_doOne, Cond.initialized RX18, Cond.code yX18_doOne cX18_doOne 5 none, Cond.fieldLink RX18 541 "ResourceLedgerModel" "senders" "[J", Cond.fieldLink RX18 411 "ResourceLedgerModel" "sender" "J", Cond.fieldLink RX18 547 "ResourceLedgerModel" "limits" "[I", Cond.fieldLink RX18 264 "ResourceLedgerModel" "limit" "I", Cond.fieldLink RX18 261 "ResourceLedgerModel" "gas" "I", Cond.fieldLink RX18 250 "ResourceLedgerModel" "outcome" "I", Cond.fieldLink RX18 253 "ResourceLedgerModel" "code" "J", Cond.fieldLink RX18 587 "ResourceLedgerModel" "resultCounts" "[I", Cond.fieldLink RX18 581 "ResourceLedgerModel" "faultPlaces" "[I", Cond.fieldLink RX18 519 "ResourceLedgerModel" "sequences" "[J", Cond.fieldLink RX18 544 "ResourceLedgerModel" "turns" "[J", Cond.fieldLink RX18 303 "ResourceLedgerModel" "balances" "[J", Cond.fieldLink RX18 550 "ResourceLedgerModel" "modulesCalled" "[I", Cond.fieldLink RX18 538 "ResourceLedgerModel" "sorts" "[I", Cond.fieldLink RX18 615 "ResourceLedgerModel" "burned" "J", Cond.fieldLink RX18 578 "ResourceLedgerModel" "gases" "[I"]
def wsX18_execute_r2 : List Cond := [Cond.fieldLink RX18 584 "ResourceLedgerModel" "codes" "[J", Cond.methodLink RX18 288 yX18_findAccount, Cond.instanceMethod yX18_findAccount, Cond.selects RX18 yX18_findAccount yX18_findAccount, Cond.code yX18_findAccount cX18_findAccount 4 (some .int), Cond.fieldLink RX18 1 "ResourceLedgerModel" "accounts" "I", Cond.fieldLink RX18 13 "ResourceLedgerModel" "addresses" "[J", Cond.methodLink RX18 106 yX18_findModule, Cond.instanceMethod yX18_findModule, Cond.selects RX18 yX18_findModule yX18_findModule, Cond.code yX18_findModule cX18_findModule 3 (some .int), Cond.fieldLink RX18 7 "ResourceLedgerModel" "modules" "I", Cond.fieldLink RX18 17 "ResourceLedgerModel" "units" "[LResourceLedgerModel$Unit;", Cond.methodLink RX18 21 yX16_number, Cond.instanceMethod yX16_number, Cond.selects RX16 yX16_number yX16_number, Cond.initialized RX16, Cond.code yX16_number cX16_number 1 (some .int), Cond.methodLink RX16 82 yX16_shortAt, Cond.instanceMethod yX16_shortAt, Cond.selects RX16 yX16_shortAt yX16_shortAt, Cond.code yX16_shortAt cX16_shortAt 2 (some .int), Cond.methodLink RX16 46 yX16_byteAt, Cond.instanceMethod yX16_byteAt]
def wsX18_execute_r3 : List Cond := [Cond.selects RX16 yX16_byteAt yX16_byteAt, Cond.code yX16_byteAt cX16_byteAt 2 (some .int), Cond.fieldLink RX16 43 "ResourceLedgerModel$Unit" "length" "I", Cond.fieldLink RX16 7 "ResourceLedgerModel$Unit" "bytes" "[B", Cond.methodLink RX18 646 yX18_refusal, Cond.instanceMethod yX18_refusal, Cond.selects RX18 yX18_refusal yX18_refusal, Cond.code yX18_refusal cX18_refusal 7 (some .int), Cond.fieldLink RX18 553 "ResourceLedgerModel" "functionsCalled" "[I", Cond.fieldLink RX18 556 "ResourceLedgerModel" "argumentCounts" "[I", Cond.fieldLink RX18 559 "ResourceLedgerModel" "argumentTypes" "[B", Cond.constantLong RX18 122 (5), Cond.methodLink RX18 126 yX16_flags, Cond.instanceMethod yX16_flags, Cond.selects RX16 yX16_flags yX16_flags, Cond.code yX16_flags cX16_flags 2 (some .int), Cond.fieldLink RX16 104 "ResourceLedgerModel$Unit" "functions" "I", Cond.fieldLink RX16 23 "ResourceLedgerModel$Unit" "functionAt" "[I", Cond.fieldLink RX16 17 "ResourceLedgerModel$Unit" "calleeAt" "[I", Cond.methodLink RX18 133 yX16_many, Cond.instanceMethod yX16_many, Cond.selects RX16 yX16_many yX16_many, Cond.code yX16_many cX16_many 3 (some .int), Cond.methodLink RX16 167 yX16_listOf]
def wsX18_execute_r4 : List Cond := [Cond.instanceMethod yX16_listOf, Cond.selects RX16 yX16_listOf yX16_listOf, Cond.code yX16_listOf cX16_listOf 4 (some .int), Cond.methodLink RX16 139 yX16_listAt, Cond.instanceMethod yX16_listAt, Cond.selects RX16 yX16_listAt yX16_listAt, Cond.code yX16_listAt cX16_listAt 5 (some .int), Cond.methodLink RX16 136 yX16_listEnd, Cond.instanceMethod yX16_listEnd, Cond.selects RX16 yX16_listEnd yX16_listEnd, Cond.code yX16_listEnd cX16_listEnd 5 (some .int), Cond.methodLink RX16 110 yX16_typeEnd, Cond.instanceMethod yX16_typeEnd, Cond.selects RX16 yX16_typeEnd yX16_typeEnd, Cond.code yX16_typeEnd cX16_typeEnd 3 (some .int), Cond.methodLink RX18 140 yX16_listed, Cond.instanceMethod yX16_listed, Cond.selects RX16 yX16_listed yX16_listed, Cond.code yX16_listed cX16_listed 6 (some .long), Cond.methodLink RX16 163 yX16_typeAt, Cond.instanceMethod yX16_typeAt, Cond.selects RX16 yX16_typeAt yX16_typeAt, Cond.code yX16_typeAt cX16_typeAt 5 (some .long), Cond.constantLong RX16 161 (256)]
def wsX18_execute_r5 : List Cond := [Cond.methodLink RX18 267 yX18_end, Cond.instanceMethod yX18_end, Cond.selects RX18 yX18_end yX18_end, Cond.code yX18_end cX18_end 4 none, Cond.methodLink RX18 649 yX18_publishOne, Cond.instanceMethod yX18_publishOne, Cond.selects RX18 yX18_publishOne yX18_publishOne, Cond.code yX18_publishOne cX18_publishOne 5 none, Cond.fieldLink RX18 572 "ResourceLedgerModel" "publishedSizes" "[I", Cond.constantLong RX18 283 (4), Cond.fieldLink RX18 569 "ResourceLedgerModel" "published" "[B", Cond.fieldLink RX18 215 "ResourceLedgerModel" "faultPlace" "I", Cond.methodLink RX18 353 yX18_spend, Cond.instanceMethod yX18_spend, Cond.selects RX18 yX18_spend yX18_spend, Cond.code yX18_spend cX18_spend 2 (some .boolean), Cond.methodLink RX18 257 yX18_goesOn, Cond.instanceMethod yX18_goesOn, Cond.selects RX18 yX18_goesOn yX18_goesOn, Cond.code yX18_goesOn cX18_goesOn 1 (some .boolean), Cond.methodLink RX18 655 yX18_takeModule, Cond.instanceMethod yX18_takeModule, Cond.selects RX18 yX18_takeModule yX18_takeModule, Cond.code yX18_takeModule cX18_takeModule 9 (some .int)]
def wsX18_execute_r6 : List Cond := [Cond.fieldLink RX18 231 "ResourceLedgerModel" "looker" "LResourceLedgerModel$Looker;", Cond.fieldLink RX18 189 "ResourceLedgerModel" "depths" "[I", Cond.methodLink RX18 208 yX16_read, Cond.instanceMethod yX16_read, Cond.selects RX16 yX16_read yX16_read, Cond.code yX16_read cX16_read 5 (some .int), Cond.fieldLink RX16 50 "ResourceLedgerModel$Unit" "at" "I", Cond.fieldLink RX16 36 "ResourceLedgerModel$Unit" "fault" "I", Cond.fieldLink RX16 40 "ResourceLedgerModel$Unit" "where" "I", Cond.fieldLink RX16 72 "ResourceLedgerModel$Unit" "all" "I", Cond.fieldLink RX16 92 "ResourceLedgerModel$Unit" "structures" "I", Cond.fieldLink RX16 13 "ResourceLedgerModel$Unit" "structureAt" "[I", Cond.methodLink RX16 148 yX16_overAll, Cond.instanceMethod yX16_overAll, Cond.selects RX16 yX16_overAll yX16_overAll, Cond.code yX16_overAll cX16_overAll 4 none, Cond.fieldLink RX16 95 "ResourceLedgerModel$Unit" "foreigns" "I", Cond.fieldLink RX16 98 "ResourceLedgerModel$Unit" "callees" "I", Cond.fieldLink RX16 101 "ResourceLedgerModel$Unit" "elements" "I", Cond.fieldLink RX16 20 "ResourceLedgerModel$Unit" "elementAt" "[I", Cond.methodLink RX16 60 yX16_isGood, Cond.instanceMethod yX16_isGood, Cond.selects RX16 yX16_isGood yX16_isGood, Cond.code yX16_isGood cX16_isGood 1 (some .boolean)]
def wsX18_execute_r7 : List Cond := [Cond.methodLink RX16 57 yX16_over, Cond.instanceMethod yX16_over, Cond.selects RX16 yX16_over yX16_over, Cond.code yX16_over cX16_over 3 (some .int), Cond.methodLink RX16 53 yX16_fail, Cond.instanceMethod yX16_fail, Cond.selects RX16 yX16_fail yX16_fail, Cond.code yX16_fail cX16_fail 3 none, Cond.methodLink RX16 64 yX16_count, Cond.instanceMethod yX16_count, Cond.selects RX16 yX16_count yX16_count, Cond.code yX16_count cX16_count 4 (some .int), Cond.methodLink RX16 68 yX16_overType, Cond.instanceMethod yX16_overType, Cond.selects RX16 yX16_overType yX16_overType, Cond.code yX16_overType cX16_overType 5 none, Cond.methodLink RX16 88 yX16_overList, Cond.instanceMethod yX16_overList, Cond.selects RX16 yX16_overList yX16_overList, Cond.code yX16_overList cX16_overList 5 none, Cond.methodLink RX16 107 yX16_overFunction, Cond.instanceMethod yX16_overFunction, Cond.selects RX16 yX16_overFunction yX16_overFunction, Cond.code yX16_overFunction cX16_overFunction 5 none]
def wsX18_execute_r8 : List Cond := [Cond.fieldLink RX16 26 "ResourceLedgerModel$Unit" "firsts" "[I", Cond.methodLink RX16 78 yX16_overLists, Cond.instanceMethod yX16_overLists, Cond.selects RX16 yX16_overLists yX16_overLists, Cond.code yX16_overLists cX16_overLists 2 none, Cond.methodLink RX16 85 yX16_overInstruction, Cond.instanceMethod yX16_overInstruction, Cond.selects RX16 yX16_overInstruction yX16_overInstruction, Cond.code yX16_overInstruction cX16_overInstruction 2 none, Cond.fieldLink RX16 29 "ResourceLedgerModel$Unit" "instructionAt" "[I", Cond.methodLink RX16 75 yX16_operandBytes, Cond.static yX16_operandBytes, Cond.code yX16_operandBytes cX16_operandBytes 1 (some .int), Cond.methodLink RX16 151 yX16_lookAll, Cond.instanceMethod yX16_lookAll, Cond.selects RX16 yX16_lookAll yX16_lookAll, Cond.code yX16_lookAll cX16_lookAll 4 none, Cond.methodLink RX16 123 yX16_fieldsOf, Cond.instanceMethod yX16_fieldsOf, Cond.selects RX16 yX16_fieldsOf yX16_fieldsOf, Cond.code yX16_fieldsOf cX16_fieldsOf 2 (some .int), Cond.methodLink RX16 117 yX16_lookType, Cond.instanceMethod yX16_lookType, Cond.selects RX16 yX16_lookType yX16_lookType]
def wsX18_execute_r9 : List Cond := [Cond.code yX16_lookType cX16_lookType 3 (some .int), Cond.methodLink RX16 113 yX16_isStructureType, Cond.instanceMethod yX16_isStructureType, Cond.selects RX16 yX16_isStructureType yX16_isStructureType, Cond.code yX16_isStructureType cX16_isStructureType 3 (some .boolean), Cond.methodLink RX16 126 yX16_lookList, Cond.instanceMethod yX16_lookList, Cond.selects RX16 yX16_lookList yX16_lookList, Cond.code yX16_lookList cX16_lookList 5 (some .int), Cond.methodLink RX16 129 yX16_manyIn, Cond.instanceMethod yX16_manyIn, Cond.selects RX16 yX16_manyIn yX16_manyIn, Cond.code yX16_manyIn cX16_manyIn 3 (some .int), Cond.methodLink RX16 132 yX16_lookInstruction, Cond.instanceMethod yX16_lookInstruction, Cond.selects RX16 yX16_lookInstruction yX16_lookInstruction, Cond.code yX16_lookInstruction cX16_lookInstruction 5 none, Cond.methodLink RX16 120 yX16_lookOwn, Cond.instanceMethod yX16_lookOwn, Cond.selects RX16 yX16_lookOwn yX16_lookOwn, Cond.code yX16_lookOwn cX16_lookOwn 2 none, Cond.methodLink RX16 154 yX16_isRound, Cond.instanceMethod yX16_isRound, Cond.selects RX16 yX16_isRound yX16_isRound]
def wsX18_execute_r10 : List Cond := [Cond.code yX16_isRound cX16_isRound 4 (some .boolean), Cond.fieldLink RX16 32 "ResourceLedgerModel$Unit" "reached" "[Z", Cond.methodLink RX16 142 yX16_reach, Cond.instanceMethod yX16_reach, Cond.selects RX16 yX16_reach yX16_reach, Cond.code yX16_reach cX16_reach 4 none, Cond.methodLink RX16 145 yX16_ownIn, Cond.instanceMethod yX16_ownIn, Cond.selects RX16 yX16_ownIn yX16_ownIn, Cond.code yX16_ownIn cX16_ownIn 3 (some .int), Cond.methodLink RX18 218 yX18_tell, Cond.instanceMethod yX18_tell, Cond.selects RX18 yX18_tell yX18_tell, Cond.code yX18_tell cX18_tell 3 (some .int), Cond.methodLink RX18 186 yX16_structureCount, Cond.instanceMethod yX16_structureCount, Cond.selects RX16 yX16_structureCount yX16_structureCount, Cond.code yX16_structureCount cX16_structureCount 1 (some .int), Cond.methodLink RX18 143 yX16_identity, Cond.instanceMethod yX16_identity, Cond.selects RX16 yX16_identity yX16_identity, Cond.code yX16_identity cX16_identity 3 (some .int), Cond.methodLink RX16 157 yX16_number, Cond.methodLink RX18 175 yX18_isThere]
def wsX18_execute_r11 : List Cond := [Cond.instanceMethod yX18_isThere, Cond.selects RX18 yX18_isThere yX18_isThere, Cond.code yX18_isThere cX18_isThere 5 (some .boolean), Cond.methodLink RX18 221 yX18_abilitiesThere, Cond.instanceMethod yX18_abilitiesThere, Cond.selects RX18 yX18_abilitiesThere yX18_abilitiesThere, Cond.code yX18_abilitiesThere cX18_abilitiesThere 3 (some .int), Cond.methodLink RX18 115 yX16_abilitiesOf, Cond.instanceMethod yX16_abilitiesOf, Cond.selects RX16 yX16_abilitiesOf yX16_abilitiesOf, Cond.code yX16_abilitiesOf cX16_abilitiesOf 2 (some .int), Cond.methodLink RX18 224 yX16_functionCount, Cond.instanceMethod yX16_functionCount, Cond.selects RX16 yX16_functionCount yX16_functionCount, Cond.code yX16_functionCount cX16_functionCount 1 (some .int), Cond.methodLink RX18 227 yX18_isFunctionAs, Cond.instanceMethod yX18_isFunctionAs, Cond.selects RX18 yX18_isFunctionAs yX18_isFunctionAs, Cond.code yX18_isFunctionAs cX18_isFunctionAs 6 (some .boolean), Cond.methodLink RX18 169 yX16_foreignModule, Cond.instanceMethod yX16_foreignModule, Cond.selects RX16 yX16_foreignModule yX16_foreignModule, Cond.code yX16_foreignModule cX16_foreignModule 2 (some .int), Cond.methodLink RX18 172 yX16_foreignNumber]
def wsX18_execute_r12 : List Cond := [Cond.instanceMethod yX16_foreignNumber, Cond.selects RX16 yX16_foreignNumber yX16_foreignNumber, Cond.code yX16_foreignNumber cX16_foreignNumber 2 (some .int), Cond.methodLink RX18 179 yX18_flagsThere, Cond.instanceMethod yX18_flagsThere, Cond.selects RX18 yX18_flagsThere yX18_flagsThere, Cond.code yX18_flagsThere cX18_flagsThere 3 (some .int), Cond.methodLink RX18 182 yX18_isSameList, Cond.instanceMethod yX18_isSameList, Cond.selects RX18 yX18_isSameList yX18_isSameList, Cond.code yX18_isSameList cX18_isSameList 9 (some .boolean), Cond.methodLink RX18 157 yX18_manyThere, Cond.instanceMethod yX18_manyThere, Cond.selects RX18 yX18_manyThere yX18_manyThere, Cond.code yX18_manyThere cX18_manyThere 4 (some .int), Cond.methodLink RX18 129 yX18_coinMany, Cond.static yX18_coinMany, Cond.code yX18_coinMany cX18_coinMany 2 (some .int), Cond.methodLink RX18 161 yX18_typeThere, Cond.instanceMethod yX18_typeThere, Cond.selects RX18 yX18_typeThere yX18_typeThere, Cond.code yX18_typeThere cX18_typeThere 5 (some .long), Cond.methodLink RX18 136 yX18_coinType, Cond.static yX18_coinType]
def wsX18_execute_r13 : List Cond := [Cond.code yX18_coinType cX18_coinType 3 (some .long), Cond.constantLong RX18 118 (1536), Cond.constantLong RX18 120 (3), Cond.constantLong RX18 124 (525824), Cond.methodLink RX18 165 yX18_isSame, Cond.instanceMethod yX18_isSame, Cond.selects RX18 yX18_isSame yX18_isSame, Cond.code yX18_isSame cX18_isSame 7 (some .boolean), Cond.constantLong RX18 146 (255), Cond.methodLink RX18 150 yX18_endsInStructure, Cond.static yX18_endsInStructure, Cond.code yX18_endsInStructure cX18_endsInStructure 2 (some .boolean), Cond.constantLong RX18 148 (6), Cond.methodLink RX18 154 yX18_identityThere, Cond.instanceMethod yX18_identityThere, Cond.selects RX18 yX18_identityThere yX18_identityThere, Cond.code yX18_identityThere cX18_identityThere 3 (some .int), Cond.methodLink RX18 235 yX13_bears, Cond.instanceMethod yX13_bears, Cond.selects RX13 yX13_bears yX13_bears, Cond.initialized RX13, Cond.code yX13_bears cX13_bears 5 (some .boolean), Cond.fieldLink RX13 72 "ResourceLedgerModel$Looker" "unit" "LResourceLedgerModel$Unit;", Cond.methodLink RX13 76 yX16_abilitiesOf]
def wsX18_execute_r14 : List Cond := [Cond.methodLink RX13 88 yX16_field, Cond.instanceMethod yX16_field, Cond.selects RX16 yX16_field yX16_field, Cond.code yX16_field cX16_field 5 (some .long), Cond.methodLink RX13 82 yX13_abilitiesFor, Cond.instanceMethod yX13_abilitiesFor, Cond.selects RX13 yX13_abilitiesFor yX13_abilitiesFor, Cond.code yX13_abilitiesFor cX13_abilitiesFor 8 (some .int), Cond.methodLink RX13 68 yX13_isReference, Cond.static yX13_isReference, Cond.code yX13_isReference cX13_isReference 3 (some .boolean), Cond.methodLink RX13 58 yX13_bytesOf, Cond.static yX13_bytesOf, Cond.code yX13_bytesOf cX13_bytesOf 3 (some .int), Cond.methodLink RX13 62 yX13_byteOf, Cond.static yX13_byteOf, Cond.code yX13_byteOf cX13_byteOf 3 (some .int), Cond.constantLong RX13 56 (255), Cond.methodLink RX18 240 yX18_measure, Cond.instanceMethod yX18_measure, Cond.selects RX18 yX18_measure yX18_measure, Cond.code yX18_measure cX18_measure 7 none, Cond.methodLink RX18 203 Lib.Math.max.name, Cond.static Lib.Math.max.name]
def wsX18_execute_r15 : List Cond := [Cond.initialized "java/lang/Math", Cond.code Lib.Math.max.name Lib.Math.max.code 2 (some .int), Cond.methodLink RX18 195 yX16_field, Cond.methodLink RX18 199 yX18_depthOf, Cond.instanceMethod yX18_depthOf, Cond.selects RX18 yX18_depthOf yX18_depthOf, Cond.code yX18_depthOf cX18_depthOf 6 (some .int), Cond.methodLink RX18 243 yX13_check, Cond.instanceMethod yX13_check, Cond.selects RX13 yX13_check yX13_check, Cond.code yX13_check cX13_check 4 (some .int), Cond.fieldLink RX13 176 "ResourceLedgerModel$Looker" "now" "I", Cond.fieldLink RX13 231 "ResourceLedgerModel$Looker" "many" "I", Cond.fieldLink RX13 48 "ResourceLedgerModel$Looker" "fault" "I", Cond.fieldLink RX13 251 "ResourceLedgerModel$Looker" "found" "I", Cond.methodLink RX13 245 yX13_begin, Cond.instanceMethod yX13_begin, Cond.selects RX13 yX13_begin yX13_begin, Cond.code yX13_begin cX13_begin 4 none, Cond.fieldLink RX13 92 "ResourceLedgerModel$Looker" "height" "I", Cond.fieldLink RX13 136 "ResourceLedgerModel$Looker" "locals" "I", Cond.fieldLink RX13 7 "ResourceLedgerModel$Looker" "localTypes" "[J", Cond.fieldLink RX13 13 "ResourceLedgerModel$Looker" "came" "[Z", Cond.fieldLink RX13 17 "ResourceLedgerModel$Looker" "led" "[Z"]
def wsX18_execute_r16 : List Cond := [Cond.fieldLink RX13 21 "ResourceLedgerModel$Looker" "thereAt" "[Z", Cond.fieldLink RX13 24 "ResourceLedgerModel$Looker" "originsAt" "[J", Cond.fieldLink RX13 27 "ResourceLedgerModel$Looker" "insideAt" "[Z", Cond.methodLink RX13 228 yX16_instructions, Cond.instanceMethod yX16_instructions, Cond.selects RX16 yX16_instructions yX16_instructions, Cond.code yX16_instructions cX16_instructions 2 (some .int), Cond.methodLink RX13 165 yX16_many, Cond.methodLink RX13 169 yX16_listed, Cond.methodLink RX13 233 yX16_operation, Cond.instanceMethod yX16_operation, Cond.selects RX16 yX16_operation yX16_operation, Cond.code yX16_operation cX16_operation 3 (some .int), Cond.methodLink RX13 236 yX16_operand, Cond.instanceMethod yX16_operand, Cond.selects RX16 yX16_operand yX16_operand, Cond.code yX16_operand cX16_operand 8 (some .long), Cond.methodLink RX16 170 yX16_number_, Cond.instanceMethod yX16_number_, Cond.selects RX16 yX16_number_ yX16_number_, Cond.code yX16_number_ cX16_number_ 6 (some .long), Cond.methodLink RX13 248 yX13_look, Cond.instanceMethod yX13_look, Cond.selects RX13 yX13_look yX13_look]
def wsX18_execute_r17 : List Cond := [Cond.code yX13_look cX13_look 4 none, Cond.fieldLink RX13 39 "ResourceLedgerModel$Looker" "there" "[Z", Cond.fieldLink RX13 42 "ResourceLedgerModel$Looker" "points" "[J", Cond.fieldLink RX13 45 "ResourceLedgerModel$Looker" "within" "[Z", Cond.methodLink RX13 117 yX13_need, Cond.instanceMethod yX13_need, Cond.selects RX13 yX13_need yX13_need, Cond.code yX13_need cX13_need 3 none, Cond.methodLink RX13 52 yX13_fail, Cond.instanceMethod yX13_fail, Cond.selects RX13 yX13_fail yX13_fail, Cond.code yX13_fail cX13_fail 2 none, Cond.methodLink RX13 239 yX13_operate, Cond.instanceMethod yX13_operate, Cond.selects RX13 yX13_operate yX13_operate, Cond.code yX13_operate cX13_operate 4 none, Cond.fieldLink RX13 99 "ResourceLedgerModel$Looker" "taken" "J", Cond.constantLong RX13 126 (3), Cond.constantLong RX13 185 (5), Cond.methodLink RX13 110 yX13_take, Cond.instanceMethod yX13_take, Cond.selects RX13 yX13_take yX13_take, Cond.code yX13_take cX13_take 1 none, Cond.fieldLink RX13 30 "ResourceLedgerModel$Looker" "types" "[J"]
def wsX18_execute_r18 : List Cond := [Cond.fieldLink RX13 33 "ResourceLedgerModel$Looker" "origins" "[J", Cond.fieldLink RX13 103 "ResourceLedgerModel$Looker" "takenOrigins" "J", Cond.fieldLink RX13 36 "ResourceLedgerModel$Looker" "insides" "[Z", Cond.fieldLink RX13 106 "ResourceLedgerModel$Looker" "takenInside" "Z", Cond.methodLink RX13 139 yX13_has, Cond.instanceMethod yX13_has, Cond.selects RX13 yX13_has yX13_has, Cond.code yX13_has cX13_has 4 (some .boolean), Cond.methodLink RX13 194 yX13_giveBack, Cond.instanceMethod yX13_giveBack, Cond.selects RX13 yX13_giveBack yX13_giveBack, Cond.code yX13_giveBack cX13_giveBack 3 none, Cond.constantLong RX13 192 (-280375465082881), Cond.methodLink RX13 133 yX13_take_, Cond.instanceMethod yX13_take_, Cond.selects RX13 yX13_take_ yX13_take_, Cond.code yX13_take_ cX13_take_ 3 none, Cond.methodLink RX13 159 yX13_give, Cond.instanceMethod yX13_give, Cond.selects RX13 yX13_give yX13_give, Cond.code yX13_give cX13_give 3 none, Cond.methodLink RX13 95 yX13_push, Cond.instanceMethod yX13_push, Cond.selects RX13 yX13_push yX13_push]
def wsX18_execute_r19 : List Cond := [Cond.code yX13_push cX13_push 6 none, Cond.methodLink RX13 197 yX13_onLocal, Cond.instanceMethod yX13_onLocal, Cond.selects RX13 yX13_onLocal yX13_onLocal, Cond.code yX13_onLocal cX13_onLocal 6 none, Cond.methodLink RX13 143 yX13_isPointed, Cond.instanceMethod yX13_isPointed, Cond.selects RX13 yX13_isPointed yX13_isPointed, Cond.code yX13_isPointed cX13_isPointed 5 (some .boolean), Cond.methodLink RX13 121 yX13_writes, Cond.static yX13_writes, Cond.code yX13_writes cX13_writes 2 (some .boolean), Cond.methodLink RX13 147 yX13_before, Cond.static yX13_before, Cond.code yX13_before cX13_before 3 (some .long), Cond.methodLink RX13 201 yX13_onReference, Cond.instanceMethod yX13_onReference, Cond.selects RX13 yX13_onReference yX13_onReference, Cond.code yX13_onReference cX13_onReference 6 none, Cond.methodLink RX13 151 yX13_structureType, Cond.static yX13_structureType, Cond.code yX13_structureType cX13_structureType 1 (some .long), Cond.constantLong RX13 66 (1536), Cond.methodLink RX13 155 yX13_takeReference]
def wsX18_execute_r20 : List Cond := [Cond.instanceMethod yX13_takeReference, Cond.selects RX13 yX13_takeReference yX13_takeReference, Cond.code yX13_takeReference cX13_takeReference 5 none, Cond.methodLink RX13 113 yX13_pointed, Cond.static yX13_pointed, Cond.code yX13_pointed cX13_pointed 3 (some .long), Cond.methodLink RX13 162 yX13_isSole, Cond.instanceMethod yX13_isSole, Cond.selects RX13 yX13_isSole yX13_isSole, Cond.code yX13_isSole cX13_isSole 5 (some .boolean), Cond.methodLink RX13 205 yX13_pack, Cond.instanceMethod yX13_pack, Cond.selects RX13 yX13_pack yX13_pack, Cond.code yX13_pack cX13_pack 4 none, Cond.methodLink RX13 208 yX13_call, Cond.instanceMethod yX13_call, Cond.selects RX13 yX13_call yX13_call, Cond.code yX13_call cX13_call 13 none, Cond.methodLink RX13 173 yX16_flags, Cond.methodLink RX13 211 yX13_onNumbers, Cond.instanceMethod yX13_onNumbers, Cond.selects RX13 yX13_onNumbers yX13_onNumbers, Cond.code yX13_onNumbers cX13_onNumbers 2 none, Cond.constantLong RX13 124 (2)]
def wsX18_execute_r21 : List Cond := [Cond.constantLong RX13 183 (40), Cond.methodLink RX13 179 yX13_takeNumbers, Cond.instanceMethod yX13_takeNumbers, Cond.selects RX13 yX13_takeNumbers yX13_takeNumbers, Cond.code yX13_takeNumbers cX13_takeNumbers 2 none, Cond.methodLink RX13 130 yX13_isNumber, Cond.static yX13_isNumber, Cond.code yX13_isNumber cX13_isNumber 2 (some .boolean), Cond.constantLong RX13 128 (4), Cond.methodLink RX13 214 yX13_onResource, Cond.instanceMethod yX13_onResource, Cond.selects RX13 yX13_onResource yX13_onResource, Cond.code yX13_onResource cX13_onResource 6 none, Cond.methodLink RX13 217 yX13_onVector, Cond.instanceMethod yX13_onVector, Cond.selects RX13 yX13_onVector yX13_onVector, Cond.code yX13_onVector cX13_onVector 10 none, Cond.constantLong RX13 187 (1794), Cond.methodLink RX13 189 yX16_element, Cond.instanceMethod yX16_element, Cond.selects RX16 yX16_element yX16_element, Cond.code yX16_element cX16_element 2 (some .long), Cond.methodLink RX13 242 yX13_come, Cond.instanceMethod yX13_come]
def wsX18_execute_r22 : List Cond := [Cond.selects RX13 yX13_come yX13_come, Cond.code yX13_come cX13_come 6 none, Cond.methodLink RX13 220 yX13_meet, Cond.instanceMethod yX13_meet, Cond.selects RX13 yX13_meet yX13_meet, Cond.code yX13_meet cX13_meet 4 none, Cond.methodLink RX13 223 yX13_back, Cond.instanceMethod yX13_back, Cond.selects RX13 yX13_back yX13_back, Cond.code yX13_back cX13_back 3 none, Cond.constantLong RX13 226 (-1), Cond.methodLink RX18 620 yX18_placeCount, Cond.instanceMethod yX18_placeCount, Cond.selects RX18 yX18_placeCount yX18_placeCount, Cond.code yX18_placeCount cX18_placeCount 1 (some .int), Cond.fieldLink RX18 10 "ResourceLedgerModel" "resources" "I", Cond.methodLink RX18 652 yX18_callOne, Cond.instanceMethod yX18_callOne, Cond.selects RX18 yX18_callOne yX18_callOne, Cond.code yX18_callOne cX18_callOne 6 none, Cond.fieldLink RX18 40 "ResourceLedgerModel" "trees" "LResourceLedgerModel$Trees;", Cond.fieldLink RX18 271 "ResourceLedgerModel" "asked" "I", Cond.fieldLink RX18 300 "ResourceLedgerModel" "askedBalances" "[J", Cond.fieldLink RX18 328 "ResourceLedgerModel" "frames" "I"]
def wsX18_execute_r23 : List Cond := [Cond.fieldLink RX18 312 "ResourceLedgerModel" "height" "I", Cond.fieldLink RX18 562 "ResourceLedgerModel" "argumentHighs" "[J", Cond.fieldLink RX18 565 "ResourceLedgerModel" "argumentLows" "[J", Cond.fieldLink RX18 590 "ResourceLedgerModel" "resultTypes" "[B", Cond.fieldLink RX18 309 "ResourceLedgerModel" "stack" "[I", Cond.fieldLink RX18 593 "ResourceLedgerModel" "resultHighs" "[J", Cond.fieldLink RX18 596 "ResourceLedgerModel" "resultLows" "[J", Cond.methodLink RX18 414 yX18_ask, Cond.instanceMethod yX18_ask, Cond.selects RX18 yX18_ask yX18_ask, Cond.code yX18_ask cX18_ask 8 (some .int), Cond.fieldLink RX18 274 "ResourceLedgerModel" "askedSorts" "[I", Cond.fieldLink RX18 277 "ResourceLedgerModel" "askedAddresses" "[J", Cond.fieldLink RX18 280 "ResourceLedgerModel" "askedKinds" "[I", Cond.fieldLink RX18 285 "ResourceLedgerModel" "askedTrees" "[I", Cond.fieldLink RX18 296 "ResourceLedgerModel" "askedThere" "[Z", Cond.methodLink RX18 292 yX18_findResource, Cond.instanceMethod yX18_findResource, Cond.selects RX18 yX18_findResource yX18_findResource, Cond.code yX18_findResource cX18_findResource 5 (some .int), Cond.fieldLink RX18 27 "ResourceLedgerModel" "owners" "[J", Cond.fieldLink RX18 30 "ResourceLedgerModel" "kindsOf" "[I", Cond.methodLink RX18 306 yX18_load, Cond.instanceMethod yX18_load]
def wsX18_execute_r24 : List Cond := [Cond.selects RX18 yX18_load yX18_load, Cond.code yX18_load cX18_load 2 (some .int), Cond.fieldLink RX18 34 "ResourceLedgerModel" "rowAt" "I", Cond.methodLink RX18 37 yX18_loadOne, Cond.instanceMethod yX18_loadOne, Cond.selects RX18 yX18_loadOne yX18_loadOne, Cond.code yX18_loadOne cX18_loadOne 4 (some .int), Cond.fieldLink RX18 44 "ResourceLedgerModel" "rowKinds" "[B", Cond.fieldLink RX18 48 "ResourceLedgerModel" "rowHighs" "[J", Cond.fieldLink RX18 51 "ResourceLedgerModel" "rowLows" "[J", Cond.fieldLink RX18 60 "ResourceLedgerModel" "rowParts" "[I", Cond.methodLink RX18 54 yX15_make, Cond.instanceMethod yX15_make, Cond.selects RX15 yX15_make yX15_make, Cond.initialized RX15, Cond.code yX15_make cX15_make 7 (some .int), Cond.fieldLink RX15 27 "ResourceLedgerModel$Trees" "size" "I", Cond.fieldLink RX15 7 "ResourceLedgerModel$Trees" "kinds" "[B", Cond.fieldLink RX15 13 "ResourceLedgerModel$Trees" "highs" "[J", Cond.fieldLink RX15 17 "ResourceLedgerModel$Trees" "lows" "[J", Cond.fieldLink RX15 20 "ResourceLedgerModel$Trees" "firsts" "[I", Cond.fieldLink RX15 24 "ResourceLedgerModel$Trees" "nexts" "[I", Cond.methodLink RX18 63 yX15_add, Cond.instanceMethod yX15_add]
def wsX18_execute_r25 : List Cond := [Cond.selects RX15 yX15_add yX15_add, Cond.code yX15_add cX15_add 4 none, Cond.methodLink RX18 318 yX18_push, Cond.instanceMethod yX18_push, Cond.selects RX18 yX18_push yX18_push, Cond.code yX18_push cX18_push 3 none, Cond.fieldLink RX18 315 "ResourceLedgerModel" "refers" "[Z", Cond.methodLink RX18 451 yX18_enter, Cond.instanceMethod yX18_enter, Cond.selects RX18 yX18_enter yX18_enter, Cond.code yX18_enter cX18_enter 6 none, Cond.fieldLink RX18 441 "ResourceLedgerModel" "frameUnits" "[I", Cond.fieldLink RX18 444 "ResourceLedgerModel" "frameFunctions" "[I", Cond.fieldLink RX18 447 "ResourceLedgerModel" "nexts" "[I", Cond.fieldLink RX18 347 "ResourceLedgerModel" "locals" "[I", Cond.fieldLink RX18 350 "ResourceLedgerModel" "localRefers" "[Z", Cond.fieldLink RX18 325 "ResourceLedgerModel" "bases" "[I", Cond.methodLink RX18 344 yX18_local, Cond.instanceMethod yX18_local, Cond.selects RX18 yX18_local yX18_local, Cond.code yX18_local cX18_local 2 (some .int), Cond.methodLink RX18 662 yX18_one, Cond.instanceMethod yX18_one, Cond.selects RX18 yX18_one yX18_one]
def wsX18_execute_r26 : List Cond := [Cond.code yX18_one cX18_one 8 none, Cond.fieldLink RX18 369 "ResourceLedgerModel" "unit" "LResourceLedgerModel$Unit;", Cond.methodLink RX18 467 yX16_instructions, Cond.methodLink RX18 331 yX18_slip, Cond.instanceMethod yX18_slip, Cond.selects RX18 yX18_slip yX18_slip, Cond.code yX18_slip cX18_slip 1 none, Cond.fieldLink RX18 322 "ResourceLedgerModel" "slips" "I", Cond.methodLink RX18 470 yX16_operation, Cond.methodLink RX18 473 yX16_operand, Cond.methodLink RX18 476 yX18_giveBack, Cond.instanceMethod yX18_giveBack, Cond.selects RX18 yX18_giveBack yX18_giveBack, Cond.code yX18_giveBack cX18_giveBack 2 none, Cond.methodLink RX18 479 yX18_branch, Cond.instanceMethod yX18_branch, Cond.selects RX18 yX18_branch yX18_branch, Cond.code yX18_branch cX18_branch 5 none, Cond.methodLink RX18 341 yX18_take, Cond.instanceMethod yX18_take, Cond.selects RX18 yX18_take yX18_take, Cond.code yX18_take cX18_take 3 (some .int), Cond.methodLink RX18 337 yX18_takeAny, Cond.instanceMethod yX18_takeAny]
def wsX18_execute_r27 : List Cond := [Cond.selects RX18 yX18_takeAny yX18_takeAny, Cond.code yX18_takeAny cX18_takeAny 2 (some .int), Cond.fieldLink RX18 334 "ResourceLedgerModel" "taken" "I", Cond.methodLink RX18 482 yX18_constant, Cond.instanceMethod yX18_constant, Cond.selects RX18 yX18_constant yX18_constant, Cond.code yX18_constant cX18_constant 6 none, Cond.methodLink RX18 392 yX18_make, Cond.instanceMethod yX18_make, Cond.selects RX18 yX18_make yX18_make, Cond.code yX18_make cX18_make 6 none, Cond.methodLink RX18 485 yX18_onLocal, Cond.instanceMethod yX18_onLocal, Cond.selects RX18 yX18_onLocal yX18_onLocal, Cond.code yX18_onLocal cX18_onLocal 5 none, Cond.methodLink RX18 357 yX15_sizeOf, Cond.instanceMethod yX15_sizeOf, Cond.selects RX15 yX15_sizeOf yX15_sizeOf, Cond.code yX15_sizeOf cX15_sizeOf 4 (some .int), Cond.methodLink RX15 31 yX15_sizeOf, Cond.methodLink RX18 360 yX15_copy, Cond.instanceMethod yX15_copy, Cond.selects RX15 yX15_copy yX15_copy, Cond.code yX15_copy cX15_copy 4 (some .int)]
def wsX18_execute_r28 : List Cond := [Cond.methodLink RX15 35 yX15_make, Cond.methodLink RX15 39 yX15_copy, Cond.methodLink RX15 42 yX15_add, Cond.methodLink RX18 488 yX18_onReference, Cond.instanceMethod yX18_onReference, Cond.selects RX18 yX18_onReference yX18_onReference, Cond.code yX18_onReference cX18_onReference 5 none, Cond.methodLink RX18 363 yX15_become, Cond.instanceMethod yX15_become, Cond.selects RX15 yX15_become yX15_become, Cond.code yX15_become cX15_become 3 none, Cond.methodLink RX18 366 yX15_part, Cond.instanceMethod yX15_part, Cond.selects RX15 yX15_part yX15_part, Cond.code yX15_part cX15_part 7 (some .int), Cond.methodLink RX18 491 yX18_pack, Cond.instanceMethod yX18_pack, Cond.selects RX18 yX18_pack yX18_pack, Cond.code yX18_pack cX18_pack 5 none, Cond.methodLink RX18 494 yX18_unpack, Cond.instanceMethod yX18_unpack, Cond.selects RX18 yX18_unpack yX18_unpack, Cond.code yX18_unpack cX18_unpack 5 none, Cond.methodLink RX18 497 yX18_enterCall]
def wsX18_execute_r29 : List Cond := [Cond.instanceMethod yX18_enterCall, Cond.selects RX18 yX18_enterCall yX18_enterCall, Cond.code yX18_enterCall cX18_enterCall 6 none, Cond.methodLink RX18 448 yX18_coin, Cond.instanceMethod yX18_coin, Cond.selects RX18 yX18_coin yX18_coin, Cond.code yX18_coin cX18_coin 7 none, Cond.constantLong RX18 425 (2), Cond.methodLink RX18 421 yX18_takeLong, Cond.instanceMethod yX18_takeLong, Cond.selects RX18 yX18_takeLong yX18_takeLong, Cond.code yX18_takeLong cX18_takeLong 2 (some .long), Cond.methodLink RX18 459 yX18_isBelow, Cond.static yX18_isBelow, Cond.code yX18_isBelow cX18_isBelow 4 (some .boolean), Cond.constantLong RX18 457 (-9223372036854775808), Cond.methodLink RX18 463 yX18_makeCoin, Cond.instanceMethod yX18_makeCoin, Cond.selects RX18 yX18_makeCoin yX18_makeCoin, Cond.code yX18_makeCoin cX18_makeCoin 4 none, Cond.methodLink RX18 500 yX18_shift, Cond.instanceMethod yX18_shift, Cond.selects RX18 yX18_shift yX18_shift, Cond.code yX18_shift cX18_shift 5 none]
def wsX18_execute_r30 : List Cond := [Cond.fieldLink RX18 373 "ResourceLedgerModel" "wide" "LResourceLedgerModel$Wide;", Cond.methodLink RX18 377 yX18_bitsOf, Cond.static yX18_bitsOf, Cond.code yX18_bitsOf cX18_bitsOf 1 (some .int), Cond.methodLink RX18 403 yX17_shift, Cond.instanceMethod yX17_shift, Cond.selects RX17 yX17_shift yX17_shift, Cond.initialized RX17, Cond.code yX17_shift cX17_shift 9 none, Cond.fieldLink RX17 25 "ResourceLedgerModel$Wide" "high" "J", Cond.fieldLink RX17 29 "ResourceLedgerModel$Wide" "low" "J", Cond.constantLong RX17 69 (255), Cond.methodLink RX18 503 yX18_reckon, Cond.instanceMethod yX18_reckon, Cond.selects RX18 yX18_reckon yX18_reckon, Cond.code yX18_reckon cX18_reckon 15 none, Cond.methodLink RX18 380 yX17_reckon, Cond.instanceMethod yX17_reckon, Cond.selects RX17 yX17_reckon yX17_reckon, Cond.code yX17_reckon cX17_reckon 11 (some .boolean), Cond.fieldLink RX17 7 "ResourceLedgerModel$Wide" "a" "[I", Cond.fieldLink RX17 13 "ResourceLedgerModel$Wide" "b" "[I", Cond.methodLink RX17 40 yX17_lay, Cond.static yX17_lay]
def wsX18_execute_r31 : List Cond := [Cond.code yX17_lay cX17_lay 6 none, Cond.constantLong RX17 19 (65535), Cond.methodLink RX17 44 yX17_clear, Cond.instanceMethod yX17_clear, Cond.selects RX17 yX17_clear yX17_clear, Cond.code yX17_clear cX17_clear 2 none, Cond.fieldLink RX17 16 "ResourceLedgerModel$Wide" "\x72" "[I", Cond.methodLink RX17 47 yX17_add, Cond.instanceMethod yX17_add, Cond.selects RX17 yX17_add yX17_add, Cond.code yX17_add cX17_add 5 (some .boolean), Cond.constant RX17 65 (65535), Cond.methodLink RX17 66 yX17_result, Cond.instanceMethod yX17_result, Cond.selects RX17 yX17_result yX17_result, Cond.code yX17_result cX17_result 3 (some .boolean), Cond.methodLink RX17 21 yX17_four, Cond.static yX17_four, Cond.code yX17_four cX17_four 2 (some .long), Cond.methodLink RX17 32 yX17_isOf, Cond.static yX17_isOf, Cond.code yX17_isOf cX17_isOf 5 (some .boolean), Cond.methodLink RX17 51 yX17_compare, Cond.static yX17_compare]
def wsX18_execute_r32 : List Cond := [Cond.code yX17_compare cX17_compare 8 (some .int), Cond.constantLong RX17 38 (-9223372036854775808), Cond.methodLink RX17 55 yX17_subtract, Cond.instanceMethod yX17_subtract, Cond.selects RX17 yX17_subtract yX17_subtract, Cond.code yX17_subtract cX17_subtract 5 (some .boolean), Cond.methodLink RX17 58 yX17_multiply, Cond.instanceMethod yX17_multiply, Cond.selects RX17 yX17_multiply yX17_multiply, Cond.code yX17_multiply cX17_multiply 8 (some .boolean), Cond.methodLink RX17 61 yX17_divide, Cond.instanceMethod yX17_divide, Cond.selects RX17 yX17_divide yX17_divide, Cond.code yX17_divide cX17_divide 24 (some .boolean), Cond.methodLink RX18 395 yX15_isAlike, Cond.instanceMethod yX15_isAlike, Cond.selects RX15 yX15_isAlike yX15_isAlike, Cond.code yX15_isAlike cX15_isAlike 5 (some .boolean), Cond.methodLink RX15 46 yX15_isAlike, Cond.methodLink RX18 399 yX17_compare, Cond.methodLink RX18 505 yX18_convert, Cond.instanceMethod yX18_convert, Cond.selects RX18 yX18_convert yX18_convert, Cond.code yX18_convert cX18_convert 3 none]
def wsX18_execute_r33 : List Cond := [Cond.methodLink RX18 407 yX17_isOf, Cond.methodLink RX18 508 yX18_onResource, Cond.instanceMethod yX18_onResource, Cond.selects RX18 yX18_onResource yX18_onResource, Cond.code yX18_onResource cX18_onResource 6 none, Cond.methodLink RX18 511 yX18_onVector, Cond.instanceMethod yX18_onVector, Cond.selects RX18 yX18_onVector yX18_onVector, Cond.code yX18_onVector cX18_onVector 11 none, Cond.methodLink RX18 418 yX18_digest, Cond.instanceMethod yX18_digest, Cond.selects RX18 yX18_digest yX18_digest, Cond.code yX18_digest cX18_digest 4 none, Cond.fieldLink RX18 94 "ResourceLedgerModel" "digester" "LResourceLedgerModel$Digester;", Cond.methodLink RX18 80 yX15_count, Cond.instanceMethod yX15_count, Cond.selects RX15 yX15_count yX15_count, Cond.code yX15_count cX15_count 4 (some .int), Cond.methodLink RX18 433 yX12_begin, Cond.instanceMethod yX12_begin, Cond.selects RX12 yX12_begin yX12_begin, Cond.initialized RX12, Cond.code yX12_begin cX12_begin 1 none, Cond.fieldLink RX12 20 "ResourceLedgerModel$Digester" "size" "I"]
def wsX18_execute_r34 : List Cond := [Cond.methodLink RX18 98 yX12_add, Cond.instanceMethod yX12_add, Cond.selects RX12 yX12_add yX12_add, Cond.code yX12_add cX12_add 2 none, Cond.fieldLink RX12 7 "ResourceLedgerModel$Digester" "message" "[B", Cond.methodLink RX18 436 yX12_end, Cond.instanceMethod yX12_end, Cond.selects RX12 yX12_end yX12_end, Cond.code yX12_end cX12_end 3 none, Cond.fieldLink RX12 13 "ResourceLedgerModel$Digester" "words" "[J", Cond.constantLong RX12 30 (1779033703), Cond.constantLong RX12 32 (3144134277), Cond.constantLong RX12 34 (1013904242), Cond.constantLong RX12 36 (2773480762), Cond.constantLong RX12 38 (1359893119), Cond.constantLong RX12 40 (2600822924), Cond.constantLong RX12 42 (528734635), Cond.constantLong RX12 44 (1541459225), Cond.constantLong RX12 46 (8), Cond.methodLink RX12 24 yX12_add, Cond.methodLink RX12 48 yX12_addNumber, Cond.instanceMethod yX12_addNumber, Cond.selects RX12 yX12_addNumber yX12_addNumber, Cond.code yX12_addNumber cX12_addNumber 5 none]
def wsX18_execute_r35 : List Cond := [Cond.methodLink RX12 52 yX12_block, Cond.instanceMethod yX12_block, Cond.selects RX12 yX12_block yX12_block, Cond.code yX12_block cX12_block 23 none, Cond.constantLong RX12 55 (256), Cond.fieldLink RX12 17 "ResourceLedgerModel$Digester" "schedule" "[J", Cond.constantLong RX12 28 (4294967295), Cond.fieldLink RX12 61 "ResourceLedgerModel$Digester" "CONSTANTS" "[J", Cond.methodLink RX12 57 yX12_turned, Cond.static yX12_turned, Cond.code yX12_turned cX12_turned 3 (some .long), Cond.methodLink RX18 438 yX12_byteOf, Cond.instanceMethod yX12_byteOf, Cond.selects RX12 yX12_byteOf yX12_byteOf, Cond.code yX12_byteOf cX12_byteOf 2 (some .int), Cond.constantLong RX12 64 (255), Cond.methodLink RX18 427 yX15_takeLast, Cond.instanceMethod yX15_takeLast, Cond.selects RX15 yX15_takeLast yX15_takeLast, Cond.code yX15_takeLast cX15_takeLast 4 (some .int), Cond.methodLink RX18 430 yX15_swap, Cond.instanceMethod yX15_swap, Cond.selects RX15 yX15_swap yX15_swap, Cond.code yX15_swap cX15_swap 9 none]
def wsX18_execute_r36 : List Cond := [Cond.methodLink RX15 50 yX15_become, Cond.methodLink RX18 665 yX18_isTooMuch, Cond.instanceMethod yX18_isTooMuch, Cond.selects RX18 yX18_isTooMuch yX18_isTooMuch, Cond.code yX18_isTooMuch cX18_isTooMuch 5 (some .boolean), Cond.methodLink RX18 668 yX18_settle, Cond.instanceMethod yX18_settle, Cond.selects RX18 yX18_settle yX18_settle, Cond.code yX18_settle cX18_settle 3 none, Cond.methodLink RX18 671 yX18_removeResource, Cond.instanceMethod yX18_removeResource, Cond.selects RX18 yX18_removeResource yX18_removeResource, Cond.code yX18_removeResource cX18_removeResource 3 none, Cond.methodLink RX18 623 yX18_newAccount, Cond.instanceMethod yX18_newAccount, Cond.selects RX18 yX18_newAccount yX18_newAccount, Cond.code yX18_newAccount cX18_newAccount 3 (some .int), Cond.methodLink RX18 674 yX18_keep, Cond.instanceMethod yX18_keep, Cond.selects RX18 yX18_keep yX18_keep, Cond.code yX18_keep cX18_keep 3 none, Cond.methodLink RX18 67 yX18_keepOne, Cond.instanceMethod yX18_keepOne, Cond.selects RX18 yX18_keepOne yX18_keepOne]
def wsX18_execute_r37 : List Cond := [Cond.code yX18_keepOne cX18_keepOne 4 none]
def wsX18_execute : List Cond := .code yX18_execute cX18_execute 3 (some .int) :: ((wsX18_execute_r1 ++ (wsX18_execute_r2 ++ (wsX18_execute_r3 ++ (wsX18_execute_r4 ++ (wsX18_execute_r5 ++ (wsX18_execute_r6 ++ (wsX18_execute_r7 ++ (wsX18_execute_r8 ++ (wsX18_execute_r9 ++ (wsX18_execute_r10 ++ (wsX18_execute_r11 ++ (wsX18_execute_r12 ++ (wsX18_execute_r13 ++ (wsX18_execute_r14 ++ (wsX18_execute_r15 ++ (wsX18_execute_r16 ++ (wsX18_execute_r17 ++ (wsX18_execute_r18 ++ (wsX18_execute_r19 ++ (wsX18_execute_r20 ++ (wsX18_execute_r21 ++ (wsX18_execute_r22 ++ (wsX18_execute_r23 ++ (wsX18_execute_r24 ++ (wsX18_execute_r25 ++ (wsX18_execute_r26 ++ (wsX18_execute_r27 ++ (wsX18_execute_r28 ++ (wsX18_execute_r29 ++ (wsX18_execute_r30 ++ (wsX18_execute_r31 ++ (wsX18_execute_r32 ++ (wsX18_execute_r33 ++ (wsX18_execute_r34 ++ (wsX18_execute_r35 ++ (wsX18_execute_r36 ++ wsX18_execute_r37)))))))))))))))))))))))))))))))))))) ++ wsX180 ++ wsX160 ++ wsX130 ++ wsX150 ++ wsX170 ++ wsX120)
def wsX18_isDone : List Cond := .code yX18_isDone cX18_isDone 2 (some .boolean) :: ([.fieldLink RX18 628 "ResourceLedgerModel" "done" "I"] ++ wsX180)
def wsX18_told : List Cond := .code yX18_told cX18_told 3 (some .int) :: ([.fieldLink RX18 626 "ResourceLedgerModel" "count" "I", .fieldLink RX18 575 "ResourceLedgerModel" "outcomes" "[I", .fieldLink RX18 578 "ResourceLedgerModel" "gases" "[I", .fieldLink RX18 587 "ResourceLedgerModel" "resultCounts" "[I", .fieldLink RX18 581 "ResourceLedgerModel" "faultPlaces" "[I", .methodLink RX18 677 yX18_isDone, .instanceMethod yX18_isDone, .selects RX18 yX18_isDone yX18_isDone, .initialized RX18, .code yX18_isDone cX18_isDone 2 (some .boolean), .fieldLink RX18 628 "ResourceLedgerModel" "done" "I"] ++ wsX180)
def wsX18_code : List Cond := .code yX18_code cX18_code 2 (some .long) :: ([.fieldLink RX18 584 "ResourceLedgerModel" "codes" "[J", .methodLink RX18 677 yX18_isDone, .instanceMethod yX18_isDone, .selects RX18 yX18_isDone yX18_isDone, .initialized RX18, .code yX18_isDone cX18_isDone 2 (some .boolean), .fieldLink RX18 628 "ResourceLedgerModel" "done" "I"] ++ wsX180)
def wsX18_result : List Cond := .code yX18_result cX18_result 5 (some .long) :: ([.fieldLink RX18 587 "ResourceLedgerModel" "resultCounts" "[I", .fieldLink RX18 596 "ResourceLedgerModel" "resultLows" "[J", .fieldLink RX18 593 "ResourceLedgerModel" "resultHighs" "[J", .fieldLink RX18 590 "ResourceLedgerModel" "resultTypes" "[B", .methodLink RX18 677 yX18_isDone, .instanceMethod yX18_isDone, .selects RX18 yX18_isDone yX18_isDone, .initialized RX18, .code yX18_isDone cX18_isDone 2 (some .boolean), .fieldLink RX18 628 "ResourceLedgerModel" "done" "I"] ++ wsX180)
def wsX18_account : List Cond := .code yX18_account cX18_account 5 (some .long) :: ([.fieldLink RX18 303 "ResourceLedgerModel" "balances" "[J", .fieldLink RX18 519 "ResourceLedgerModel" "sequences" "[J", .methodLink RX18 288 yX18_findAccount, .instanceMethod yX18_findAccount, .selects RX18 yX18_findAccount yX18_findAccount, .initialized RX18, .code yX18_findAccount cX18_findAccount 4 (some .int), .fieldLink RX18 1 "ResourceLedgerModel" "accounts" "I", .fieldLink RX18 13 "ResourceLedgerModel" "addresses" "[J"] ++ wsX180)
def wsX18_coins : List Cond := .code yX18_coins cX18_coins 5 (some .long) :: ([.fieldLink RX18 612 "ResourceLedgerModel" "minted" "J", .fieldLink RX18 615 "ResourceLedgerModel" "burned" "J", .fieldLink RX18 1 "ResourceLedgerModel" "accounts" "I", .fieldLink RX18 303 "ResourceLedgerModel" "balances" "[J", .fieldLink RX18 10 "ResourceLedgerModel" "resources" "I", .methodLink RX18 680 yX18_coinsIn, .instanceMethod yX18_coinsIn, .selects RX18 yX18_coinsIn yX18_coinsIn, .initialized RX18, .code yX18_coinsIn cX18_coinsIn 6 (some .long), .fieldLink RX18 60 "ResourceLedgerModel" "rowParts" "[I", .fieldLink RX18 44 "ResourceLedgerModel" "rowKinds" "[B", .fieldLink RX18 51 "ResourceLedgerModel" "rowLows" "[J"] ++ wsX180)
def wsX18_places : List Cond := .code yX18_places cX18_places 2 (some .int) :: ([.fieldLink RX18 7 "ResourceLedgerModel" "modules" "I", .fieldLink RX18 10 "ResourceLedgerModel" "resources" "I", .fieldLink RX18 1 "ResourceLedgerModel" "accounts" "I", .methodLink RX18 620 yX18_placeCount, .instanceMethod yX18_placeCount, .selects RX18 yX18_placeCount yX18_placeCount, .initialized RX18, .code yX18_placeCount cX18_placeCount 1 (some .int)] ++ wsX180)
def wsX18_resource_r1 : List Cond := [Cond.fieldLink RX18 684 "ResourceLedgerModel" "shownSize" "I", Cond.constant RX18 637 (65535), Cond.fieldLink RX18 94 "ResourceLedgerModel" "digester" "LResourceLedgerModel$Digester;", Cond.fieldLink RX18 599 "ResourceLedgerModel" "shown" "[B", Cond.methodLink RX18 292 yX18_findResource, Cond.instanceMethod yX18_findResource, Cond.selects RX18 yX18_findResource yX18_findResource, Cond.initialized RX18, Cond.code yX18_findResource cX18_findResource 5 (some .int), Cond.fieldLink RX18 10 "ResourceLedgerModel" "resources" "I", Cond.fieldLink RX18 27 "ResourceLedgerModel" "owners" "[J", Cond.fieldLink RX18 30 "ResourceLedgerModel" "kindsOf" "[I", Cond.methodLink RX18 433 yX12_begin, Cond.instanceMethod yX12_begin, Cond.selects RX12 yX12_begin yX12_begin, Cond.initialized RX12, Cond.code yX12_begin cX12_begin 1 none, Cond.fieldLink RX12 20 "ResourceLedgerModel$Digester" "size" "I", Cond.methodLink RX18 687 yX18_addBytes, Cond.instanceMethod yX18_addBytes, Cond.selects RX18 yX18_addBytes yX18_addBytes, Cond.code yX18_addBytes cX18_addBytes 2 none, Cond.fieldLink RX18 34 "ResourceLedgerModel" "rowAt" "I", Cond.methodLink RX18 90 yX18_addOne]
def wsX18_resource_r2 : List Cond := [Cond.instanceMethod yX18_addOne, Cond.selects RX18 yX18_addOne yX18_addOne, Cond.code yX18_addOne cX18_addOne 3 none, Cond.fieldLink RX18 44 "ResourceLedgerModel" "rowKinds" "[B", Cond.fieldLink RX18 51 "ResourceLedgerModel" "rowLows" "[J", Cond.fieldLink RX18 48 "ResourceLedgerModel" "rowHighs" "[J", Cond.fieldLink RX18 60 "ResourceLedgerModel" "rowParts" "[I", Cond.methodLink RX18 98 yX12_add, Cond.instanceMethod yX12_add, Cond.selects RX12 yX12_add yX12_add, Cond.code yX12_add cX12_add 2 none, Cond.fieldLink RX12 7 "ResourceLedgerModel$Digester" "message" "[B", Cond.methodLink RX18 102 yX12_addNumber, Cond.instanceMethod yX12_addNumber, Cond.selects RX12 yX12_addNumber yX12_addNumber, Cond.code yX12_addNumber cX12_addNumber 5 none, Cond.methodLink RX12 24 yX12_add]
def wsX18_resource : List Cond := .code yX18_resource cX18_resource 7 (some .int) :: ((wsX18_resource_r1 ++ wsX18_resource_r2) ++ wsX180 ++ wsX120)
def wsX18_byteOf : List Cond := .code yX18_byteOf cX18_byteOf 2 (some .int) :: ([.fieldLink RX18 684 "ResourceLedgerModel" "shownSize" "I", .fieldLink RX18 599 "ResourceLedgerModel" "shown" "[B"] ++ wsX180)
def wsX18_root_r1 : List Cond := [Cond.fieldLink RX18 531 "ResourceLedgerModel" "roots" "LResourceLedgerModel$Roots;", Cond.fieldLink RX18 94 "ResourceLedgerModel" "digester" "LResourceLedgerModel$Digester;", Cond.fieldLink RX18 1 "ResourceLedgerModel" "accounts" "I", Cond.fieldLink RX18 13 "ResourceLedgerModel" "addresses" "[J", Cond.fieldLink RX18 602 "ResourceLedgerModel" "key" "[J", Cond.fieldLink RX18 303 "ResourceLedgerModel" "balances" "[J", Cond.fieldLink RX18 519 "ResourceLedgerModel" "sequences" "[J", Cond.fieldLink RX18 605 "ResourceLedgerModel" "value" "[J", Cond.fieldLink RX18 7 "ResourceLedgerModel" "modules" "I", Cond.fieldLink RX18 17 "ResourceLedgerModel" "units" "[LResourceLedgerModel$Unit;", Cond.fieldLink RX18 10 "ResourceLedgerModel" "resources" "I", Cond.fieldLink RX18 27 "ResourceLedgerModel" "owners" "[J", Cond.fieldLink RX18 30 "ResourceLedgerModel" "kindsOf" "[I", Cond.methodLink RX18 697 yX14_begin, Cond.instanceMethod yX14_begin, Cond.selects RX14 yX14_begin yX14_begin, Cond.initialized RX14, Cond.code yX14_begin cX14_begin 1 none, Cond.fieldLink RX14 39 "ResourceLedgerModel$Roots" "count" "I", Cond.methodLink RX18 433 yX12_begin, Cond.instanceMethod yX12_begin, Cond.selects RX12 yX12_begin yX12_begin, Cond.initialized RX12, Cond.code yX12_begin cX12_begin 1 none]
def wsX18_root_r2 : List Cond := [Cond.fieldLink RX12 20 "ResourceLedgerModel$Digester" "size" "I", Cond.methodLink RX18 98 yX12_add, Cond.instanceMethod yX12_add, Cond.selects RX12 yX12_add yX12_add, Cond.code yX12_add cX12_add 2 none, Cond.fieldLink RX12 7 "ResourceLedgerModel$Digester" "message" "[B", Cond.methodLink RX18 102 yX12_addNumber, Cond.instanceMethod yX12_addNumber, Cond.selects RX12 yX12_addNumber yX12_addNumber, Cond.code yX12_addNumber cX12_addNumber 5 none, Cond.methodLink RX12 24 yX12_add, Cond.methodLink RX18 698 yX18_keepFour, Cond.instanceMethod yX18_keepFour, Cond.selects RX18 yX18_keepFour yX18_keepFour, Cond.initialized RX18, Cond.code yX18_keepFour cX18_keepFour 3 none, Cond.methodLink RX18 436 yX12_end, Cond.instanceMethod yX12_end, Cond.selects RX12 yX12_end yX12_end, Cond.code yX12_end cX12_end 3 none, Cond.fieldLink RX12 13 "ResourceLedgerModel$Digester" "words" "[J", Cond.constantLong RX12 30 (1779033703), Cond.constantLong RX12 32 (3144134277), Cond.constantLong RX12 34 (1013904242)]
def wsX18_root_r3 : List Cond := [Cond.constantLong RX12 36 (2773480762), Cond.constantLong RX12 38 (1359893119), Cond.constantLong RX12 40 (2600822924), Cond.constantLong RX12 42 (528734635), Cond.constantLong RX12 44 (1541459225), Cond.constantLong RX12 46 (8), Cond.methodLink RX12 48 yX12_addNumber, Cond.methodLink RX12 52 yX12_block, Cond.instanceMethod yX12_block, Cond.selects RX12 yX12_block yX12_block, Cond.code yX12_block cX12_block 23 none, Cond.constantLong RX12 55 (256), Cond.fieldLink RX12 17 "ResourceLedgerModel$Digester" "schedule" "[J", Cond.constantLong RX12 28 (4294967295), Cond.fieldLink RX12 61 "ResourceLedgerModel$Digester" "CONSTANTS" "[J", Cond.methodLink RX12 57 yX12_turned, Cond.static yX12_turned, Cond.code yX12_turned cX12_turned 3 (some .long), Cond.methodLink RX18 694 yX12_four, Cond.instanceMethod yX12_four, Cond.selects RX12 yX12_four yX12_four, Cond.code yX12_four cX12_four 2 (some .long), Cond.methodLink RX18 702 yX14_put, Cond.instanceMethod yX14_put]
def wsX18_root_r4 : List Cond := [Cond.selects RX14 yX14_put yX14_put, Cond.code yX14_put cX14_put 10 none, Cond.fieldLink RX14 7 "ResourceLedgerModel$Roots" "keys" "[J", Cond.fieldLink RX14 13 "ResourceLedgerModel$Roots" "values" "[J", Cond.fieldLink RX14 16 "ResourceLedgerModel$Roots" "sorts" "[I", Cond.fieldLink RX14 20 "ResourceLedgerModel$Roots" "addresses" "[J", Cond.fieldLink RX14 23 "ResourceLedgerModel$Roots" "kinds" "[I", Cond.methodLink RX14 51 yX14_isBehind, Cond.instanceMethod yX14_isBehind, Cond.selects RX14 yX14_isBehind yX14_isBehind, Cond.code yX14_isBehind cX14_isBehind 5 (some .boolean), Cond.methodLink RX14 47 yX14_order, Cond.static yX14_order, Cond.code yX14_order cX14_order 4 (some .int), Cond.constantLong RX14 45 (-9223372036854775808), Cond.methodLink RX14 55 yX14_isAt, Cond.instanceMethod yX14_isAt, Cond.selects RX14 yX14_isAt yX14_isAt, Cond.code yX14_isAt cX14_isAt 5 (some .boolean), Cond.methodLink RX14 58 yX14_isLess, Cond.instanceMethod yX14_isLess, Cond.selects RX14 yX14_isLess yX14_isLess, Cond.code yX14_isLess cX14_isLess 6 (some .boolean), Cond.methodLink RX14 62 yX14_keep]
def wsX18_root_r5 : List Cond := [Cond.instanceMethod yX14_keep, Cond.selects RX14 yX14_keep yX14_keep, Cond.code yX14_keep cX14_keep 9 none, Cond.methodLink RX18 21 yX16_number, Cond.instanceMethod yX16_number, Cond.selects RX16 yX16_number yX16_number, Cond.initialized RX16, Cond.code yX16_number cX16_number 1 (some .int), Cond.methodLink RX16 82 yX16_shortAt, Cond.instanceMethod yX16_shortAt, Cond.selects RX16 yX16_shortAt yX16_shortAt, Cond.code yX16_shortAt cX16_shortAt 2 (some .int), Cond.methodLink RX16 46 yX16_byteAt, Cond.instanceMethod yX16_byteAt, Cond.selects RX16 yX16_byteAt yX16_byteAt, Cond.code yX16_byteAt cX16_byteAt 2 (some .int), Cond.fieldLink RX16 43 "ResourceLedgerModel$Unit" "length" "I", Cond.fieldLink RX16 7 "ResourceLedgerModel$Unit" "bytes" "[B", Cond.methodLink RX18 687 yX18_addBytes, Cond.instanceMethod yX18_addBytes, Cond.selects RX18 yX18_addBytes yX18_addBytes, Cond.code yX18_addBytes cX18_addBytes 2 none, Cond.fieldLink RX18 34 "ResourceLedgerModel" "rowAt" "I", Cond.methodLink RX18 90 yX18_addOne]
def wsX18_root_r6 : List Cond := [Cond.instanceMethod yX18_addOne, Cond.selects RX18 yX18_addOne yX18_addOne, Cond.code yX18_addOne cX18_addOne 3 none, Cond.fieldLink RX18 44 "ResourceLedgerModel" "rowKinds" "[B", Cond.fieldLink RX18 51 "ResourceLedgerModel" "rowLows" "[J", Cond.fieldLink RX18 48 "ResourceLedgerModel" "rowHighs" "[J", Cond.fieldLink RX18 60 "ResourceLedgerModel" "rowParts" "[I", Cond.methodLink RX18 712 yX14_all, Cond.instanceMethod yX14_all, Cond.selects RX14 yX14_all yX14_all, Cond.code yX14_all cX14_all 3 none, Cond.fieldLink RX14 79 "ResourceLedgerModel$Roots" "nodes" "I", Cond.fieldLink RX14 29 "ResourceLedgerModel$Roots" "begins" "[I", Cond.fieldLink RX14 32 "ResourceLedgerModel$Roots" "sizes" "[I", Cond.fieldLink RX14 35 "ResourceLedgerModel$Roots" "digester" "LResourceLedgerModel$Digester;", Cond.methodLink RX14 99 Lib.Math.max.name, Cond.static Lib.Math.max.name, Cond.initialized "java/lang/Math", Cond.code Lib.Math.max.name Lib.Math.max.code 2 (some .int), Cond.methodLink RX14 82 yX12_begin, Cond.methodLink RX14 85 yX12_add, Cond.methodLink RX14 89 yX14_add, Cond.instanceMethod yX14_add, Cond.selects RX14 yX14_add yX14_add]
def wsX18_root_r7 : List Cond := [Cond.code yX14_add cX14_add 5 none, Cond.methodLink RX14 66 yX12_addNumber, Cond.methodLink RX14 92 yX14_keepHash, Cond.instanceMethod yX14_keepHash, Cond.selects RX14 yX14_keepHash yX14_keepHash, Cond.code yX14_keepHash cX14_keepHash 3 none, Cond.fieldLink RX14 26 "ResourceLedgerModel$Roots" "hashes" "[J", Cond.methodLink RX14 72 yX12_end, Cond.methodLink RX14 75 yX12_four, Cond.methodLink RX14 95 yX14_parting, Cond.instanceMethod yX14_parting, Cond.selects RX14 yX14_parting yX14_parting, Cond.code yX14_parting cX14_parting 3 (some .int), Cond.methodLink RX14 105 yX14_level, Cond.instanceMethod yX14_level, Cond.selects RX14 yX14_level yX14_level, Cond.code yX14_level cX14_level 8 none, Cond.methodLink RX14 108 yX14_agree, Cond.instanceMethod yX14_agree, Cond.selects RX14 yX14_agree yX14_agree, Cond.code yX14_agree cX14_agree 8 (some .boolean), Cond.methodLink RX18 715 yX14_get, Cond.instanceMethod yX14_get, Cond.selects RX14 yX14_get yX14_get]
def wsX18_root_r8 : List Cond := [Cond.code yX14_get cX14_get 2 (some .long)]
def wsX18_root : List Cond := .code yX18_root cX18_root 4 (some .long) :: ((wsX18_root_r1 ++ (wsX18_root_r2 ++ (wsX18_root_r3 ++ (wsX18_root_r4 ++ (wsX18_root_r5 ++ (wsX18_root_r6 ++ (wsX18_root_r7 ++ wsX18_root_r8))))))) ++ wsX180 ++ wsX160 ++ wsX140 ++ wsX120)
def wsX18_slips : List Cond := .code yX18_slips cX18_slips 1 (some .int) :: ([.fieldLink RX18 322 "ResourceLedgerModel" "slips" "I"] ++ wsX180)
theorem dX4_slipCount_0 : decode cX4_slipCount 0 = .ok (.aload_n 0, 1) := by decide +kernel
theorem dX4_slipCount_1 : decode cX4_slipCount 1 = .ok (.getfield 12, 3) := by decide +kernel
theorem dX4_slipCount_4 : decode cX4_slipCount 4 = .ok (.getfield 71, 3) := by decide +kernel
theorem dX4_slipCount_7 : decode cX4_slipCount 7 = .ok (.ireturn, 1) := by decide +kernel
theorem dX7_placeCount_0 : decode cX7_placeCount 0 = .ok (.aload_n 0, 1) := by decide +kernel
theorem dX7_placeCount_1 : decode cX7_placeCount 1 = .ok (.getfield 51, 3) := by decide +kernel
theorem dX7_placeCount_4 : decode cX7_placeCount 4 = .ok (.aload_n 0, 1) := by decide +kernel
theorem dX7_placeCount_5 : decode cX7_placeCount 5 = .ok (.getfield 55, 3) := by decide +kernel
theorem dX7_placeCount_8 : decode cX7_placeCount 8 = .ok (.iadd, 1) := by decide +kernel
theorem dX7_placeCount_9 : decode cX7_placeCount 9 = .ok (.aload_n 0, 1) := by decide +kernel
theorem dX7_placeCount_10 : decode cX7_placeCount 10 = .ok (.getfield 58, 3) := by decide +kernel
theorem dX7_placeCount_13 : decode cX7_placeCount 13 = .ok (.iadd, 1) := by decide +kernel
theorem dX7_placeCount_14 : decode cX7_placeCount 14 = .ok (.ireturn, 1) := by decide +kernel
theorem dX7_findAccount_0 : decode cX7_findAccount 0 = .ok (.iconst 0, 1) := by decide +kernel
theorem dX7_findAccount_1 : decode cX7_findAccount 1 = .ok (.istore_n 3, 1) := by decide +kernel
theorem dX7_findAccount_2 : decode cX7_findAccount 2 = .ok (.iload_n 3, 1) := by decide +kernel
theorem dX7_findAccount_3 : decode cX7_findAccount 3 = .ok (.aload_n 0, 1) := by decide +kernel
theorem dX7_findAccount_4 : decode cX7_findAccount 4 = .ok (.getfield 51, 3) := by decide +kernel
theorem dX7_findAccount_7 : decode cX7_findAccount 7 = .ok (.if_icmp .ge 22, 3) := by decide +kernel
theorem dX7_findAccount_10 : decode cX7_findAccount 10 = .ok (.aload_n 0, 1) := by decide +kernel
theorem dX7_findAccount_11 : decode cX7_findAccount 11 = .ok (.getfield 9, 3) := by decide +kernel
theorem dX7_findAccount_14 : decode cX7_findAccount 14 = .ok (.iload_n 3, 1) := by decide +kernel
theorem dX7_findAccount_15 : decode cX7_findAccount 15 = .ok (.laload, 1) := by decide +kernel
theorem dX7_findAccount_16 : decode cX7_findAccount 16 = .ok (.lload_n 1, 1) := by decide +kernel
theorem dX7_findAccount_17 : decode cX7_findAccount 17 = .ok (.lcmp, 1) := by decide +kernel
theorem dX7_findAccount_18 : decode cX7_findAccount 18 = .ok (.ifCond .ne 5, 3) := by decide +kernel
theorem dX7_findAccount_21 : decode cX7_findAccount 21 = .ok (.iload_n 3, 1) := by decide +kernel
theorem dX7_findAccount_22 : decode cX7_findAccount 22 = .ok (.ireturn, 1) := by decide +kernel
theorem dX7_findAccount_23 : decode cX7_findAccount 23 = .ok (.iinc 3 1, 3) := by decide +kernel
theorem dX7_findAccount_26 : decode cX7_findAccount 26 = .ok (.goto (-24), 3) := by decide +kernel
theorem dX7_findAccount_29 : decode cX7_findAccount 29 = .ok (.iconst (-1), 1) := by decide +kernel
theorem dX7_findAccount_30 : decode cX7_findAccount 30 = .ok (.ireturn, 1) := by decide +kernel
theorem dX7_openAccount_0 : decode cX7_openAccount 0 = .ok (.aload_n 0, 1) := by decide +kernel
theorem dX7_openAccount_1 : decode cX7_openAccount 1 = .ok (.getfield 51, 3) := by decide +kernel
theorem dX7_openAccount_4 : decode cX7_openAccount 4 = .ok (.sipush 255, 3) := by decide +kernel
theorem dX7_openAccount_7 : decode cX7_openAccount 7 = .ok (.invokestatic 61, 3) := by decide +kernel
theorem dX7_openAccount_10 : decode cX7_openAccount 10 = .ok (.istore_n 3, 1) := by decide +kernel
theorem dX7_openAccount_11 : decode cX7_openAccount 11 = .ok (.aload_n 0, 1) := by decide +kernel
theorem dX7_openAccount_12 : decode cX7_openAccount 12 = .ok (.getfield 9, 3) := by decide +kernel
theorem dX7_openAccount_15 : decode cX7_openAccount 15 = .ok (.iload_n 3, 1) := by decide +kernel
theorem dX7_openAccount_16 : decode cX7_openAccount 16 = .ok (.lload_n 1, 1) := by decide +kernel
theorem dX7_openAccount_17 : decode cX7_openAccount 17 = .ok (.lastore, 1) := by decide +kernel
theorem dX7_openAccount_18 : decode cX7_openAccount 18 = .ok (.aload_n 0, 1) := by decide +kernel
theorem dX7_openAccount_19 : decode cX7_openAccount 19 = .ok (.getfield 15, 3) := by decide +kernel
theorem dX7_openAccount_22 : decode cX7_openAccount 22 = .ok (.iload_n 3, 1) := by decide +kernel
theorem dX7_openAccount_23 : decode cX7_openAccount 23 = .ok (.lconst 0, 1) := by decide +kernel
theorem dX7_openAccount_24 : decode cX7_openAccount 24 = .ok (.lastore, 1) := by decide +kernel
theorem dX7_openAccount_25 : decode cX7_openAccount 25 = .ok (.aload_n 0, 1) := by decide +kernel
theorem dX7_openAccount_26 : decode cX7_openAccount 26 = .ok (.getfield 18, 3) := by decide +kernel
theorem dX7_openAccount_29 : decode cX7_openAccount 29 = .ok (.iload_n 3, 1) := by decide +kernel
theorem dX7_openAccount_30 : decode cX7_openAccount 30 = .ok (.lconst 0, 1) := by decide +kernel
theorem dX7_openAccount_31 : decode cX7_openAccount 31 = .ok (.lastore, 1) := by decide +kernel
theorem dX7_openAccount_32 : decode cX7_openAccount 32 = .ok (.aload_n 0, 1) := by decide +kernel
theorem dX7_openAccount_33 : decode cX7_openAccount 33 = .ok (.iload_n 3, 1) := by decide +kernel
theorem dX7_openAccount_34 : decode cX7_openAccount 34 = .ok (.iconst 1, 1) := by decide +kernel
theorem dX7_openAccount_35 : decode cX7_openAccount 35 = .ok (.iadd, 1) := by decide +kernel
theorem dX7_openAccount_36 : decode cX7_openAccount 36 = .ok (.putfield 51, 3) := by decide +kernel
theorem dX7_openAccount_39 : decode cX7_openAccount 39 = .ok (.iload_n 3, 1) := by decide +kernel
theorem dX7_openAccount_40 : decode cX7_openAccount 40 = .ok (.ireturn, 1) := by decide +kernel
theorem dX7_findResource_0 : decode cX7_findResource 0 = .ok (.iconst 0, 1) := by decide +kernel
theorem dX7_findResource_1 : decode cX7_findResource 1 = .ok (.istore 5, 2) := by decide +kernel
theorem dX7_findResource_3 : decode cX7_findResource 3 = .ok (.iload 5, 2) := by decide +kernel
theorem dX7_findResource_5 : decode cX7_findResource 5 = .ok (.sipush 256, 3) := by decide +kernel
theorem dX7_findResource_8 : decode cX7_findResource 8 = .ok (.if_icmp .ge 57, 3) := by decide +kernel
theorem dX7_findResource_11 : decode cX7_findResource 11 = .ok (.aload_n 0, 1) := by decide +kernel
theorem dX7_findResource_12 : decode cX7_findResource 12 = .ok (.getfield 37, 3) := by decide +kernel
theorem dX7_findResource_15 : decode cX7_findResource 15 = .ok (.iload 5, 2) := by decide +kernel
theorem dX7_findResource_17 : decode cX7_findResource 17 = .ok (.iaload, 1) := by decide +kernel
theorem dX7_findResource_18 : decode cX7_findResource 18 = .ok (.ifCond .le 41, 3) := by decide +kernel
theorem dX7_findResource_21 : decode cX7_findResource 21 = .ok (.aload_n 0, 1) := by decide +kernel
theorem dX7_findResource_22 : decode cX7_findResource 22 = .ok (.getfield 27, 3) := by decide +kernel
theorem dX7_findResource_25 : decode cX7_findResource 25 = .ok (.iload 5, 2) := by decide +kernel
theorem dX7_findResource_27 : decode cX7_findResource 27 = .ok (.laload, 1) := by decide +kernel
theorem dX7_findResource_28 : decode cX7_findResource 28 = .ok (.lload_n 1, 1) := by decide +kernel
theorem dX7_findResource_29 : decode cX7_findResource 29 = .ok (.lcmp, 1) := by decide +kernel
theorem dX7_findResource_30 : decode cX7_findResource 30 = .ok (.ifCond .ne 29, 3) := by decide +kernel
theorem dX7_findResource_33 : decode cX7_findResource 33 = .ok (.aload_n 0, 1) := by decide +kernel
theorem dX7_findResource_34 : decode cX7_findResource 34 = .ok (.getfield 30, 3) := by decide +kernel
theorem dX7_findResource_37 : decode cX7_findResource 37 = .ok (.iload 5, 2) := by decide +kernel
theorem dX7_findResource_39 : decode cX7_findResource 39 = .ok (.iaload, 1) := by decide +kernel
theorem dX7_findResource_40 : decode cX7_findResource 40 = .ok (.iload_n 3, 1) := by decide +kernel
theorem dX7_findResource_41 : decode cX7_findResource 41 = .ok (.if_icmp .ne 18, 3) := by decide +kernel
theorem dX7_findResource_44 : decode cX7_findResource 44 = .ok (.aload_n 0, 1) := by decide +kernel
theorem dX7_findResource_45 : decode cX7_findResource 45 = .ok (.getfield 34, 3) := by decide +kernel
theorem dX7_findResource_48 : decode cX7_findResource 48 = .ok (.iload 5, 2) := by decide +kernel
theorem dX7_findResource_50 : decode cX7_findResource 50 = .ok (.iaload, 1) := by decide +kernel
theorem dX7_findResource_51 : decode cX7_findResource 51 = .ok (.iload 4, 2) := by decide +kernel
theorem dX7_findResource_53 : decode cX7_findResource 53 = .ok (.if_icmp .ne 6, 3) := by decide +kernel
theorem dX7_findResource_56 : decode cX7_findResource 56 = .ok (.iload 5, 2) := by decide +kernel
theorem dX7_findResource_58 : decode cX7_findResource 58 = .ok (.ireturn, 1) := by decide +kernel
theorem dX7_findResource_59 : decode cX7_findResource 59 = .ok (.iinc 5 1, 3) := by decide +kernel
theorem dX7_findResource_62 : decode cX7_findResource 62 = .ok (.goto (-59), 3) := by decide +kernel
theorem dX7_findResource_65 : decode cX7_findResource 65 = .ok (.iconst (-1), 1) := by decide +kernel
theorem dX7_findResource_66 : decode cX7_findResource 66 = .ok (.ireturn, 1) := by decide +kernel
theorem dX7_allBalances_0 : decode cX7_allBalances 0 = .ok (.lconst 0, 1) := by decide +kernel
theorem dX7_allBalances_1 : decode cX7_allBalances 1 = .ok (.lstore_n 1, 1) := by decide +kernel
theorem dX7_allBalances_2 : decode cX7_allBalances 2 = .ok (.iconst 0, 1) := by decide +kernel
theorem dX7_allBalances_3 : decode cX7_allBalances 3 = .ok (.istore_n 3, 1) := by decide +kernel
theorem dX7_allBalances_4 : decode cX7_allBalances 4 = .ok (.iload_n 3, 1) := by decide +kernel
theorem dX7_allBalances_5 : decode cX7_allBalances 5 = .ok (.aload_n 0, 1) := by decide +kernel
theorem dX7_allBalances_6 : decode cX7_allBalances 6 = .ok (.getfield 51, 3) := by decide +kernel
theorem dX7_allBalances_9 : decode cX7_allBalances 9 = .ok (.if_icmp .ge 18, 3) := by decide +kernel
theorem dX7_allBalances_12 : decode cX7_allBalances 12 = .ok (.lload_n 1, 1) := by decide +kernel
theorem dX7_allBalances_13 : decode cX7_allBalances 13 = .ok (.aload_n 0, 1) := by decide +kernel
theorem dX7_allBalances_14 : decode cX7_allBalances 14 = .ok (.getfield 15, 3) := by decide +kernel
theorem dX7_allBalances_17 : decode cX7_allBalances 17 = .ok (.iload_n 3, 1) := by decide +kernel
theorem dX7_allBalances_18 : decode cX7_allBalances 18 = .ok (.laload, 1) := by decide +kernel
theorem dX7_allBalances_19 : decode cX7_allBalances 19 = .ok (.ladd, 1) := by decide +kernel
theorem dX7_allBalances_20 : decode cX7_allBalances 20 = .ok (.lstore_n 1, 1) := by decide +kernel
theorem dX7_allBalances_21 : decode cX7_allBalances 21 = .ok (.iinc 3 1, 3) := by decide +kernel
theorem dX7_allBalances_24 : decode cX7_allBalances 24 = .ok (.goto (-20), 3) := by decide +kernel
theorem dX7_allBalances_27 : decode cX7_allBalances 27 = .ok (.lload_n 1, 1) := by decide +kernel
theorem dX7_allBalances_28 : decode cX7_allBalances 28 = .ok (.lreturn, 1) := by decide +kernel
theorem dX7_storedCoins_0 : decode cX7_storedCoins 0 = .ok (.lconst 0, 1) := by decide +kernel
theorem dX7_storedCoins_1 : decode cX7_storedCoins 1 = .ok (.lstore_n 1, 1) := by decide +kernel
theorem dX7_storedCoins_2 : decode cX7_storedCoins 2 = .ok (.iconst 0, 1) := by decide +kernel
theorem dX7_storedCoins_3 : decode cX7_storedCoins 3 = .ok (.istore_n 3, 1) := by decide +kernel
theorem dX7_storedCoins_4 : decode cX7_storedCoins 4 = .ok (.iload_n 3, 1) := by decide +kernel
theorem dX7_storedCoins_5 : decode cX7_storedCoins 5 = .ok (.sipush 256, 3) := by decide +kernel
theorem dX7_storedCoins_8 : decode cX7_storedCoins 8 = .ok (.if_icmp .ge 63, 3) := by decide +kernel
theorem dX7_storedCoins_11 : decode cX7_storedCoins 11 = .ok (.iload_n 3, 1) := by decide +kernel
theorem dX7_storedCoins_12 : decode cX7_storedCoins 12 = .ok (.bipush 64, 2) := by decide +kernel
theorem dX7_storedCoins_14 : decode cX7_storedCoins 14 = .ok (.imul, 1) := by decide +kernel
theorem dX7_storedCoins_15 : decode cX7_storedCoins 15 = .ok (.istore 4, 2) := by decide +kernel
theorem dX7_storedCoins_17 : decode cX7_storedCoins 17 = .ok (.iload 4, 2) := by decide +kernel
theorem dX7_storedCoins_19 : decode cX7_storedCoins 19 = .ok (.iload_n 3, 1) := by decide +kernel
theorem dX7_storedCoins_20 : decode cX7_storedCoins 20 = .ok (.bipush 64, 2) := by decide +kernel
theorem dX7_storedCoins_22 : decode cX7_storedCoins 22 = .ok (.imul, 1) := by decide +kernel
theorem dX7_storedCoins_23 : decode cX7_storedCoins 23 = .ok (.aload_n 0, 1) := by decide +kernel
theorem dX7_storedCoins_24 : decode cX7_storedCoins 24 = .ok (.getfield 37, 3) := by decide +kernel
theorem dX7_storedCoins_27 : decode cX7_storedCoins 27 = .ok (.iload_n 3, 1) := by decide +kernel
theorem dX7_storedCoins_28 : decode cX7_storedCoins 28 = .ok (.iaload, 1) := by decide +kernel
theorem dX7_storedCoins_29 : decode cX7_storedCoins 29 = .ok (.iadd, 1) := by decide +kernel
theorem dX7_storedCoins_30 : decode cX7_storedCoins 30 = .ok (.if_icmp .ge 35, 3) := by decide +kernel
theorem dX7_storedCoins_33 : decode cX7_storedCoins 33 = .ok (.lload_n 1, 1) := by decide +kernel
theorem dX7_storedCoins_34 : decode cX7_storedCoins 34 = .ok (.aload_n 0, 1) := by decide +kernel
theorem dX7_storedCoins_35 : decode cX7_storedCoins 35 = .ok (.getfield 40, 3) := by decide +kernel
theorem dX7_storedCoins_38 : decode cX7_storedCoins 38 = .ok (.iload 4, 2) := by decide +kernel
theorem dX7_storedCoins_40 : decode cX7_storedCoins 40 = .ok (.baload, 1) := by decide +kernel
theorem dX7_storedCoins_41 : decode cX7_storedCoins 41 = .ok (.bipush 10, 2) := by decide +kernel
theorem dX7_storedCoins_43 : decode cX7_storedCoins 43 = .ok (.if_icmp .ne 13, 3) := by decide +kernel
theorem dX7_storedCoins_46 : decode cX7_storedCoins 46 = .ok (.aload_n 0, 1) := by decide +kernel
theorem dX7_storedCoins_47 : decode cX7_storedCoins 47 = .ok (.getfield 47, 3) := by decide +kernel
theorem dX7_storedCoins_50 : decode cX7_storedCoins 50 = .ok (.iload 4, 2) := by decide +kernel
theorem dX7_storedCoins_52 : decode cX7_storedCoins 52 = .ok (.laload, 1) := by decide +kernel
theorem dX7_storedCoins_53 : decode cX7_storedCoins 53 = .ok (.goto 4, 3) := by decide +kernel
theorem dX7_storedCoins_56 : decode cX7_storedCoins 56 = .ok (.lconst 0, 1) := by decide +kernel
theorem dX7_storedCoins_57 : decode cX7_storedCoins 57 = .ok (.ladd, 1) := by decide +kernel
theorem dX7_storedCoins_58 : decode cX7_storedCoins 58 = .ok (.lstore_n 1, 1) := by decide +kernel
theorem dX7_storedCoins_59 : decode cX7_storedCoins 59 = .ok (.iinc 4 1, 3) := by decide +kernel
theorem dX7_storedCoins_62 : decode cX7_storedCoins 62 = .ok (.goto (-45), 3) := by decide +kernel
theorem dX7_storedCoins_65 : decode cX7_storedCoins 65 = .ok (.iinc 3 1, 3) := by decide +kernel
theorem dX7_storedCoins_68 : decode cX7_storedCoins 68 = .ok (.goto (-64), 3) := by decide +kernel
theorem dX7_storedCoins_71 : decode cX7_storedCoins 71 = .ok (.lload_n 1, 1) := by decide +kernel
theorem dX7_storedCoins_72 : decode cX7_storedCoins 72 = .ok (.lreturn, 1) := by decide +kernel
theorem dX8_lay_0 : decode cX8_lay 0 = .ok (.aload_n 0, 1) := by decide +kernel
theorem dX8_lay_1 : decode cX8_lay 1 = .ok (.iconst 0, 1) := by decide +kernel
theorem dX8_lay_2 : decode cX8_lay 2 = .ok (.putfield 31, 3) := by decide +kernel
theorem dX8_lay_5 : decode cX8_lay 5 = .ok (.aload_n 0, 1) := by decide +kernel
theorem dX8_lay_6 : decode cX8_lay 6 = .ok (.lload_n 1, 1) := by decide +kernel
theorem dX8_lay_7 : decode cX8_lay 7 = .ok (.putfield 35, 3) := by decide +kernel
theorem dX8_lay_10 : decode cX8_lay 10 = .ok (.aload_n 0, 1) := by decide +kernel
theorem dX8_lay_11 : decode cX8_lay 11 = .ok (.lload_n 3, 1) := by decide +kernel
theorem dX8_lay_12 : decode cX8_lay 12 = .ok (.putfield 39, 3) := by decide +kernel
theorem dX8_lay_15 : decode cX8_lay 15 = .ok (.aload_n 0, 1) := by decide +kernel
theorem dX8_lay_16 : decode cX8_lay 16 = .ok (.iload 5, 2) := by decide +kernel
theorem dX8_lay_18 : decode cX8_lay 18 = .ok (.putfield 42, 3) := by decide +kernel
theorem dX8_lay_21 : decode cX8_lay 21 = .ok (.aload_n 0, 1) := by decide +kernel
theorem dX8_lay_22 : decode cX8_lay 22 = .ok (.iconst 0, 1) := by decide +kernel
theorem dX8_lay_23 : decode cX8_lay 23 = .ok (.putfield 46, 3) := by decide +kernel
theorem dX8_lay_26 : decode cX8_lay 26 = .ok (.aload_n 0, 1) := by decide +kernel
theorem dX8_lay_27 : decode cX8_lay 27 = .ok (.iconst 0, 1) := by decide +kernel
theorem dX8_lay_28 : decode cX8_lay 28 = .ok (.putfield 49, 3) := by decide +kernel
theorem dX8_lay_31 : decode cX8_lay 31 = .ok (.aload_n 0, 1) := by decide +kernel
theorem dX8_lay_32 : decode cX8_lay 32 = .ok (.iconst 0, 1) := by decide +kernel
theorem dX8_lay_33 : decode cX8_lay 33 = .ok (.putfield 52, 3) := by decide +kernel
theorem dX8_lay_36 : decode cX8_lay 36 = .ok (.aload_n 0, 1) := by decide +kernel
theorem dX8_lay_37 : decode cX8_lay 37 = .ok (.aconst_null, 1) := by decide +kernel
theorem dX8_lay_38 : decode cX8_lay 38 = .ok (.putfield 55, 3) := by decide +kernel
theorem dX8_lay_41 : decode cX8_lay 41 = .ok (.return_, 1) := by decide +kernel
theorem dX11_type_0 : decode cX11_type 0 = .ok (.iload_n 3, 1) := by decide +kernel
theorem dX11_type_1 : decode cX11_type 1 = .ok (.iconst 1, 1) := by decide +kernel
theorem dX11_type_2 : decode cX11_type 2 = .ok (.if_icmp .lt 9, 3) := by decide +kernel
theorem dX11_type_5 : decode cX11_type 5 = .ok (.iload_n 3, 1) := by decide +kernel
theorem dX11_type_6 : decode cX11_type 6 = .ok (.bipush 8, 2) := by decide +kernel
theorem dX11_type_8 : decode cX11_type 8 = .ok (.if_icmp .le 5, 3) := by decide +kernel
theorem dX11_type_11 : decode cX11_type 11 = .ok (.iconst (-1), 1) := by decide +kernel
theorem dX11_type_12 : decode cX11_type 12 = .ok (.ireturn, 1) := by decide +kernel
theorem dX11_type_13 : decode cX11_type 13 = .ok (.aload_n 0, 1) := by decide +kernel
theorem dX11_type_14 : decode cX11_type 14 = .ok (.getfield 80, 3) := by decide +kernel
theorem dX11_type_17 : decode cX11_type 17 = .ok (.iload_n 3, 1) := by decide +kernel
theorem dX11_type_18 : decode cX11_type 18 = .ok (.iadd, 1) := by decide +kernel
theorem dX11_type_19 : decode cX11_type 19 = .ok (.sipush 2048, 3) := by decide +kernel
theorem dX11_type_22 : decode cX11_type 22 = .ok (.if_icmp .le 6, 3) := by decide +kernel
theorem dX11_type_25 : decode cX11_type 25 = .ok (.bipush (-3), 2) := by decide +kernel
theorem dX11_type_27 : decode cX11_type 27 = .ok (.ireturn, 1) := by decide +kernel
theorem dX11_type_28 : decode cX11_type 28 = .ok (.iload_n 3, 1) := by decide +kernel
theorem dX11_type_29 : decode cX11_type 29 = .ok (.iconst 1, 1) := by decide +kernel
theorem dX11_type_30 : decode cX11_type 30 = .ok (.isub, 1) := by decide +kernel
theorem dX11_type_31 : decode cX11_type 31 = .ok (.istore 4, 2) := by decide +kernel
theorem dX11_type_33 : decode cX11_type 33 = .ok (.iload 4, 2) := by decide +kernel
theorem dX11_type_35 : decode cX11_type 35 = .ok (.ifCond .lt 34, 3) := by decide +kernel
theorem dX11_type_38 : decode cX11_type 38 = .ok (.aload_n 0, 1) := by decide +kernel
theorem dX11_type_39 : decode cX11_type 39 = .ok (.getfield 9, 3) := by decide +kernel
theorem dX11_type_42 : decode cX11_type 42 = .ok (.aload_n 0, 1) := by decide +kernel
theorem dX11_type_43 : decode cX11_type 43 = .ok (.dup, 1) := by decide +kernel
theorem dX11_type_44 : decode cX11_type 44 = .ok (.getfield 80, 3) := by decide +kernel
theorem dX11_type_47 : decode cX11_type 47 = .ok (.dup_x1, 1) := by decide +kernel
theorem dX11_type_48 : decode cX11_type 48 = .ok (.iconst 1, 1) := by decide +kernel
theorem dX11_type_49 : decode cX11_type 49 = .ok (.iadd, 1) := by decide +kernel
theorem dX11_type_50 : decode cX11_type 50 = .ok (.putfield 80, 3) := by decide +kernel
theorem dX11_type_53 : decode cX11_type 53 = .ok (.lload_n 1, 1) := by decide +kernel
theorem dX11_type_54 : decode cX11_type 54 = .ok (.bipush 8, 2) := by decide +kernel
theorem dX11_type_56 : decode cX11_type 56 = .ok (.iload 4, 2) := by decide +kernel
theorem dX11_type_58 : decode cX11_type 58 = .ok (.imul, 1) := by decide +kernel
theorem dX11_type_59 : decode cX11_type 59 = .ok (.lushr, 1) := by decide +kernel
theorem dX11_type_60 : decode cX11_type 60 = .ok (.l2i, 1) := by decide +kernel
theorem dX11_type_61 : decode cX11_type 61 = .ok (.i2b, 1) := by decide +kernel
theorem dX11_type_62 : decode cX11_type 62 = .ok (.bastore, 1) := by decide +kernel
theorem dX11_type_63 : decode cX11_type 63 = .ok (.iinc 4 (-1), 3) := by decide +kernel
theorem dX11_type_66 : decode cX11_type 66 = .ok (.goto (-33), 3) := by decide +kernel
theorem dX11_type_69 : decode cX11_type 69 = .ok (.aload_n 0, 1) := by decide +kernel
theorem dX11_type_70 : decode cX11_type 70 = .ok (.getfield 80, 3) := by decide +kernel
theorem dX11_type_73 : decode cX11_type 73 = .ok (.ireturn, 1) := by decide +kernel
set_option maxRecDepth 20000 in
theorem ggX11_mint_X7_findAccount : GoodIn wsX11_mint wsX7_findAccount := goodIn_r _ [12, 13, 14, 44, 45, 46, 47, 48, 49, 50, 51, 52, 53, 54, 55, 56, 57, 58, 59] rfl (by decide +kernel)
set_option maxRecDepth 20000 in
theorem gX11_mint_X7_findAccount : GoodIn wsX11_mint (wsV RX11 93 RX7 yX7_findAccount wsX7_findAccount) := goodIn_app (goodIn_of _ (by decide +kernel)) ggX11_mint_X7_findAccount
set_option maxRecDepth 20000 in
theorem ggX11_mint_X7_placeCount : GoodIn wsX11_mint wsX7_placeCount := goodIn_r _ [18, 13, 19, 20, 44, 45, 46, 47, 48, 49, 50, 51, 52, 53, 54, 55, 56, 57, 58, 59] rfl (by decide +kernel)
set_option maxRecDepth 20000 in
theorem gX11_mint_X7_placeCount : GoodIn wsX11_mint (wsV RX11 97 RX7 yX7_placeCount wsX7_placeCount) := goodIn_app (goodIn_of _ (by decide +kernel)) ggX11_mint_X7_placeCount
set_option maxRecDepth 20000 in
theorem ggX11_mint_X7_openAccount : GoodIn wsX11_mint wsX7_openAccount := goodIn_r _ [24, 13, 25, 26, 27, 28, 14, 29, 30, 44, 45, 46, 47, 48, 49, 50, 51, 52, 53, 54, 55, 56, 57, 58, 59] rfl (by decide +kernel)
set_option maxRecDepth 20000 in
theorem gX11_mint_X7_openAccount : GoodIn wsX11_mint (wsV RX11 101 RX7 yX7_openAccount wsX7_openAccount) := goodIn_app (goodIn_of _ (by decide +kernel)) ggX11_mint_X7_openAccount
theorem dX11_mint_0 : decode cX11_mint 0 = .ok (.lload_n 3, 1) := by decide +kernel
theorem dX11_mint_1 : decode cX11_mint 1 = .ok (.lconst 0, 1) := by decide +kernel
theorem dX11_mint_2 : decode cX11_mint 2 = .ok (.lcmp, 1) := by decide +kernel
theorem dX11_mint_3 : decode cX11_mint 3 = .ok (.ifCond .lt 27, 3) := by decide +kernel
theorem dX11_mint_6 : decode cX11_mint 6 = .ok (.lload_n 3, 1) := by decide +kernel
theorem dX11_mint_7 : decode cX11_mint 7 = .ok (.ldc2_w 84, 3) := by decide +kernel
theorem dX11_mint_10 : decode cX11_mint 10 = .ok (.aload_n 0, 1) := by decide +kernel
theorem dX11_mint_11 : decode cX11_mint 11 = .ok (.getfield 22, 3) := by decide +kernel
theorem dX11_mint_14 : decode cX11_mint 14 = .ok (.getfield 86, 3) := by decide +kernel
theorem dX11_mint_17 : decode cX11_mint 17 = .ok (.aload_n 0, 1) := by decide +kernel
theorem dX11_mint_18 : decode cX11_mint 18 = .ok (.getfield 22, 3) := by decide +kernel
theorem dX11_mint_21 : decode cX11_mint 21 = .ok (.getfield 90, 3) := by decide +kernel
theorem dX11_mint_24 : decode cX11_mint 24 = .ok (.lsub, 1) := by decide +kernel
theorem dX11_mint_25 : decode cX11_mint 25 = .ok (.lsub, 1) := by decide +kernel
theorem dX11_mint_26 : decode cX11_mint 26 = .ok (.lcmp, 1) := by decide +kernel
theorem dX11_mint_27 : decode cX11_mint 27 = .ok (.ifCond .lt 5, 3) := by decide +kernel
theorem dX11_mint_30 : decode cX11_mint 30 = .ok (.iconst 0, 1) := by decide +kernel
theorem dX11_mint_31 : decode cX11_mint 31 = .ok (.ireturn, 1) := by decide +kernel
theorem dX11_mint_32 : decode cX11_mint 32 = .ok (.aload_n 0, 1) := by decide +kernel
theorem dX11_mint_33 : decode cX11_mint 33 = .ok (.getfield 22, 3) := by decide +kernel
theorem dX11_mint_36 : decode cX11_mint 36 = .ok (.lload_n 1, 1) := by decide +kernel
theorem dX11_mint_37 : decode cX11_mint 37 = .ok (.invokevirtual 93, 3) := by decide +kernel
theorem dX11_mint_40 : decode cX11_mint 40 = .ok (.istore 5, 2) := by decide +kernel
theorem dX11_mint_42 : decode cX11_mint 42 = .ok (.iload 5, 2) := by decide +kernel
theorem dX11_mint_44 : decode cX11_mint 44 = .ok (.ifCond .ge 28, 3) := by decide +kernel
theorem dX11_mint_47 : decode cX11_mint 47 = .ok (.aload_n 0, 1) := by decide +kernel
theorem dX11_mint_48 : decode cX11_mint 48 = .ok (.getfield 22, 3) := by decide +kernel
theorem dX11_mint_51 : decode cX11_mint 51 = .ok (.invokevirtual 97, 3) := by decide +kernel
theorem dX11_mint_54 : decode cX11_mint 54 = .ok (.sipush 256, 3) := by decide +kernel
theorem dX11_mint_57 : decode cX11_mint 57 = .ok (.if_icmp .lt 5, 3) := by decide +kernel
theorem dX11_mint_60 : decode cX11_mint 60 = .ok (.iconst 0, 1) := by decide +kernel
theorem dX11_mint_61 : decode cX11_mint 61 = .ok (.ireturn, 1) := by decide +kernel
theorem dX11_mint_62 : decode cX11_mint 62 = .ok (.aload_n 0, 1) := by decide +kernel
theorem dX11_mint_63 : decode cX11_mint 63 = .ok (.getfield 22, 3) := by decide +kernel
theorem dX11_mint_66 : decode cX11_mint 66 = .ok (.lload_n 1, 1) := by decide +kernel
theorem dX11_mint_67 : decode cX11_mint 67 = .ok (.invokevirtual 101, 3) := by decide +kernel
theorem dX11_mint_70 : decode cX11_mint 70 = .ok (.istore 5, 2) := by decide +kernel
theorem dX11_mint_72 : decode cX11_mint 72 = .ok (.aload_n 0, 1) := by decide +kernel
theorem dX11_mint_73 : decode cX11_mint 73 = .ok (.getfield 22, 3) := by decide +kernel
theorem dX11_mint_76 : decode cX11_mint 76 = .ok (.getfield 104, 3) := by decide +kernel
theorem dX11_mint_79 : decode cX11_mint 79 = .ok (.iload 5, 2) := by decide +kernel
theorem dX11_mint_81 : decode cX11_mint 81 = .ok (.dup2, 1) := by decide +kernel
theorem dX11_mint_82 : decode cX11_mint 82 = .ok (.laload, 1) := by decide +kernel
theorem dX11_mint_83 : decode cX11_mint 83 = .ok (.lload_n 3, 1) := by decide +kernel
theorem dX11_mint_84 : decode cX11_mint 84 = .ok (.ladd, 1) := by decide +kernel
theorem dX11_mint_85 : decode cX11_mint 85 = .ok (.lastore, 1) := by decide +kernel
theorem dX11_mint_86 : decode cX11_mint 86 = .ok (.aload_n 0, 1) := by decide +kernel
theorem dX11_mint_87 : decode cX11_mint 87 = .ok (.getfield 22, 3) := by decide +kernel
theorem dX11_mint_90 : decode cX11_mint 90 = .ok (.dup, 1) := by decide +kernel
theorem dX11_mint_91 : decode cX11_mint 91 = .ok (.getfield 86, 3) := by decide +kernel
theorem dX11_mint_94 : decode cX11_mint 94 = .ok (.lload_n 3, 1) := by decide +kernel
theorem dX11_mint_95 : decode cX11_mint 95 = .ok (.ladd, 1) := by decide +kernel
theorem dX11_mint_96 : decode cX11_mint 96 = .ok (.putfield 86, 3) := by decide +kernel
theorem dX11_mint_99 : decode cX11_mint 99 = .ok (.aload_n 0, 1) := by decide +kernel
theorem dX11_mint_100 : decode cX11_mint 100 = .ok (.getfield 43, 3) := by decide +kernel
theorem dX11_mint_103 : decode cX11_mint 103 = .ok (.iconst 1, 1) := by decide +kernel
theorem dX11_mint_104 : decode cX11_mint 104 = .ok (.putfield 108, 3) := by decide +kernel
theorem dX11_mint_107 : decode cX11_mint 107 = .ok (.iconst 1, 1) := by decide +kernel
theorem dX11_mint_108 : decode cX11_mint 108 = .ok (.ireturn, 1) := by decide +kernel
theorem dX11_begin_0 : decode cX11_begin 0 = .ok (.aload_n 0, 1) := by decide +kernel
theorem dX11_begin_1 : decode cX11_begin 1 = .ok (.getfield 112, 3) := by decide +kernel
theorem dX11_begin_4 : decode cX11_begin 4 = .ok (.istore_n 1, 1) := by decide +kernel
theorem dX11_begin_5 : decode cX11_begin 5 = .ok (.aload_n 0, 1) := by decide +kernel
theorem dX11_begin_6 : decode cX11_begin 6 = .ok (.iconst 0, 1) := by decide +kernel
theorem dX11_begin_7 : decode cX11_begin 7 = .ok (.putfield 112, 3) := by decide +kernel
theorem dX11_begin_10 : decode cX11_begin 10 = .ok (.aload_n 0, 1) := by decide +kernel
theorem dX11_begin_11 : decode cX11_begin 11 = .ok (.iconst 0, 1) := by decide +kernel
theorem dX11_begin_12 : decode cX11_begin 12 = .ok (.putfield 115, 3) := by decide +kernel
theorem dX11_begin_15 : decode cX11_begin 15 = .ok (.iload_n 1, 1) := by decide +kernel
theorem dX11_begin_16 : decode cX11_begin 16 = .ok (.ireturn, 1) := by decide +kernel
set_option maxRecDepth 20000 in
theorem ggX11_publish_X8_lay : GoodIn wsX11_publish wsX8_lay := goodIn_r _ [10, 11, 12, 13, 14, 15, 16, 17, 18, 51, 52, 53, 54, 55, 56, 57, 58, 59, 60, 61, 62, 63, 64, 65, 66, 67, 68, 69] rfl (by decide +kernel)
set_option maxRecDepth 20000 in
theorem gX11_publish_X8_lay : GoodIn wsX11_publish (wsV RX11 118 RX8 yX8_lay wsX8_lay) := goodIn_app (goodIn_of _ (by decide +kernel)) ggX11_publish_X8_lay
set_option maxRecDepth 20000 in
theorem ggX11_publish_J7_copyOf_9075b : GoodIn wsX11_publish wsJ7_copyOf_9075b := goodIn_r _ [22, 23, 24, 25, 26, 27, 28, 29, 30, 31, 32, 33, 34, 35, 36, 37] rfl (by decide +kernel)
set_option maxRecDepth 20000 in
theorem gX11_publish_J7_copyOf_9075b : GoodIn wsX11_publish (va_wsS RX11 121 yJ7_copyOf_9075b wsJ7_copyOf_9075b) := goodIn_app (goodIn_of _ (by decide +kernel)) ggX11_publish_J7_copyOf_9075b
theorem dX11_publish_0 : decode cX11_publish 0 = .ok (.iload 5, 2) := by decide +kernel
theorem dX11_publish_2 : decode cX11_publish 2 = .ok (.bipush 10, 2) := by decide +kernel
theorem dX11_publish_4 : decode cX11_publish 4 = .ok (.if_icmp .lt 11, 3) := by decide +kernel
theorem dX11_publish_7 : decode cX11_publish 7 = .ok (.iload 5, 2) := by decide +kernel
theorem dX11_publish_9 : decode cX11_publish 9 = .ok (.sipush 20000, 3) := by decide +kernel
theorem dX11_publish_12 : decode cX11_publish 12 = .ok (.if_icmp .le 5, 3) := by decide +kernel
theorem dX11_publish_15 : decode cX11_publish 15 = .ok (.iconst (-1), 1) := by decide +kernel
theorem dX11_publish_16 : decode cX11_publish 16 = .ok (.ireturn, 1) := by decide +kernel
theorem dX11_publish_17 : decode cX11_publish 17 = .ok (.aload_n 0, 1) := by decide +kernel
theorem dX11_publish_18 : decode cX11_publish 18 = .ok (.getfield 112, 3) := by decide +kernel
theorem dX11_publish_21 : decode cX11_publish 21 = .ok (.bipush 32, 2) := by decide +kernel
theorem dX11_publish_23 : decode cX11_publish 23 = .ok (.if_icmp .lt 6, 3) := by decide +kernel
theorem dX11_publish_26 : decode cX11_publish 26 = .ok (.bipush (-3), 2) := by decide +kernel
theorem dX11_publish_28 : decode cX11_publish 28 = .ok (.ireturn, 1) := by decide +kernel
theorem dX11_publish_29 : decode cX11_publish 29 = .ok (.aload_n 0, 1) := by decide +kernel
theorem dX11_publish_30 : decode cX11_publish 30 = .ok (.getfield 15, 3) := by decide +kernel
theorem dX11_publish_33 : decode cX11_publish 33 = .ok (.aload_n 0, 1) := by decide +kernel
theorem dX11_publish_34 : decode cX11_publish 34 = .ok (.getfield 112, 3) := by decide +kernel
theorem dX11_publish_37 : decode cX11_publish 37 = .ok (.aaload, 1) := by decide +kernel
theorem dX11_publish_38 : decode cX11_publish 38 = .ok (.astore 6, 2) := by decide +kernel
theorem dX11_publish_40 : decode cX11_publish 40 = .ok (.aload 6, 2) := by decide +kernel
theorem dX11_publish_42 : decode cX11_publish 42 = .ok (.lload_n 1, 1) := by decide +kernel
theorem dX11_publish_43 : decode cX11_publish 43 = .ok (.lload_n 3, 1) := by decide +kernel
theorem dX11_publish_44 : decode cX11_publish 44 = .ok (.iload 5, 2) := by decide +kernel
theorem dX11_publish_46 : decode cX11_publish 46 = .ok (.invokevirtual 118, 3) := by decide +kernel
theorem dX11_publish_49 : decode cX11_publish 49 = .ok (.aload 6, 2) := by decide +kernel
theorem dX11_publish_51 : decode cX11_publish 51 = .ok (.aload_n 0, 1) := by decide +kernel
theorem dX11_publish_52 : decode cX11_publish 52 = .ok (.getfield 9, 3) := by decide +kernel
theorem dX11_publish_55 : decode cX11_publish 55 = .ok (.aload_n 0, 1) := by decide +kernel
theorem dX11_publish_56 : decode cX11_publish 56 = .ok (.getfield 80, 3) := by decide +kernel
theorem dX11_publish_59 : decode cX11_publish 59 = .ok (.invokestatic 121, 3) := by decide +kernel
theorem dX11_publish_62 : decode cX11_publish 62 = .ok (.putfield 127, 3) := by decide +kernel
theorem dX11_publish_65 : decode cX11_publish 65 = .ok (.aload_n 0, 1) := by decide +kernel
theorem dX11_publish_66 : decode cX11_publish 66 = .ok (.iconst 0, 1) := by decide +kernel
theorem dX11_publish_67 : decode cX11_publish 67 = .ok (.putfield 80, 3) := by decide +kernel
theorem dX11_publish_70 : decode cX11_publish 70 = .ok (.aload_n 0, 1) := by decide +kernel
theorem dX11_publish_71 : decode cX11_publish 71 = .ok (.dup, 1) := by decide +kernel
theorem dX11_publish_72 : decode cX11_publish 72 = .ok (.getfield 112, 3) := by decide +kernel
theorem dX11_publish_75 : decode cX11_publish 75 = .ok (.dup_x1, 1) := by decide +kernel
theorem dX11_publish_76 : decode cX11_publish 76 = .ok (.iconst 1, 1) := by decide +kernel
theorem dX11_publish_77 : decode cX11_publish 77 = .ok (.iadd, 1) := by decide +kernel
theorem dX11_publish_78 : decode cX11_publish 78 = .ok (.putfield 112, 3) := by decide +kernel
theorem dX11_publish_81 : decode cX11_publish 81 = .ok (.ireturn, 1) := by decide +kernel
set_option maxRecDepth 20000 in
theorem ggX11_call_X8_lay : GoodIn wsX11_call wsX8_lay := goodIn_r _ [11, 12, 13, 14, 15, 16, 17, 18, 19, 33, 34, 35, 36, 37, 38, 39, 40, 41, 42, 43, 44, 45, 46, 47, 48, 49, 50, 51] rfl (by decide +kernel)
set_option maxRecDepth 20000 in
theorem gX11_call_X8_lay : GoodIn wsX11_call (wsV RX11 118 RX8 yX8_lay wsX8_lay) := goodIn_app (goodIn_of _ (by decide +kernel)) ggX11_call_X8_lay
theorem dX11_call_0 : decode cX11_call 0 = .ok (.iload 5, 2) := by decide +kernel
theorem dX11_call_2 : decode cX11_call 2 = .ok (.bipush 10, 2) := by decide +kernel
theorem dX11_call_4 : decode cX11_call 4 = .ok (.if_icmp .lt 11, 3) := by decide +kernel
theorem dX11_call_7 : decode cX11_call 7 = .ok (.iload 5, 2) := by decide +kernel
theorem dX11_call_9 : decode cX11_call 9 = .ok (.sipush 20000, 3) := by decide +kernel
theorem dX11_call_12 : decode cX11_call 12 = .ok (.if_icmp .le 5, 3) := by decide +kernel
theorem dX11_call_15 : decode cX11_call 15 = .ok (.iconst (-1), 1) := by decide +kernel
theorem dX11_call_16 : decode cX11_call 16 = .ok (.ireturn, 1) := by decide +kernel
theorem dX11_call_17 : decode cX11_call 17 = .ok (.iload 6, 2) := by decide +kernel
theorem dX11_call_19 : decode cX11_call 19 = .ok (.ifCond .lt 22, 3) := by decide +kernel
theorem dX11_call_22 : decode cX11_call 22 = .ok (.iload 6, 2) := by decide +kernel
theorem dX11_call_24 : decode cX11_call 24 = .ok (.ldc 130, 2) := by decide +kernel
theorem dX11_call_26 : decode cX11_call 26 = .ok (.if_icmp .gt 15, 3) := by decide +kernel
theorem dX11_call_29 : decode cX11_call 29 = .ok (.iload 7, 2) := by decide +kernel
theorem dX11_call_31 : decode cX11_call 31 = .ok (.ifCond .lt 10, 3) := by decide +kernel
theorem dX11_call_34 : decode cX11_call 34 = .ok (.iload 7, 2) := by decide +kernel
theorem dX11_call_36 : decode cX11_call 36 = .ok (.bipush 63, 2) := by decide +kernel
theorem dX11_call_38 : decode cX11_call 38 = .ok (.if_icmp .le 5, 3) := by decide +kernel
theorem dX11_call_41 : decode cX11_call 41 = .ok (.iconst (-1), 1) := by decide +kernel
theorem dX11_call_42 : decode cX11_call 42 = .ok (.ireturn, 1) := by decide +kernel
theorem dX11_call_43 : decode cX11_call 43 = .ok (.aload_n 0, 1) := by decide +kernel
theorem dX11_call_44 : decode cX11_call 44 = .ok (.getfield 112, 3) := by decide +kernel
theorem dX11_call_47 : decode cX11_call 47 = .ok (.bipush 32, 2) := by decide +kernel
theorem dX11_call_49 : decode cX11_call 49 = .ok (.if_icmp .lt 6, 3) := by decide +kernel
theorem dX11_call_52 : decode cX11_call 52 = .ok (.bipush (-3), 2) := by decide +kernel
theorem dX11_call_54 : decode cX11_call 54 = .ok (.ireturn, 1) := by decide +kernel
theorem dX11_call_55 : decode cX11_call 55 = .ok (.aload_n 0, 1) := by decide +kernel
theorem dX11_call_56 : decode cX11_call 56 = .ok (.getfield 15, 3) := by decide +kernel
theorem dX11_call_59 : decode cX11_call 59 = .ok (.aload_n 0, 1) := by decide +kernel
theorem dX11_call_60 : decode cX11_call 60 = .ok (.getfield 112, 3) := by decide +kernel
theorem dX11_call_63 : decode cX11_call 63 = .ok (.aaload, 1) := by decide +kernel
theorem dX11_call_64 : decode cX11_call 64 = .ok (.astore 8, 2) := by decide +kernel
theorem dX11_call_66 : decode cX11_call 66 = .ok (.aload 8, 2) := by decide +kernel
theorem dX11_call_68 : decode cX11_call 68 = .ok (.lload_n 1, 1) := by decide +kernel
theorem dX11_call_69 : decode cX11_call 69 = .ok (.lload_n 3, 1) := by decide +kernel
theorem dX11_call_70 : decode cX11_call 70 = .ok (.iload 5, 2) := by decide +kernel
theorem dX11_call_72 : decode cX11_call 72 = .ok (.invokevirtual 118, 3) := by decide +kernel
theorem dX11_call_75 : decode cX11_call 75 = .ok (.aload 8, 2) := by decide +kernel
theorem dX11_call_77 : decode cX11_call 77 = .ok (.iconst 1, 1) := by decide +kernel
theorem dX11_call_78 : decode cX11_call 78 = .ok (.putfield 131, 3) := by decide +kernel
theorem dX11_call_81 : decode cX11_call 81 = .ok (.aload 8, 2) := by decide +kernel
theorem dX11_call_83 : decode cX11_call 83 = .ok (.iload 6, 2) := by decide +kernel
theorem dX11_call_85 : decode cX11_call 85 = .ok (.putfield 134, 3) := by decide +kernel
theorem dX11_call_88 : decode cX11_call 88 = .ok (.aload 8, 2) := by decide +kernel
theorem dX11_call_90 : decode cX11_call 90 = .ok (.iload 7, 2) := by decide +kernel
theorem dX11_call_92 : decode cX11_call 92 = .ok (.putfield 137, 3) := by decide +kernel
theorem dX11_call_95 : decode cX11_call 95 = .ok (.aload_n 0, 1) := by decide +kernel
theorem dX11_call_96 : decode cX11_call 96 = .ok (.dup, 1) := by decide +kernel
theorem dX11_call_97 : decode cX11_call 97 = .ok (.getfield 112, 3) := by decide +kernel
theorem dX11_call_100 : decode cX11_call 100 = .ok (.dup_x1, 1) := by decide +kernel
theorem dX11_call_101 : decode cX11_call 101 = .ok (.iconst 1, 1) := by decide +kernel
theorem dX11_call_102 : decode cX11_call 102 = .ok (.iadd, 1) := by decide +kernel
theorem dX11_call_103 : decode cX11_call 103 = .ok (.putfield 112, 3) := by decide +kernel
theorem dX11_call_106 : decode cX11_call 106 = .ok (.ireturn, 1) := by decide +kernel
set_option maxRecDepth 20000 in
theorem ggX11_argument_X11_isArgument : GoodIn wsX11_argument wsX11_isArgument := goodIn_r _ [8, 9] rfl (by decide +kernel)
set_option maxRecDepth 20000 in
theorem gX11_argument_X11_isArgument : GoodIn wsX11_argument (va_wsS RX11 140 yX11_isArgument wsX11_isArgument) := goodIn_app (goodIn_of _ (by decide +kernel)) ggX11_argument_X11_isArgument
theorem dX11_argument_0 : decode cX11_argument 0 = .ok (.iload_n 1, 1) := by decide +kernel
theorem dX11_argument_1 : decode cX11_argument 1 = .ok (.lload_n 2, 1) := by decide +kernel
theorem dX11_argument_2 : decode cX11_argument 2 = .ok (.lload 4, 2) := by decide +kernel
theorem dX11_argument_4 : decode cX11_argument 4 = .ok (.invokestatic 140, 3) := by decide +kernel
theorem dX11_argument_7 : decode cX11_argument 7 = .ok (.ifCond .ne 5, 3) := by decide +kernel
theorem dX11_argument_10 : decode cX11_argument 10 = .ok (.iconst (-1), 1) := by decide +kernel
theorem dX11_argument_11 : decode cX11_argument 11 = .ok (.ireturn, 1) := by decide +kernel
theorem dX11_argument_12 : decode cX11_argument 12 = .ok (.aload_n 0, 1) := by decide +kernel
theorem dX11_argument_13 : decode cX11_argument 13 = .ok (.getfield 112, 3) := by decide +kernel
theorem dX11_argument_16 : decode cX11_argument 16 = .ok (.aload_n 0, 1) := by decide +kernel
theorem dX11_argument_17 : decode cX11_argument 17 = .ok (.getfield 115, 3) := by decide +kernel
theorem dX11_argument_20 : decode cX11_argument 20 = .ok (.if_icmp .eq 20, 3) := by decide +kernel
theorem dX11_argument_23 : decode cX11_argument 23 = .ok (.aload_n 0, 1) := by decide +kernel
theorem dX11_argument_24 : decode cX11_argument 24 = .ok (.getfield 15, 3) := by decide +kernel
theorem dX11_argument_27 : decode cX11_argument 27 = .ok (.aload_n 0, 1) := by decide +kernel
theorem dX11_argument_28 : decode cX11_argument 28 = .ok (.getfield 112, 3) := by decide +kernel
theorem dX11_argument_31 : decode cX11_argument 31 = .ok (.iconst 1, 1) := by decide +kernel
theorem dX11_argument_32 : decode cX11_argument 32 = .ok (.isub, 1) := by decide +kernel
theorem dX11_argument_33 : decode cX11_argument 33 = .ok (.aaload, 1) := by decide +kernel
theorem dX11_argument_34 : decode cX11_argument 34 = .ok (.getfield 131, 3) := by decide +kernel
theorem dX11_argument_37 : decode cX11_argument 37 = .ok (.ifCond .ne 6, 3) := by decide +kernel
theorem dX11_argument_40 : decode cX11_argument 40 = .ok (.bipush (-2), 2) := by decide +kernel
theorem dX11_argument_42 : decode cX11_argument 42 = .ok (.ireturn, 1) := by decide +kernel
theorem dX11_argument_43 : decode cX11_argument 43 = .ok (.aload_n 0, 1) := by decide +kernel
theorem dX11_argument_44 : decode cX11_argument 44 = .ok (.getfield 15, 3) := by decide +kernel
theorem dX11_argument_47 : decode cX11_argument 47 = .ok (.aload_n 0, 1) := by decide +kernel
theorem dX11_argument_48 : decode cX11_argument 48 = .ok (.getfield 112, 3) := by decide +kernel
theorem dX11_argument_51 : decode cX11_argument 51 = .ok (.iconst 1, 1) := by decide +kernel
theorem dX11_argument_52 : decode cX11_argument 52 = .ok (.isub, 1) := by decide +kernel
theorem dX11_argument_53 : decode cX11_argument 53 = .ok (.aaload, 1) := by decide +kernel
theorem dX11_argument_54 : decode cX11_argument 54 = .ok (.iload_n 1, 1) := by decide +kernel
theorem dX11_argument_55 : decode cX11_argument 55 = .ok (.lload_n 2, 1) := by decide +kernel
theorem dX11_argument_56 : decode cX11_argument 56 = .ok (.lload 4, 2) := by decide +kernel
theorem dX11_argument_58 : decode cX11_argument 58 = .ok (.invokevirtual 144, 3) := by decide +kernel
theorem dX11_argument_61 : decode cX11_argument 61 = .ok (.ireturn, 1) := by decide +kernel
theorem dX11_isArgument_0 : decode cX11_isArgument 0 = .ok (.iload_n 0, 1) := by decide +kernel
theorem dX11_isArgument_1 : decode cX11_isArgument 1 = .ok (.iconst 1, 1) := by decide +kernel
theorem dX11_isArgument_2 : decode cX11_isArgument 2 = .ok (.if_icmp .lt 8, 3) := by decide +kernel
theorem dX11_isArgument_5 : decode cX11_isArgument 5 = .ok (.iload_n 0, 1) := by decide +kernel
theorem dX11_isArgument_6 : decode cX11_isArgument 6 = .ok (.iconst 5, 1) := by decide +kernel
theorem dX11_isArgument_7 : decode cX11_isArgument 7 = .ok (.if_icmp .le 5, 3) := by decide +kernel
theorem dX11_isArgument_10 : decode cX11_isArgument 10 = .ok (.iconst 0, 1) := by decide +kernel
theorem dX11_isArgument_11 : decode cX11_isArgument 11 = .ok (.ireturn, 1) := by decide +kernel
theorem dX11_isArgument_12 : decode cX11_isArgument 12 = .ok (.iload_n 0, 1) := by decide +kernel
theorem dX11_isArgument_13 : decode cX11_isArgument 13 = .ok (.iconst 4, 1) := by decide +kernel
theorem dX11_isArgument_14 : decode cX11_isArgument 14 = .ok (.if_icmp .eq 11, 3) := by decide +kernel
theorem dX11_isArgument_17 : decode cX11_isArgument 17 = .ok (.lload_n 1, 1) := by decide +kernel
theorem dX11_isArgument_18 : decode cX11_isArgument 18 = .ok (.lconst 0, 1) := by decide +kernel
theorem dX11_isArgument_19 : decode cX11_isArgument 19 = .ok (.lcmp, 1) := by decide +kernel
theorem dX11_isArgument_20 : decode cX11_isArgument 20 = .ok (.ifCond .eq 5, 3) := by decide +kernel
theorem dX11_isArgument_23 : decode cX11_isArgument 23 = .ok (.iconst 0, 1) := by decide +kernel
theorem dX11_isArgument_24 : decode cX11_isArgument 24 = .ok (.ireturn, 1) := by decide +kernel
theorem dX11_isArgument_25 : decode cX11_isArgument 25 = .ok (.iload_n 0, 1) := by decide +kernel
theorem dX11_isArgument_26 : decode cX11_isArgument 26 = .ok (.iconst 1, 1) := by decide +kernel
theorem dX11_isArgument_27 : decode cX11_isArgument 27 = .ok (.if_icmp .ne 21, 3) := by decide +kernel
theorem dX11_isArgument_30 : decode cX11_isArgument 30 = .ok (.lload_n 3, 1) := by decide +kernel
theorem dX11_isArgument_31 : decode cX11_isArgument 31 = .ok (.lconst 0, 1) := by decide +kernel
theorem dX11_isArgument_32 : decode cX11_isArgument 32 = .ok (.lcmp, 1) := by decide +kernel
theorem dX11_isArgument_33 : decode cX11_isArgument 33 = .ok (.ifCond .eq 9, 3) := by decide +kernel
theorem dX11_isArgument_36 : decode cX11_isArgument 36 = .ok (.lload_n 3, 1) := by decide +kernel
theorem dX11_isArgument_37 : decode cX11_isArgument 37 = .ok (.lconst 1, 1) := by decide +kernel
theorem dX11_isArgument_38 : decode cX11_isArgument 38 = .ok (.lcmp, 1) := by decide +kernel
theorem dX11_isArgument_39 : decode cX11_isArgument 39 = .ok (.ifCond .ne 7, 3) := by decide +kernel
theorem dX11_isArgument_42 : decode cX11_isArgument 42 = .ok (.iconst 1, 1) := by decide +kernel
theorem dX11_isArgument_43 : decode cX11_isArgument 43 = .ok (.goto 4, 3) := by decide +kernel
theorem dX11_isArgument_46 : decode cX11_isArgument 46 = .ok (.iconst 0, 1) := by decide +kernel
theorem dX11_isArgument_47 : decode cX11_isArgument 47 = .ok (.ireturn, 1) := by decide +kernel
theorem dX11_isArgument_48 : decode cX11_isArgument 48 = .ok (.iload_n 0, 1) := by decide +kernel
theorem dX11_isArgument_49 : decode cX11_isArgument 49 = .ok (.iconst 2, 1) := by decide +kernel
theorem dX11_isArgument_50 : decode cX11_isArgument 50 = .ok (.if_icmp .ne 17, 3) := by decide +kernel
theorem dX11_isArgument_53 : decode cX11_isArgument 53 = .ok (.lload_n 3, 1) := by decide +kernel
theorem dX11_isArgument_54 : decode cX11_isArgument 54 = .ok (.lconst 0, 1) := by decide +kernel
theorem dX11_isArgument_55 : decode cX11_isArgument 55 = .ok (.lcmp, 1) := by decide +kernel
theorem dX11_isArgument_56 : decode cX11_isArgument 56 = .ok (.ifCond .lt 15, 3) := by decide +kernel
theorem dX11_isArgument_59 : decode cX11_isArgument 59 = .ok (.lload_n 3, 1) := by decide +kernel
theorem dX11_isArgument_60 : decode cX11_isArgument 60 = .ok (.ldc2_w 148, 3) := by decide +kernel
theorem dX11_isArgument_63 : decode cX11_isArgument 63 = .ok (.lcmp, 1) := by decide +kernel
theorem dX11_isArgument_64 : decode cX11_isArgument 64 = .ok (.ifCond .gt 7, 3) := by decide +kernel
theorem dX11_isArgument_67 : decode cX11_isArgument 67 = .ok (.iconst 1, 1) := by decide +kernel
theorem dX11_isArgument_68 : decode cX11_isArgument 68 = .ok (.goto 4, 3) := by decide +kernel
theorem dX11_isArgument_71 : decode cX11_isArgument 71 = .ok (.iconst 0, 1) := by decide +kernel
theorem dX11_isArgument_72 : decode cX11_isArgument 72 = .ok (.ireturn, 1) := by decide +kernel
theorem dX11_weave_0 : decode cX11_weave 0 = .ok (.aload_n 0, 1) := by decide +kernel
theorem dX11_weave_1 : decode cX11_weave 1 = .ok (.getfield 150, 3) := by decide +kernel
theorem dX11_weave_4 : decode cX11_weave 4 = .ok (.bipush 16, 2) := by decide +kernel
theorem dX11_weave_6 : decode cX11_weave 6 = .ok (.iadd, 1) := by decide +kernel
theorem dX11_weave_7 : decode cX11_weave 7 = .ok (.sipush 4096, 3) := by decide +kernel
theorem dX11_weave_10 : decode cX11_weave 10 = .ok (.if_icmp .le 6, 3) := by decide +kernel
theorem dX11_weave_13 : decode cX11_weave 13 = .ok (.bipush (-3), 2) := by decide +kernel
theorem dX11_weave_15 : decode cX11_weave 15 = .ok (.ireturn, 1) := by decide +kernel
theorem dX11_weave_16 : decode cX11_weave 16 = .ok (.aload_n 0, 1) := by decide +kernel
theorem dX11_weave_17 : decode cX11_weave 17 = .ok (.dup, 1) := by decide +kernel
theorem dX11_weave_18 : decode cX11_weave 18 = .ok (.getfield 150, 3) := by decide +kernel
theorem dX11_weave_21 : decode cX11_weave 21 = .ok (.bipush 16, 2) := by decide +kernel
theorem dX11_weave_23 : decode cX11_weave 23 = .ok (.iadd, 1) := by decide +kernel
theorem dX11_weave_24 : decode cX11_weave 24 = .ok (.putfield 150, 3) := by decide +kernel
theorem dX11_weave_27 : decode cX11_weave 27 = .ok (.aload_n 0, 1) := by decide +kernel
theorem dX11_weave_28 : decode cX11_weave 28 = .ok (.getfield 150, 3) := by decide +kernel
theorem dX11_weave_31 : decode cX11_weave 31 = .ok (.ireturn, 1) := by decide +kernel
theorem dX11_unweave_0 : decode cX11_unweave 0 = .ok (.aload_n 0, 1) := by decide +kernel
theorem dX11_unweave_1 : decode cX11_unweave 1 = .ok (.getfield 150, 3) := by decide +kernel
theorem dX11_unweave_4 : decode cX11_unweave 4 = .ok (.istore_n 1, 1) := by decide +kernel
theorem dX11_unweave_5 : decode cX11_unweave 5 = .ok (.aload_n 0, 1) := by decide +kernel
theorem dX11_unweave_6 : decode cX11_unweave 6 = .ok (.iconst 0, 1) := by decide +kernel
theorem dX11_unweave_7 : decode cX11_unweave 7 = .ok (.putfield 150, 3) := by decide +kernel
theorem dX11_unweave_10 : decode cX11_unweave 10 = .ok (.iload_n 1, 1) := by decide +kernel
theorem dX11_unweave_11 : decode cX11_unweave 11 = .ok (.ireturn, 1) := by decide +kernel
theorem dX11_execute_0 : decode cX11_execute 0 = .ok (.aload_n 0, 1) := by decide +kernel
theorem dX11_execute_1 : decode cX11_execute 1 = .ok (.getfield 115, 3) := by decide +kernel
theorem dX11_execute_4 : decode cX11_execute 4 = .ok (.aload_n 0, 1) := by decide +kernel
theorem dX11_execute_5 : decode cX11_execute 5 = .ok (.getfield 112, 3) := by decide +kernel
theorem dX11_execute_8 : decode cX11_execute 8 = .ok (.if_icmp .lt 6, 3) := by decide +kernel
theorem dX11_execute_11 : decode cX11_execute 11 = .ok (.bipush (-2), 2) := by decide +kernel
theorem dX11_execute_13 : decode cX11_execute 13 = .ok (.ireturn, 1) := by decide +kernel
theorem dX11_execute_14 : decode cX11_execute 14 = .ok (.iconst 0, 1) := by decide +kernel
theorem dX11_execute_15 : decode cX11_execute 15 = .ok (.istore_n 1, 1) := by decide +kernel
theorem dX11_execute_16 : decode cX11_execute 16 = .ok (.aload_n 0, 1) := by decide +kernel
theorem dX11_execute_17 : decode cX11_execute 17 = .ok (.getfield 115, 3) := by decide +kernel
theorem dX11_execute_20 : decode cX11_execute 20 = .ok (.istore_n 2, 1) := by decide +kernel
theorem dX11_execute_21 : decode cX11_execute 21 = .ok (.iload_n 2, 1) := by decide +kernel
theorem dX11_execute_22 : decode cX11_execute 22 = .ok (.aload_n 0, 1) := by decide +kernel
theorem dX11_execute_23 : decode cX11_execute 23 = .ok (.getfield 112, 3) := by decide +kernel
theorem dX11_execute_26 : decode cX11_execute 26 = .ok (.if_icmp .ge 89, 3) := by decide +kernel
theorem dX11_execute_29 : decode cX11_execute 29 = .ok (.aload_n 0, 1) := by decide +kernel
theorem dX11_execute_30 : decode cX11_execute 30 = .ok (.getfield 15, 3) := by decide +kernel
theorem dX11_execute_33 : decode cX11_execute 33 = .ok (.iload_n 2, 1) := by decide +kernel
theorem dX11_execute_34 : decode cX11_execute 34 = .ok (.aaload, 1) := by decide +kernel
theorem dX11_execute_35 : decode cX11_execute 35 = .ok (.astore_n 3, 1) := by decide +kernel
theorem dX11_execute_36 : decode cX11_execute 36 = .ok (.aload_n 0, 1) := by decide +kernel
theorem dX11_execute_37 : decode cX11_execute 37 = .ok (.aload_n 3, 1) := by decide +kernel
theorem dX11_execute_38 : decode cX11_execute 38 = .ok (.invokevirtual 153, 3) := by decide +kernel
theorem dX11_execute_41 : decode cX11_execute 41 = .ok (.istore 4, 2) := by decide +kernel
theorem dX11_execute_43 : decode cX11_execute 43 = .ok (.iload 4, 2) := by decide +kernel
theorem dX11_execute_45 : decode cX11_execute 45 = .ok (.ifCond .eq 15, 3) := by decide +kernel
theorem dX11_execute_48 : decode cX11_execute 48 = .ok (.aload_n 3, 1) := by decide +kernel
theorem dX11_execute_49 : decode cX11_execute 49 = .ok (.iconst 3, 1) := by decide +kernel
theorem dX11_execute_50 : decode cX11_execute 50 = .ok (.iload 4, 2) := by decide +kernel
theorem dX11_execute_52 : decode cX11_execute 52 = .ok (.i2l, 1) := by decide +kernel
theorem dX11_execute_53 : decode cX11_execute 53 = .ok (.iconst 0, 1) := by decide +kernel
theorem dX11_execute_54 : decode cX11_execute 54 = .ok (.invokevirtual 157, 3) := by decide +kernel
theorem dX11_execute_57 : decode cX11_execute 57 = .ok (.goto 52, 3) := by decide +kernel
theorem dX11_execute_60 : decode cX11_execute 60 = .ok (.aload_n 0, 1) := by decide +kernel
theorem dX11_execute_61 : decode cX11_execute 61 = .ok (.getfield 22, 3) := by decide +kernel
theorem dX11_execute_64 : decode cX11_execute 64 = .ok (.aload_n 3, 1) := by decide +kernel
theorem dX11_execute_65 : decode cX11_execute 65 = .ok (.invokevirtual 161, 3) := by decide +kernel
theorem dX11_execute_68 : decode cX11_execute 68 = .ok (.aload_n 3, 1) := by decide +kernel
theorem dX11_execute_69 : decode cX11_execute 69 = .ok (.getfield 131, 3) := by decide +kernel
theorem dX11_execute_72 : decode cX11_execute 72 = .ok (.ifCond .eq 14, 3) := by decide +kernel
theorem dX11_execute_75 : decode cX11_execute 75 = .ok (.aload_n 0, 1) := by decide +kernel
theorem dX11_execute_76 : decode cX11_execute 76 = .ok (.getfield 55, 3) := by decide +kernel
theorem dX11_execute_79 : decode cX11_execute 79 = .ok (.aload_n 3, 1) := by decide +kernel
theorem dX11_execute_80 : decode cX11_execute 80 = .ok (.invokevirtual 165, 3) := by decide +kernel
theorem dX11_execute_83 : decode cX11_execute 83 = .ok (.goto 8, 3) := by decide +kernel
theorem dX11_execute_86 : decode cX11_execute 86 = .ok (.aload_n 0, 1) := by decide +kernel
theorem dX11_execute_87 : decode cX11_execute 87 = .ok (.aload_n 3, 1) := by decide +kernel
theorem dX11_execute_88 : decode cX11_execute 88 = .ok (.invokevirtual 168, 3) := by decide +kernel
theorem dX11_execute_91 : decode cX11_execute 91 = .ok (.aload_n 0, 1) := by decide +kernel
theorem dX11_execute_92 : decode cX11_execute 92 = .ok (.getfield 22, 3) := by decide +kernel
theorem dX11_execute_95 : decode cX11_execute 95 = .ok (.aload_n 3, 1) := by decide +kernel
theorem dX11_execute_96 : decode cX11_execute 96 = .ok (.invokevirtual 171, 3) := by decide +kernel
theorem dX11_execute_99 : decode cX11_execute 99 = .ok (.aload_n 3, 1) := by decide +kernel
theorem dX11_execute_100 : decode cX11_execute 100 = .ok (.getfield 174, 3) := by decide +kernel
theorem dX11_execute_103 : decode cX11_execute 103 = .ok (.ifCond .ne 6, 3) := by decide +kernel
theorem dX11_execute_106 : decode cX11_execute 106 = .ok (.iinc 1 1, 3) := by decide +kernel
theorem dX11_execute_109 : decode cX11_execute 109 = .ok (.iinc 2 1, 3) := by decide +kernel
theorem dX11_execute_112 : decode cX11_execute 112 = .ok (.goto (-91), 3) := by decide +kernel
theorem dX11_execute_115 : decode cX11_execute 115 = .ok (.aload_n 0, 1) := by decide +kernel
theorem dX11_execute_116 : decode cX11_execute 116 = .ok (.aload_n 0, 1) := by decide +kernel
theorem dX11_execute_117 : decode cX11_execute 117 = .ok (.getfield 112, 3) := by decide +kernel
theorem dX11_execute_120 : decode cX11_execute 120 = .ok (.putfield 115, 3) := by decide +kernel
theorem dX11_execute_123 : decode cX11_execute 123 = .ok (.aload_n 0, 1) := by decide +kernel
theorem dX11_execute_124 : decode cX11_execute 124 = .ok (.getfield 43, 3) := by decide +kernel
theorem dX11_execute_127 : decode cX11_execute 127 = .ok (.iconst 1, 1) := by decide +kernel
theorem dX11_execute_128 : decode cX11_execute 128 = .ok (.putfield 108, 3) := by decide +kernel
theorem dX11_execute_131 : decode cX11_execute 131 = .ok (.iload_n 1, 1) := by decide +kernel
theorem dX11_execute_132 : decode cX11_execute 132 = .ok (.ireturn, 1) := by decide +kernel
theorem dX11_told_0 : decode cX11_told 0 = .ok (.iload_n 1, 1) := by decide +kernel
theorem dX11_told_1 : decode cX11_told 1 = .ok (.ifCond .lt 20, 3) := by decide +kernel
theorem dX11_told_4 : decode cX11_told 4 = .ok (.iload_n 1, 1) := by decide +kernel
theorem dX11_told_5 : decode cX11_told 5 = .ok (.aload_n 0, 1) := by decide +kernel
theorem dX11_told_6 : decode cX11_told 6 = .ok (.getfield 112, 3) := by decide +kernel
theorem dX11_told_9 : decode cX11_told 9 = .ok (.if_icmp .ge 12, 3) := by decide +kernel
theorem dX11_told_12 : decode cX11_told 12 = .ok (.iload_n 2, 1) := by decide +kernel
theorem dX11_told_13 : decode cX11_told 13 = .ok (.ifCond .lt 8, 3) := by decide +kernel
theorem dX11_told_16 : decode cX11_told 16 = .ok (.iload_n 2, 1) := by decide +kernel
theorem dX11_told_17 : decode cX11_told 17 = .ok (.iconst 3, 1) := by decide +kernel
theorem dX11_told_18 : decode cX11_told 18 = .ok (.if_icmp .le 5, 3) := by decide +kernel
theorem dX11_told_21 : decode cX11_told 21 = .ok (.iconst (-1), 1) := by decide +kernel
theorem dX11_told_22 : decode cX11_told 22 = .ok (.ireturn, 1) := by decide +kernel
theorem dX11_told_23 : decode cX11_told 23 = .ok (.iload_n 1, 1) := by decide +kernel
theorem dX11_told_24 : decode cX11_told 24 = .ok (.aload_n 0, 1) := by decide +kernel
theorem dX11_told_25 : decode cX11_told 25 = .ok (.getfield 115, 3) := by decide +kernel
theorem dX11_told_28 : decode cX11_told 28 = .ok (.if_icmp .lt 6, 3) := by decide +kernel
theorem dX11_told_31 : decode cX11_told 31 = .ok (.bipush (-2), 2) := by decide +kernel
theorem dX11_told_33 : decode cX11_told 33 = .ok (.ireturn, 1) := by decide +kernel
theorem dX11_told_34 : decode cX11_told 34 = .ok (.iload_n 2, 1) := by decide +kernel
theorem dX11_told_35 : decode cX11_told 35 = .ok (.tableswitch 55 0 2 #[25, 35, 45], 25) := by decide +kernel
theorem dX11_told_60 : decode cX11_told 60 = .ok (.aload_n 0, 1) := by decide +kernel
theorem dX11_told_61 : decode cX11_told 61 = .ok (.getfield 15, 3) := by decide +kernel
theorem dX11_told_64 : decode cX11_told 64 = .ok (.iload_n 1, 1) := by decide +kernel
theorem dX11_told_65 : decode cX11_told 65 = .ok (.aaload, 1) := by decide +kernel
theorem dX11_told_66 : decode cX11_told 66 = .ok (.getfield 174, 3) := by decide +kernel
theorem dX11_told_69 : decode cX11_told 69 = .ok (.ireturn, 1) := by decide +kernel
theorem dX11_told_70 : decode cX11_told 70 = .ok (.aload_n 0, 1) := by decide +kernel
theorem dX11_told_71 : decode cX11_told 71 = .ok (.getfield 15, 3) := by decide +kernel
theorem dX11_told_74 : decode cX11_told 74 = .ok (.iload_n 1, 1) := by decide +kernel
theorem dX11_told_75 : decode cX11_told 75 = .ok (.aaload, 1) := by decide +kernel
theorem dX11_told_76 : decode cX11_told 76 = .ok (.getfield 242, 3) := by decide +kernel
theorem dX11_told_79 : decode cX11_told 79 = .ok (.ireturn, 1) := by decide +kernel
theorem dX11_told_80 : decode cX11_told 80 = .ok (.aload_n 0, 1) := by decide +kernel
theorem dX11_told_81 : decode cX11_told 81 = .ok (.getfield 15, 3) := by decide +kernel
theorem dX11_told_84 : decode cX11_told 84 = .ok (.iload_n 1, 1) := by decide +kernel
theorem dX11_told_85 : decode cX11_told 85 = .ok (.aaload, 1) := by decide +kernel
theorem dX11_told_86 : decode cX11_told 86 = .ok (.getfield 245, 3) := by decide +kernel
theorem dX11_told_89 : decode cX11_told 89 = .ok (.ireturn, 1) := by decide +kernel
theorem dX11_told_90 : decode cX11_told 90 = .ok (.aload_n 0, 1) := by decide +kernel
theorem dX11_told_91 : decode cX11_told 91 = .ok (.getfield 15, 3) := by decide +kernel
theorem dX11_told_94 : decode cX11_told 94 = .ok (.iload_n 1, 1) := by decide +kernel
theorem dX11_told_95 : decode cX11_told 95 = .ok (.aaload, 1) := by decide +kernel
theorem dX11_told_96 : decode cX11_told 96 = .ok (.getfield 174, 3) := by decide +kernel
theorem dX11_told_99 : decode cX11_told 99 = .ok (.iconst 4, 1) := by decide +kernel
theorem dX11_told_100 : decode cX11_told 100 = .ok (.if_icmp .ne 15, 3) := by decide +kernel
theorem dX11_told_103 : decode cX11_told 103 = .ok (.aload_n 0, 1) := by decide +kernel
theorem dX11_told_104 : decode cX11_told 104 = .ok (.getfield 15, 3) := by decide +kernel
theorem dX11_told_107 : decode cX11_told 107 = .ok (.iload_n 1, 1) := by decide +kernel
theorem dX11_told_108 : decode cX11_told 108 = .ok (.aaload, 1) := by decide +kernel
theorem dX11_told_109 : decode cX11_told 109 = .ok (.getfield 217, 3) := by decide +kernel
theorem dX11_told_112 : decode cX11_told 112 = .ok (.goto 4, 3) := by decide +kernel
theorem dX11_told_115 : decode cX11_told 115 = .ok (.iconst 0, 1) := by decide +kernel
theorem dX11_told_116 : decode cX11_told 116 = .ok (.ireturn, 1) := by decide +kernel
theorem dX11_code_0 : decode cX11_code 0 = .ok (.iload_n 1, 1) := by decide +kernel
theorem dX11_code_1 : decode cX11_code 1 = .ok (.ifCond .lt 11, 3) := by decide +kernel
theorem dX11_code_4 : decode cX11_code 4 = .ok (.iload_n 1, 1) := by decide +kernel
theorem dX11_code_5 : decode cX11_code 5 = .ok (.aload_n 0, 1) := by decide +kernel
theorem dX11_code_6 : decode cX11_code 6 = .ok (.getfield 115, 3) := by decide +kernel
theorem dX11_code_9 : decode cX11_code 9 = .ok (.if_icmp .lt 7, 3) := by decide +kernel
theorem dX11_code_12 : decode cX11_code 12 = .ok (.lconst 0, 1) := by decide +kernel
theorem dX11_code_13 : decode cX11_code 13 = .ok (.goto 12, 3) := by decide +kernel
theorem dX11_code_16 : decode cX11_code 16 = .ok (.aload_n 0, 1) := by decide +kernel
theorem dX11_code_17 : decode cX11_code 17 = .ok (.getfield 15, 3) := by decide +kernel
theorem dX11_code_20 : decode cX11_code 20 = .ok (.iload_n 1, 1) := by decide +kernel
theorem dX11_code_21 : decode cX11_code 21 = .ok (.aaload, 1) := by decide +kernel
theorem dX11_code_22 : decode cX11_code 22 = .ok (.getfield 248, 3) := by decide +kernel
theorem dX11_code_25 : decode cX11_code 25 = .ok (.lreturn, 1) := by decide +kernel
theorem dX11_result_0 : decode cX11_result 0 = .ok (.iload_n 1, 1) := by decide +kernel
theorem dX11_result_1 : decode cX11_result 1 = .ok (.ifCond .lt 28, 3) := by decide +kernel
theorem dX11_result_4 : decode cX11_result 4 = .ok (.iload_n 1, 1) := by decide +kernel
theorem dX11_result_5 : decode cX11_result 5 = .ok (.aload_n 0, 1) := by decide +kernel
theorem dX11_result_6 : decode cX11_result 6 = .ok (.getfield 115, 3) := by decide +kernel
theorem dX11_result_9 : decode cX11_result 9 = .ok (.if_icmp .ge 20, 3) := by decide +kernel
theorem dX11_result_12 : decode cX11_result 12 = .ok (.iload_n 2, 1) := by decide +kernel
theorem dX11_result_13 : decode cX11_result 13 = .ok (.ifCond .lt 16, 3) := by decide +kernel
theorem dX11_result_16 : decode cX11_result 16 = .ok (.iload_n 2, 1) := by decide +kernel
theorem dX11_result_17 : decode cX11_result 17 = .ok (.aload_n 0, 1) := by decide +kernel
theorem dX11_result_18 : decode cX11_result 18 = .ok (.getfield 15, 3) := by decide +kernel
theorem dX11_result_21 : decode cX11_result 21 = .ok (.iload_n 1, 1) := by decide +kernel
theorem dX11_result_22 : decode cX11_result 22 = .ok (.aaload, 1) := by decide +kernel
theorem dX11_result_23 : decode cX11_result 23 = .ok (.getfield 245, 3) := by decide +kernel
theorem dX11_result_26 : decode cX11_result 26 = .ok (.if_icmp .lt 5, 3) := by decide +kernel
theorem dX11_result_29 : decode cX11_result 29 = .ok (.lconst 0, 1) := by decide +kernel
theorem dX11_result_30 : decode cX11_result 30 = .ok (.lreturn, 1) := by decide +kernel
theorem dX11_result_31 : decode cX11_result 31 = .ok (.iload_n 3, 1) := by decide +kernel
theorem dX11_result_32 : decode cX11_result 32 = .ok (.tableswitch 65 0 2 #[28, 40, 52], 28) := by decide +kernel
theorem dX11_result_60 : decode cX11_result 60 = .ok (.aload_n 0, 1) := by decide +kernel
theorem dX11_result_61 : decode cX11_result 61 = .ok (.getfield 15, 3) := by decide +kernel
theorem dX11_result_64 : decode cX11_result 64 = .ok (.iload_n 1, 1) := by decide +kernel
theorem dX11_result_65 : decode cX11_result 65 = .ok (.aaload, 1) := by decide +kernel
theorem dX11_result_66 : decode cX11_result 66 = .ok (.getfield 251, 3) := by decide +kernel
theorem dX11_result_69 : decode cX11_result 69 = .ok (.iload_n 2, 1) := by decide +kernel
theorem dX11_result_70 : decode cX11_result 70 = .ok (.laload, 1) := by decide +kernel
theorem dX11_result_71 : decode cX11_result 71 = .ok (.lreturn, 1) := by decide +kernel
theorem dX11_result_72 : decode cX11_result 72 = .ok (.aload_n 0, 1) := by decide +kernel
theorem dX11_result_73 : decode cX11_result 73 = .ok (.getfield 15, 3) := by decide +kernel
theorem dX11_result_76 : decode cX11_result 76 = .ok (.iload_n 1, 1) := by decide +kernel
theorem dX11_result_77 : decode cX11_result 77 = .ok (.aaload, 1) := by decide +kernel
theorem dX11_result_78 : decode cX11_result 78 = .ok (.getfield 254, 3) := by decide +kernel
theorem dX11_result_81 : decode cX11_result 81 = .ok (.iload_n 2, 1) := by decide +kernel
theorem dX11_result_82 : decode cX11_result 82 = .ok (.laload, 1) := by decide +kernel
theorem dX11_result_83 : decode cX11_result 83 = .ok (.lreturn, 1) := by decide +kernel
theorem dX11_result_84 : decode cX11_result 84 = .ok (.aload_n 0, 1) := by decide +kernel
theorem dX11_result_85 : decode cX11_result 85 = .ok (.getfield 15, 3) := by decide +kernel
theorem dX11_result_88 : decode cX11_result 88 = .ok (.iload_n 1, 1) := by decide +kernel
theorem dX11_result_89 : decode cX11_result 89 = .ok (.aaload, 1) := by decide +kernel
theorem dX11_result_90 : decode cX11_result 90 = .ok (.getfield 257, 3) := by decide +kernel
theorem dX11_result_93 : decode cX11_result 93 = .ok (.iload_n 2, 1) := by decide +kernel
theorem dX11_result_94 : decode cX11_result 94 = .ok (.iaload, 1) := by decide +kernel
theorem dX11_result_95 : decode cX11_result 95 = .ok (.i2l, 1) := by decide +kernel
theorem dX11_result_96 : decode cX11_result 96 = .ok (.lreturn, 1) := by decide +kernel
theorem dX11_result_97 : decode cX11_result 97 = .ok (.lconst 0, 1) := by decide +kernel
theorem dX11_result_98 : decode cX11_result 98 = .ok (.lreturn, 1) := by decide +kernel
set_option maxRecDepth 20000 in
theorem ggX11_account_X7_findAccount : GoodIn wsX11_account wsX7_findAccount := goodIn_r _ [8, 9, 10, 24, 25, 26, 27, 28, 29, 30, 31, 32, 33, 34, 35, 36, 37, 38, 39] rfl (by decide +kernel)
set_option maxRecDepth 20000 in
theorem gX11_account_X7_findAccount : GoodIn wsX11_account (wsV RX11 93 RX7 yX7_findAccount wsX7_findAccount) := goodIn_app (goodIn_of _ (by decide +kernel)) ggX11_account_X7_findAccount
theorem dX11_account_0 : decode cX11_account 0 = .ok (.aload_n 0, 1) := by decide +kernel
theorem dX11_account_1 : decode cX11_account 1 = .ok (.getfield 22, 3) := by decide +kernel
theorem dX11_account_4 : decode cX11_account 4 = .ok (.lload_n 1, 1) := by decide +kernel
theorem dX11_account_5 : decode cX11_account 5 = .ok (.invokevirtual 93, 3) := by decide +kernel
theorem dX11_account_8 : decode cX11_account 8 = .ok (.istore 4, 2) := by decide +kernel
theorem dX11_account_10 : decode cX11_account 10 = .ok (.iload 4, 2) := by decide +kernel
theorem dX11_account_12 : decode cX11_account 12 = .ok (.ifCond .ge 5, 3) := by decide +kernel
theorem dX11_account_15 : decode cX11_account 15 = .ok (.lconst 0, 1) := by decide +kernel
theorem dX11_account_16 : decode cX11_account 16 = .ok (.lreturn, 1) := by decide +kernel
theorem dX11_account_17 : decode cX11_account 17 = .ok (.iload_n 3, 1) := by decide +kernel
theorem dX11_account_18 : decode cX11_account 18 = .ok (.ifCond .ne 14, 3) := by decide +kernel
theorem dX11_account_21 : decode cX11_account 21 = .ok (.aload_n 0, 1) := by decide +kernel
theorem dX11_account_22 : decode cX11_account 22 = .ok (.getfield 22, 3) := by decide +kernel
theorem dX11_account_25 : decode cX11_account 25 = .ok (.getfield 104, 3) := by decide +kernel
theorem dX11_account_28 : decode cX11_account 28 = .ok (.iload 4, 2) := by decide +kernel
theorem dX11_account_30 : decode cX11_account 30 = .ok (.laload, 1) := by decide +kernel
theorem dX11_account_31 : decode cX11_account 31 = .ok (.lreturn, 1) := by decide +kernel
theorem dX11_account_32 : decode cX11_account 32 = .ok (.iload_n 3, 1) := by decide +kernel
theorem dX11_account_33 : decode cX11_account 33 = .ok (.iconst 1, 1) := by decide +kernel
theorem dX11_account_34 : decode cX11_account 34 = .ok (.if_icmp .ne 16, 3) := by decide +kernel
theorem dX11_account_37 : decode cX11_account 37 = .ok (.aload_n 0, 1) := by decide +kernel
theorem dX11_account_38 : decode cX11_account 38 = .ok (.getfield 22, 3) := by decide +kernel
theorem dX11_account_41 : decode cX11_account 41 = .ok (.getfield 180, 3) := by decide +kernel
theorem dX11_account_44 : decode cX11_account 44 = .ok (.iload 4, 2) := by decide +kernel
theorem dX11_account_46 : decode cX11_account 46 = .ok (.laload, 1) := by decide +kernel
theorem dX11_account_47 : decode cX11_account 47 = .ok (.goto 4, 3) := by decide +kernel
theorem dX11_account_50 : decode cX11_account 50 = .ok (.lconst 0, 1) := by decide +kernel
theorem dX11_account_51 : decode cX11_account 51 = .ok (.lreturn, 1) := by decide +kernel
set_option maxRecDepth 20000 in
theorem ggX11_coins_X7_allBalances : GoodIn wsX11_coins wsX7_allBalances := goodIn_r _ [8, 9, 10, 31, 32, 33, 34, 35, 36, 37, 38, 39, 40, 41, 42, 43, 44, 45, 46] rfl (by decide +kernel)
set_option maxRecDepth 20000 in
theorem gX11_coins_X7_allBalances : GoodIn wsX11_coins (wsV RX11 261 RX7 yX7_allBalances wsX7_allBalances) := goodIn_app (goodIn_of _ (by decide +kernel)) ggX11_coins_X7_allBalances
set_option maxRecDepth 20000 in
theorem ggX11_coins_X7_storedCoins : GoodIn wsX11_coins wsX7_storedCoins := goodIn_r _ [14, 15, 16, 17, 31, 32, 33, 34, 35, 36, 37, 38, 39, 40, 41, 42, 43, 44, 45, 46] rfl (by decide +kernel)
set_option maxRecDepth 20000 in
theorem gX11_coins_X7_storedCoins : GoodIn wsX11_coins (wsV RX11 265 RX7 yX7_storedCoins wsX7_storedCoins) := goodIn_app (goodIn_of _ (by decide +kernel)) ggX11_coins_X7_storedCoins
theorem dX11_coins_0 : decode cX11_coins 0 = .ok (.iload_n 1, 1) := by decide +kernel
theorem dX11_coins_1 : decode cX11_coins 1 = .ok (.tableswitch 63 0 3 #[31, 39, 47, 55], 31) := by decide +kernel
theorem dX11_coins_32 : decode cX11_coins 32 = .ok (.aload_n 0, 1) := by decide +kernel
theorem dX11_coins_33 : decode cX11_coins 33 = .ok (.getfield 22, 3) := by decide +kernel
theorem dX11_coins_36 : decode cX11_coins 36 = .ok (.getfield 86, 3) := by decide +kernel
theorem dX11_coins_39 : decode cX11_coins 39 = .ok (.lreturn, 1) := by decide +kernel
theorem dX11_coins_40 : decode cX11_coins 40 = .ok (.aload_n 0, 1) := by decide +kernel
theorem dX11_coins_41 : decode cX11_coins 41 = .ok (.getfield 22, 3) := by decide +kernel
theorem dX11_coins_44 : decode cX11_coins 44 = .ok (.getfield 90, 3) := by decide +kernel
theorem dX11_coins_47 : decode cX11_coins 47 = .ok (.lreturn, 1) := by decide +kernel
theorem dX11_coins_48 : decode cX11_coins 48 = .ok (.aload_n 0, 1) := by decide +kernel
theorem dX11_coins_49 : decode cX11_coins 49 = .ok (.getfield 22, 3) := by decide +kernel
theorem dX11_coins_52 : decode cX11_coins 52 = .ok (.invokevirtual 261, 3) := by decide +kernel
theorem dX11_coins_55 : decode cX11_coins 55 = .ok (.lreturn, 1) := by decide +kernel
theorem dX11_coins_56 : decode cX11_coins 56 = .ok (.aload_n 0, 1) := by decide +kernel
theorem dX11_coins_57 : decode cX11_coins 57 = .ok (.getfield 22, 3) := by decide +kernel
theorem dX11_coins_60 : decode cX11_coins 60 = .ok (.invokevirtual 265, 3) := by decide +kernel
theorem dX11_coins_63 : decode cX11_coins 63 = .ok (.lreturn, 1) := by decide +kernel
theorem dX11_coins_64 : decode cX11_coins 64 = .ok (.lconst 0, 1) := by decide +kernel
theorem dX11_coins_65 : decode cX11_coins 65 = .ok (.lreturn, 1) := by decide +kernel
set_option maxRecDepth 20000 in
theorem ggX11_places_X7_placeCount : GoodIn wsX11_places wsX7_placeCount := goodIn_r _ [9, 10, 11, 12, 26, 27, 28, 29, 30, 31, 32, 33, 34, 35, 36, 37, 38, 39, 40, 41] rfl (by decide +kernel)
set_option maxRecDepth 20000 in
theorem gX11_places_X7_placeCount : GoodIn wsX11_places (wsV RX11 97 RX7 yX7_placeCount wsX7_placeCount) := goodIn_app (goodIn_of _ (by decide +kernel)) ggX11_places_X7_placeCount
theorem dX11_places_0 : decode cX11_places 0 = .ok (.iload_n 1, 1) := by decide +kernel
theorem dX11_places_1 : decode cX11_places 1 = .ok (.tableswitch 63 0 3 #[31, 39, 47, 55], 31) := by decide +kernel
theorem dX11_places_32 : decode cX11_places 32 = .ok (.aload_n 0, 1) := by decide +kernel
theorem dX11_places_33 : decode cX11_places 33 = .ok (.getfield 22, 3) := by decide +kernel
theorem dX11_places_36 : decode cX11_places 36 = .ok (.invokevirtual 97, 3) := by decide +kernel
theorem dX11_places_39 : decode cX11_places 39 = .ok (.ireturn, 1) := by decide +kernel
theorem dX11_places_40 : decode cX11_places 40 = .ok (.aload_n 0, 1) := by decide +kernel
theorem dX11_places_41 : decode cX11_places 41 = .ok (.getfield 22, 3) := by decide +kernel
theorem dX11_places_44 : decode cX11_places 44 = .ok (.getfield 209, 3) := by decide +kernel
theorem dX11_places_47 : decode cX11_places 47 = .ok (.ireturn, 1) := by decide +kernel
theorem dX11_places_48 : decode cX11_places 48 = .ok (.aload_n 0, 1) := by decide +kernel
theorem dX11_places_49 : decode cX11_places 49 = .ok (.getfield 22, 3) := by decide +kernel
theorem dX11_places_52 : decode cX11_places 52 = .ok (.getfield 268, 3) := by decide +kernel
theorem dX11_places_55 : decode cX11_places 55 = .ok (.ireturn, 1) := by decide +kernel
theorem dX11_places_56 : decode cX11_places 56 = .ok (.aload_n 0, 1) := by decide +kernel
theorem dX11_places_57 : decode cX11_places 57 = .ok (.getfield 22, 3) := by decide +kernel
theorem dX11_places_60 : decode cX11_places 60 = .ok (.getfield 271, 3) := by decide +kernel
theorem dX11_places_63 : decode cX11_places 63 = .ok (.ireturn, 1) := by decide +kernel
theorem dX11_places_64 : decode cX11_places 64 = .ok (.iconst (-1), 1) := by decide +kernel
theorem dX11_places_65 : decode cX11_places 65 = .ok (.ireturn, 1) := by decide +kernel
set_option maxRecDepth 20000 in
theorem ggX11_resource_X7_findResource : GoodIn wsX11_resource wsX7_findResource := goodIn_r _ [8, 9, 10, 11, 12, 36, 37, 38, 39, 40, 41, 42, 43, 44, 45, 46, 47, 48, 49, 50, 51] rfl (by decide +kernel)
set_option maxRecDepth 20000 in
theorem gX11_resource_X7_findResource : GoodIn wsX11_resource (wsV RX11 277 RX7 yX7_findResource wsX7_findResource) := goodIn_app (goodIn_of _ (by decide +kernel)) ggX11_resource_X7_findResource
theorem dX11_resource_0 : decode cX11_resource 0 = .ok (.aload_n 0, 1) := by decide +kernel
theorem dX11_resource_1 : decode cX11_resource 1 = .ok (.iconst 0, 1) := by decide +kernel
theorem dX11_resource_2 : decode cX11_resource 2 = .ok (.putfield 274, 3) := by decide +kernel
theorem dX11_resource_5 : decode cX11_resource 5 = .ok (.aload_n 0, 1) := by decide +kernel
theorem dX11_resource_6 : decode cX11_resource 6 = .ok (.getfield 22, 3) := by decide +kernel
theorem dX11_resource_9 : decode cX11_resource 9 = .ok (.lload_n 1, 1) := by decide +kernel
theorem dX11_resource_10 : decode cX11_resource 10 = .ok (.iload_n 3, 1) := by decide +kernel
theorem dX11_resource_11 : decode cX11_resource 11 = .ok (.iload 4, 2) := by decide +kernel
theorem dX11_resource_13 : decode cX11_resource 13 = .ok (.invokevirtual 277, 3) := by decide +kernel
theorem dX11_resource_16 : decode cX11_resource 16 = .ok (.istore 5, 2) := by decide +kernel
theorem dX11_resource_18 : decode cX11_resource 18 = .ok (.iload 5, 2) := by decide +kernel
theorem dX11_resource_20 : decode cX11_resource 20 = .ok (.ifCond .ge 6, 3) := by decide +kernel
theorem dX11_resource_23 : decode cX11_resource 23 = .ok (.bipush (-2), 2) := by decide +kernel
theorem dX11_resource_25 : decode cX11_resource 25 = .ok (.ireturn, 1) := by decide +kernel
theorem dX11_resource_26 : decode cX11_resource 26 = .ok (.aload_n 0, 1) := by decide +kernel
theorem dX11_resource_27 : decode cX11_resource 27 = .ok (.aload_n 0, 1) := by decide +kernel
theorem dX11_resource_28 : decode cX11_resource 28 = .ok (.getfield 22, 3) := by decide +kernel
theorem dX11_resource_31 : decode cX11_resource 31 = .ok (.iload 5, 2) := by decide +kernel
theorem dX11_resource_33 : decode cX11_resource 33 = .ok (.aload_n 0, 1) := by decide +kernel
theorem dX11_resource_34 : decode cX11_resource 34 = .ok (.getfield 47, 3) := by decide +kernel
theorem dX11_resource_37 : decode cX11_resource 37 = .ok (.invokevirtual 281, 3) := by decide +kernel
theorem dX11_resource_40 : decode cX11_resource 40 = .ok (.putfield 274, 3) := by decide +kernel
theorem dX11_resource_43 : decode cX11_resource 43 = .ok (.aload_n 0, 1) := by decide +kernel
theorem dX11_resource_44 : decode cX11_resource 44 = .ok (.getfield 274, 3) := by decide +kernel
theorem dX11_resource_47 : decode cX11_resource 47 = .ok (.ireturn, 1) := by decide +kernel
theorem dX11_byteOf_0 : decode cX11_byteOf 0 = .ok (.iload_n 1, 1) := by decide +kernel
theorem dX11_byteOf_1 : decode cX11_byteOf 1 = .ok (.ifCond .lt 11, 3) := by decide +kernel
theorem dX11_byteOf_4 : decode cX11_byteOf 4 = .ok (.iload_n 1, 1) := by decide +kernel
theorem dX11_byteOf_5 : decode cX11_byteOf 5 = .ok (.aload_n 0, 1) := by decide +kernel
theorem dX11_byteOf_6 : decode cX11_byteOf 6 = .ok (.getfield 274, 3) := by decide +kernel
theorem dX11_byteOf_9 : decode cX11_byteOf 9 = .ok (.if_icmp .lt 7, 3) := by decide +kernel
theorem dX11_byteOf_12 : decode cX11_byteOf 12 = .ok (.iconst (-1), 1) := by decide +kernel
theorem dX11_byteOf_13 : decode cX11_byteOf 13 = .ok (.goto 13, 3) := by decide +kernel
theorem dX11_byteOf_16 : decode cX11_byteOf 16 = .ok (.aload_n 0, 1) := by decide +kernel
theorem dX11_byteOf_17 : decode cX11_byteOf 17 = .ok (.getfield 47, 3) := by decide +kernel
theorem dX11_byteOf_20 : decode cX11_byteOf 20 = .ok (.iload_n 1, 1) := by decide +kernel
theorem dX11_byteOf_21 : decode cX11_byteOf 21 = .ok (.baload, 1) := by decide +kernel
theorem dX11_byteOf_22 : decode cX11_byteOf 22 = .ok (.sipush 255, 3) := by decide +kernel
theorem dX11_byteOf_25 : decode cX11_byteOf 25 = .ok (.iand, 1) := by decide +kernel
theorem dX11_byteOf_26 : decode cX11_byteOf 26 = .ok (.ireturn, 1) := by decide +kernel
theorem dX11_root_0 : decode cX11_root 0 = .ok (.iload_n 1, 1) := by decide +kernel
theorem dX11_root_1 : decode cX11_root 1 = .ok (.ifCond .lt 8, 3) := by decide +kernel
theorem dX11_root_4 : decode cX11_root 4 = .ok (.iload_n 1, 1) := by decide +kernel
theorem dX11_root_5 : decode cX11_root 5 = .ok (.iconst 3, 1) := by decide +kernel
theorem dX11_root_6 : decode cX11_root 6 = .ok (.if_icmp .le 5, 3) := by decide +kernel
theorem dX11_root_9 : decode cX11_root 9 = .ok (.lconst 0, 1) := by decide +kernel
theorem dX11_root_10 : decode cX11_root 10 = .ok (.lreturn, 1) := by decide +kernel
theorem dX11_root_11 : decode cX11_root 11 = .ok (.aload_n 0, 1) := by decide +kernel
theorem dX11_root_12 : decode cX11_root 12 = .ok (.getfield 43, 3) := by decide +kernel
theorem dX11_root_15 : decode cX11_root 15 = .ok (.getfield 108, 3) := by decide +kernel
theorem dX11_root_18 : decode cX11_root 18 = .ok (.ifCond .eq 14, 3) := by decide +kernel
theorem dX11_root_21 : decode cX11_root 21 = .ok (.aload_n 0, 1) := by decide +kernel
theorem dX11_root_22 : decode cX11_root 22 = .ok (.getfield 43, 3) := by decide +kernel
theorem dX11_root_25 : decode cX11_root 25 = .ok (.aload_n 0, 1) := by decide +kernel
theorem dX11_root_26 : decode cX11_root 26 = .ok (.getfield 22, 3) := by decide +kernel
theorem dX11_root_29 : decode cX11_root 29 = .ok (.invokevirtual 285, 3) := by decide +kernel
theorem dX11_root_32 : decode cX11_root 32 = .ok (.aload_n 0, 1) := by decide +kernel
theorem dX11_root_33 : decode cX11_root 33 = .ok (.getfield 43, 3) := by decide +kernel
theorem dX11_root_36 : decode cX11_root 36 = .ok (.getfield 288, 3) := by decide +kernel
theorem dX11_root_39 : decode cX11_root 39 = .ok (.iload_n 1, 1) := by decide +kernel
theorem dX11_root_40 : decode cX11_root 40 = .ok (.laload, 1) := by decide +kernel
theorem dX11_root_41 : decode cX11_root 41 = .ok (.lreturn, 1) := by decide +kernel
set_option maxRecDepth 20000 in
theorem ggX11_slips_X4_slipCount : GoodIn wsX11_slips wsX4_slipCount := goodIn_r _ [6, 7, 8, 22, 23, 24, 25, 26, 27, 28, 29, 30, 31, 32, 33, 34, 35, 36, 37, 38, 39, 40, 41, 42, 43, 44, 45, 46] rfl (by decide +kernel)
set_option maxRecDepth 20000 in
theorem gX11_slips_X4_slipCount : GoodIn wsX11_slips (wsV RX11 291 RX4 yX4_slipCount wsX4_slipCount) := goodIn_app (goodIn_of _ (by decide +kernel)) ggX11_slips_X4_slipCount
theorem dX11_slips_0 : decode cX11_slips 0 = .ok (.aload_n 0, 1) := by decide +kernel
theorem dX11_slips_1 : decode cX11_slips 1 = .ok (.getfield 55, 3) := by decide +kernel
theorem dX11_slips_4 : decode cX11_slips 4 = .ok (.invokevirtual 291, 3) := by decide +kernel
theorem dX11_slips_7 : decode cX11_slips 7 = .ok (.ireturn, 1) := by decide +kernel
theorem dX12_begin_0 : decode cX12_begin 0 = .ok (.aload_n 0, 1) := by decide +kernel
theorem dX12_begin_1 : decode cX12_begin 1 = .ok (.iconst 0, 1) := by decide +kernel
theorem dX12_begin_2 : decode cX12_begin 2 = .ok (.putfield 20, 3) := by decide +kernel
theorem dX12_begin_5 : decode cX12_begin 5 = .ok (.return_, 1) := by decide +kernel
theorem dX14_begin_0 : decode cX14_begin 0 = .ok (.aload_n 0, 1) := by decide +kernel
theorem dX14_begin_1 : decode cX14_begin 1 = .ok (.iconst 0, 1) := by decide +kernel
theorem dX14_begin_2 : decode cX14_begin 2 = .ok (.putfield 39, 3) := by decide +kernel
theorem dX14_begin_5 : decode cX14_begin 5 = .ok (.return_, 1) := by decide +kernel
set_option maxRecDepth 20000 in
theorem ggX14_all_X12_begin : GoodIn wsX14_all wsX12_begin := goodIn_r _ [16, 17, 91, 92, 93, 94] rfl (by decide +kernel)
set_option maxRecDepth 20000 in
theorem gX14_all_X12_begin : GoodIn wsX14_all (wsV RX14 82 RX12 yX12_begin wsX12_begin) := goodIn_app (goodIn_of _ (by decide +kernel)) ggX14_all_X12_begin
theorem dX14_all_0 : decode cX14_all 0 = .ok (.aload_n 0, 1) := by decide +kernel
theorem dX14_all_1 : decode cX14_all 1 = .ok (.aload_n 0, 1) := by decide +kernel
theorem dX14_all_2 : decode cX14_all 2 = .ok (.getfield 39, 3) := by decide +kernel
theorem dX14_all_5 : decode cX14_all 5 = .ok (.putfield 79, 3) := by decide +kernel
theorem dX14_all_8 : decode cX14_all 8 = .ok (.iconst 0, 1) := by decide +kernel
theorem dX14_all_9 : decode cX14_all 9 = .ok (.istore_n 1, 1) := by decide +kernel
theorem dX14_all_10 : decode cX14_all 10 = .ok (.iload_n 1, 1) := by decide +kernel
theorem dX14_all_11 : decode cX14_all 11 = .ok (.aload_n 0, 1) := by decide +kernel
theorem dX14_all_12 : decode cX14_all 12 = .ok (.getfield 79, 3) := by decide +kernel
theorem dX14_all_15 : decode cX14_all 15 = .ok (.if_icmp .ge 67, 3) := by decide +kernel
theorem dX14_all_18 : decode cX14_all 18 = .ok (.aload_n 0, 1) := by decide +kernel
theorem dX14_all_19 : decode cX14_all 19 = .ok (.getfield 29, 3) := by decide +kernel
theorem dX14_all_22 : decode cX14_all 22 = .ok (.iload_n 1, 1) := by decide +kernel
theorem dX14_all_23 : decode cX14_all 23 = .ok (.iload_n 1, 1) := by decide +kernel
theorem dX14_all_24 : decode cX14_all 24 = .ok (.iastore, 1) := by decide +kernel
theorem dX14_all_25 : decode cX14_all 25 = .ok (.aload_n 0, 1) := by decide +kernel
theorem dX14_all_26 : decode cX14_all 26 = .ok (.getfield 32, 3) := by decide +kernel
theorem dX14_all_29 : decode cX14_all 29 = .ok (.iload_n 1, 1) := by decide +kernel
theorem dX14_all_30 : decode cX14_all 30 = .ok (.iconst 1, 1) := by decide +kernel
theorem dX14_all_31 : decode cX14_all 31 = .ok (.iastore, 1) := by decide +kernel
theorem dX14_all_32 : decode cX14_all 32 = .ok (.aload_n 0, 1) := by decide +kernel
theorem dX14_all_33 : decode cX14_all 33 = .ok (.getfield 35, 3) := by decide +kernel
theorem dX14_all_36 : decode cX14_all 36 = .ok (.invokevirtual 82, 3) := by decide +kernel
theorem dX14_all_39 : decode cX14_all 39 = .ok (.aload_n 0, 1) := by decide +kernel
theorem dX14_all_40 : decode cX14_all 40 = .ok (.getfield 35, 3) := by decide +kernel
theorem dX14_all_43 : decode cX14_all 43 = .ok (.iconst 0, 1) := by decide +kernel
theorem dX14_all_44 : decode cX14_all 44 = .ok (.invokevirtual 85, 3) := by decide +kernel
theorem dX14_all_47 : decode cX14_all 47 = .ok (.aload_n 0, 1) := by decide +kernel
theorem dX14_all_48 : decode cX14_all 48 = .ok (.aload_n 0, 1) := by decide +kernel
theorem dX14_all_49 : decode cX14_all 49 = .ok (.getfield 7, 3) := by decide +kernel
theorem dX14_all_52 : decode cX14_all 52 = .ok (.iconst 4, 1) := by decide +kernel
theorem dX14_all_53 : decode cX14_all 53 = .ok (.iload_n 1, 1) := by decide +kernel
theorem dX14_all_54 : decode cX14_all 54 = .ok (.imul, 1) := by decide +kernel
theorem dX14_all_55 : decode cX14_all 55 = .ok (.iconst 1, 1) := by decide +kernel
theorem dX14_all_56 : decode cX14_all 56 = .ok (.invokevirtual 89, 3) := by decide +kernel
theorem dX14_all_59 : decode cX14_all 59 = .ok (.aload_n 0, 1) := by decide +kernel
theorem dX14_all_60 : decode cX14_all 60 = .ok (.aload_n 0, 1) := by decide +kernel
theorem dX14_all_61 : decode cX14_all 61 = .ok (.getfield 13, 3) := by decide +kernel
theorem dX14_all_64 : decode cX14_all 64 = .ok (.iconst 4, 1) := by decide +kernel
theorem dX14_all_65 : decode cX14_all 65 = .ok (.iload_n 1, 1) := by decide +kernel
theorem dX14_all_66 : decode cX14_all 66 = .ok (.imul, 1) := by decide +kernel
theorem dX14_all_67 : decode cX14_all 67 = .ok (.iconst 1, 1) := by decide +kernel
theorem dX14_all_68 : decode cX14_all 68 = .ok (.invokevirtual 89, 3) := by decide +kernel
theorem dX14_all_71 : decode cX14_all 71 = .ok (.aload_n 0, 1) := by decide +kernel
theorem dX14_all_72 : decode cX14_all 72 = .ok (.iload_n 1, 1) := by decide +kernel
theorem dX14_all_73 : decode cX14_all 73 = .ok (.invokevirtual 92, 3) := by decide +kernel
theorem dX14_all_76 : decode cX14_all 76 = .ok (.iinc 1 1, 3) := by decide +kernel
theorem dX14_all_79 : decode cX14_all 79 = .ok (.goto (-69), 3) := by decide +kernel
theorem dX14_all_82 : decode cX14_all 82 = .ok (.iconst (-1), 1) := by decide +kernel
theorem dX14_all_83 : decode cX14_all 83 = .ok (.istore_n 1, 1) := by decide +kernel
theorem dX14_all_84 : decode cX14_all 84 = .ok (.iconst 0, 1) := by decide +kernel
theorem dX14_all_85 : decode cX14_all 85 = .ok (.istore_n 2, 1) := by decide +kernel
theorem dX14_all_86 : decode cX14_all 86 = .ok (.iload_n 2, 1) := by decide +kernel
theorem dX14_all_87 : decode cX14_all 87 = .ok (.iconst 1, 1) := by decide +kernel
theorem dX14_all_88 : decode cX14_all 88 = .ok (.iadd, 1) := by decide +kernel
theorem dX14_all_89 : decode cX14_all 89 = .ok (.aload_n 0, 1) := by decide +kernel
theorem dX14_all_90 : decode cX14_all 90 = .ok (.getfield 39, 3) := by decide +kernel
theorem dX14_all_93 : decode cX14_all 93 = .ok (.if_icmp .ge 19, 3) := by decide +kernel
theorem dX14_all_96 : decode cX14_all 96 = .ok (.iload_n 1, 1) := by decide +kernel
theorem dX14_all_97 : decode cX14_all 97 = .ok (.aload_n 0, 1) := by decide +kernel
theorem dX14_all_98 : decode cX14_all 98 = .ok (.iload_n 2, 1) := by decide +kernel
theorem dX14_all_99 : decode cX14_all 99 = .ok (.invokevirtual 95, 3) := by decide +kernel
theorem dX14_all_102 : decode cX14_all 102 = .ok (.invokestatic 99, 3) := by decide +kernel
theorem dX14_all_105 : decode cX14_all 105 = .ok (.istore_n 1, 1) := by decide +kernel
theorem dX14_all_106 : decode cX14_all 106 = .ok (.iinc 2 1, 3) := by decide +kernel
theorem dX14_all_109 : decode cX14_all 109 = .ok (.goto (-23), 3) := by decide +kernel
theorem dX14_all_112 : decode cX14_all 112 = .ok (.iload_n 1, 1) := by decide +kernel
theorem dX14_all_113 : decode cX14_all 113 = .ok (.istore_n 2, 1) := by decide +kernel
theorem dX14_all_114 : decode cX14_all 114 = .ok (.iload_n 2, 1) := by decide +kernel
theorem dX14_all_115 : decode cX14_all 115 = .ok (.ifCond .lt 14, 3) := by decide +kernel
theorem dX14_all_118 : decode cX14_all 118 = .ok (.aload_n 0, 1) := by decide +kernel
theorem dX14_all_119 : decode cX14_all 119 = .ok (.iload_n 2, 1) := by decide +kernel
theorem dX14_all_120 : decode cX14_all 120 = .ok (.invokevirtual 105, 3) := by decide +kernel
theorem dX14_all_123 : decode cX14_all 123 = .ok (.iinc 2 (-1), 3) := by decide +kernel
theorem dX14_all_126 : decode cX14_all 126 = .ok (.goto (-12), 3) := by decide +kernel
theorem dX14_all_129 : decode cX14_all 129 = .ok (.return_, 1) := by decide +kernel
theorem dX14_get_0 : decode cX14_get 0 = .ok (.aload_n 0, 1) := by decide +kernel
theorem dX14_get_1 : decode cX14_get 1 = .ok (.getfield 39, 3) := by decide +kernel
theorem dX14_get_4 : decode cX14_get 4 = .ok (.ifCond .ne 7, 3) := by decide +kernel
theorem dX14_get_7 : decode cX14_get 7 = .ok (.lconst 0, 1) := by decide +kernel
theorem dX14_get_8 : decode cX14_get 8 = .ok (.goto 9, 3) := by decide +kernel
theorem dX14_get_11 : decode cX14_get 11 = .ok (.aload_n 0, 1) := by decide +kernel
theorem dX14_get_12 : decode cX14_get 12 = .ok (.getfield 26, 3) := by decide +kernel
theorem dX14_get_15 : decode cX14_get 15 = .ok (.iload_n 1, 1) := by decide +kernel
theorem dX14_get_16 : decode cX14_get 16 = .ok (.laload, 1) := by decide +kernel
theorem dX14_get_17 : decode cX14_get 17 = .ok (.lreturn, 1) := by decide +kernel
theorem dX18_placeCount_0 : decode cX18_placeCount 0 = .ok (.aload_n 0, 1) := by decide +kernel
theorem dX18_placeCount_1 : decode cX18_placeCount 1 = .ok (.getfield 1, 3) := by decide +kernel
theorem dX18_placeCount_4 : decode cX18_placeCount 4 = .ok (.aload_n 0, 1) := by decide +kernel
theorem dX18_placeCount_5 : decode cX18_placeCount 5 = .ok (.getfield 7, 3) := by decide +kernel
theorem dX18_placeCount_8 : decode cX18_placeCount 8 = .ok (.iadd, 1) := by decide +kernel
theorem dX18_placeCount_9 : decode cX18_placeCount 9 = .ok (.aload_n 0, 1) := by decide +kernel
theorem dX18_placeCount_10 : decode cX18_placeCount 10 = .ok (.getfield 10, 3) := by decide +kernel
theorem dX18_placeCount_13 : decode cX18_placeCount 13 = .ok (.iadd, 1) := by decide +kernel
theorem dX18_placeCount_14 : decode cX18_placeCount 14 = .ok (.ireturn, 1) := by decide +kernel
theorem dX18_findAccount_0 : decode cX18_findAccount 0 = .ok (.iconst 0, 1) := by decide +kernel
theorem dX18_findAccount_1 : decode cX18_findAccount 1 = .ok (.istore_n 3, 1) := by decide +kernel
theorem dX18_findAccount_2 : decode cX18_findAccount 2 = .ok (.iload_n 3, 1) := by decide +kernel
theorem dX18_findAccount_3 : decode cX18_findAccount 3 = .ok (.aload_n 0, 1) := by decide +kernel
theorem dX18_findAccount_4 : decode cX18_findAccount 4 = .ok (.getfield 1, 3) := by decide +kernel
theorem dX18_findAccount_7 : decode cX18_findAccount 7 = .ok (.if_icmp .ge 20, 3) := by decide +kernel
theorem dX18_findAccount_10 : decode cX18_findAccount 10 = .ok (.aload_n 0, 1) := by decide +kernel
theorem dX18_findAccount_11 : decode cX18_findAccount 11 = .ok (.getfield 13, 3) := by decide +kernel
theorem dX18_findAccount_14 : decode cX18_findAccount 14 = .ok (.iload_n 3, 1) := by decide +kernel
theorem dX18_findAccount_15 : decode cX18_findAccount 15 = .ok (.laload, 1) := by decide +kernel
theorem dX18_findAccount_16 : decode cX18_findAccount 16 = .ok (.lload_n 1, 1) := by decide +kernel
theorem dX18_findAccount_17 : decode cX18_findAccount 17 = .ok (.lcmp, 1) := by decide +kernel
theorem dX18_findAccount_18 : decode cX18_findAccount 18 = .ok (.ifCond .eq 9, 3) := by decide +kernel
theorem dX18_findAccount_21 : decode cX18_findAccount 21 = .ok (.iinc 3 1, 3) := by decide +kernel
theorem dX18_findAccount_24 : decode cX18_findAccount 24 = .ok (.goto (-22), 3) := by decide +kernel
theorem dX18_findAccount_27 : decode cX18_findAccount 27 = .ok (.iload_n 3, 1) := by decide +kernel
theorem dX18_findAccount_28 : decode cX18_findAccount 28 = .ok (.aload_n 0, 1) := by decide +kernel
theorem dX18_findAccount_29 : decode cX18_findAccount 29 = .ok (.getfield 1, 3) := by decide +kernel
theorem dX18_findAccount_32 : decode cX18_findAccount 32 = .ok (.if_icmp .ge 7, 3) := by decide +kernel
theorem dX18_findAccount_35 : decode cX18_findAccount 35 = .ok (.iload_n 3, 1) := by decide +kernel
theorem dX18_findAccount_36 : decode cX18_findAccount 36 = .ok (.goto 4, 3) := by decide +kernel
theorem dX18_findAccount_39 : decode cX18_findAccount 39 = .ok (.iconst (-1), 1) := by decide +kernel
theorem dX18_findAccount_40 : decode cX18_findAccount 40 = .ok (.ireturn, 1) := by decide +kernel
theorem dX18_findResource_0 : decode cX18_findResource 0 = .ok (.iconst 0, 1) := by decide +kernel
theorem dX18_findResource_1 : decode cX18_findResource 1 = .ok (.istore 4, 2) := by decide +kernel
theorem dX18_findResource_3 : decode cX18_findResource 3 = .ok (.iload 4, 2) := by decide +kernel
theorem dX18_findResource_5 : decode cX18_findResource 5 = .ok (.aload_n 0, 1) := by decide +kernel
theorem dX18_findResource_6 : decode cX18_findResource 6 = .ok (.getfield 10, 3) := by decide +kernel
theorem dX18_findResource_9 : decode cX18_findResource 9 = .ok (.if_icmp .ge 32, 3) := by decide +kernel
theorem dX18_findResource_12 : decode cX18_findResource 12 = .ok (.aload_n 0, 1) := by decide +kernel
theorem dX18_findResource_13 : decode cX18_findResource 13 = .ok (.getfield 27, 3) := by decide +kernel
theorem dX18_findResource_16 : decode cX18_findResource 16 = .ok (.iload 4, 2) := by decide +kernel
theorem dX18_findResource_18 : decode cX18_findResource 18 = .ok (.laload, 1) := by decide +kernel
theorem dX18_findResource_19 : decode cX18_findResource 19 = .ok (.lload_n 1, 1) := by decide +kernel
theorem dX18_findResource_20 : decode cX18_findResource 20 = .ok (.lcmp, 1) := by decide +kernel
theorem dX18_findResource_21 : decode cX18_findResource 21 = .ok (.ifCond .ne 14, 3) := by decide +kernel
theorem dX18_findResource_24 : decode cX18_findResource 24 = .ok (.aload_n 0, 1) := by decide +kernel
theorem dX18_findResource_25 : decode cX18_findResource 25 = .ok (.getfield 30, 3) := by decide +kernel
theorem dX18_findResource_28 : decode cX18_findResource 28 = .ok (.iload 4, 2) := by decide +kernel
theorem dX18_findResource_30 : decode cX18_findResource 30 = .ok (.iaload, 1) := by decide +kernel
theorem dX18_findResource_31 : decode cX18_findResource 31 = .ok (.iload_n 3, 1) := by decide +kernel
theorem dX18_findResource_32 : decode cX18_findResource 32 = .ok (.if_icmp .eq 9, 3) := by decide +kernel
theorem dX18_findResource_35 : decode cX18_findResource 35 = .ok (.iinc 4 1, 3) := by decide +kernel
theorem dX18_findResource_38 : decode cX18_findResource 38 = .ok (.goto (-35), 3) := by decide +kernel
theorem dX18_findResource_41 : decode cX18_findResource 41 = .ok (.iload 4, 2) := by decide +kernel
theorem dX18_findResource_43 : decode cX18_findResource 43 = .ok (.aload_n 0, 1) := by decide +kernel
theorem dX18_findResource_44 : decode cX18_findResource 44 = .ok (.getfield 10, 3) := by decide +kernel
theorem dX18_findResource_47 : decode cX18_findResource 47 = .ok (.if_icmp .ge 8, 3) := by decide +kernel
theorem dX18_findResource_50 : decode cX18_findResource 50 = .ok (.iload 4, 2) := by decide +kernel
theorem dX18_findResource_52 : decode cX18_findResource 52 = .ok (.goto 4, 3) := by decide +kernel
theorem dX18_findResource_55 : decode cX18_findResource 55 = .ok (.iconst (-1), 1) := by decide +kernel
theorem dX18_findResource_56 : decode cX18_findResource 56 = .ok (.ireturn, 1) := by decide +kernel
theorem dX18_type_0 : decode cX18_type 0 = .ok (.iload_n 3, 1) := by decide +kernel
theorem dX18_type_1 : decode cX18_type 1 = .ok (.iconst 1, 1) := by decide +kernel
theorem dX18_type_2 : decode cX18_type 2 = .ok (.if_icmp .lt 9, 3) := by decide +kernel
theorem dX18_type_5 : decode cX18_type 5 = .ok (.iload_n 3, 1) := by decide +kernel
theorem dX18_type_6 : decode cX18_type 6 = .ok (.bipush 8, 2) := by decide +kernel
theorem dX18_type_8 : decode cX18_type 8 = .ok (.if_icmp .le 5, 3) := by decide +kernel
theorem dX18_type_11 : decode cX18_type 11 = .ok (.iconst (-1), 1) := by decide +kernel
theorem dX18_type_12 : decode cX18_type 12 = .ok (.ireturn, 1) := by decide +kernel
theorem dX18_type_13 : decode cX18_type 13 = .ok (.aload_n 0, 1) := by decide +kernel
theorem dX18_type_14 : decode cX18_type 14 = .ok (.getfield 609, 3) := by decide +kernel
theorem dX18_type_17 : decode cX18_type 17 = .ok (.iload_n 3, 1) := by decide +kernel
theorem dX18_type_18 : decode cX18_type 18 = .ok (.iadd, 1) := by decide +kernel
theorem dX18_type_19 : decode cX18_type 19 = .ok (.sipush 2048, 3) := by decide +kernel
theorem dX18_type_22 : decode cX18_type 22 = .ok (.if_icmp .le 6, 3) := by decide +kernel
theorem dX18_type_25 : decode cX18_type 25 = .ok (.bipush (-3), 2) := by decide +kernel
theorem dX18_type_27 : decode cX18_type 27 = .ok (.ireturn, 1) := by decide +kernel
theorem dX18_type_28 : decode cX18_type 28 = .ok (.iload_n 3, 1) := by decide +kernel
theorem dX18_type_29 : decode cX18_type 29 = .ok (.iconst 1, 1) := by decide +kernel
theorem dX18_type_30 : decode cX18_type 30 = .ok (.isub, 1) := by decide +kernel
theorem dX18_type_31 : decode cX18_type 31 = .ok (.istore 4, 2) := by decide +kernel
theorem dX18_type_33 : decode cX18_type 33 = .ok (.iload 4, 2) := by decide +kernel
theorem dX18_type_35 : decode cX18_type 35 = .ok (.ifCond .lt 37, 3) := by decide +kernel
theorem dX18_type_38 : decode cX18_type 38 = .ok (.aload_n 0, 1) := by decide +kernel
theorem dX18_type_39 : decode cX18_type 39 = .ok (.getfield 535, 3) := by decide +kernel
theorem dX18_type_42 : decode cX18_type 42 = .ok (.aload_n 0, 1) := by decide +kernel
theorem dX18_type_43 : decode cX18_type 43 = .ok (.getfield 609, 3) := by decide +kernel
theorem dX18_type_46 : decode cX18_type 46 = .ok (.lload_n 1, 1) := by decide +kernel
theorem dX18_type_47 : decode cX18_type 47 = .ok (.bipush 8, 2) := by decide +kernel
theorem dX18_type_49 : decode cX18_type 49 = .ok (.iload 4, 2) := by decide +kernel
theorem dX18_type_51 : decode cX18_type 51 = .ok (.imul, 1) := by decide +kernel
theorem dX18_type_52 : decode cX18_type 52 = .ok (.lshr, 1) := by decide +kernel
theorem dX18_type_53 : decode cX18_type 53 = .ok (.l2i, 1) := by decide +kernel
theorem dX18_type_54 : decode cX18_type 54 = .ok (.i2b, 1) := by decide +kernel
theorem dX18_type_55 : decode cX18_type 55 = .ok (.bastore, 1) := by decide +kernel
theorem dX18_type_56 : decode cX18_type 56 = .ok (.aload_n 0, 1) := by decide +kernel
theorem dX18_type_57 : decode cX18_type 57 = .ok (.dup, 1) := by decide +kernel
theorem dX18_type_58 : decode cX18_type 58 = .ok (.getfield 609, 3) := by decide +kernel
theorem dX18_type_61 : decode cX18_type 61 = .ok (.iconst 1, 1) := by decide +kernel
theorem dX18_type_62 : decode cX18_type 62 = .ok (.iadd, 1) := by decide +kernel
theorem dX18_type_63 : decode cX18_type 63 = .ok (.putfield 609, 3) := by decide +kernel
theorem dX18_type_66 : decode cX18_type 66 = .ok (.iinc 4 (-1), 3) := by decide +kernel
theorem dX18_type_69 : decode cX18_type 69 = .ok (.goto (-36), 3) := by decide +kernel
theorem dX18_type_72 : decode cX18_type 72 = .ok (.aload_n 0, 1) := by decide +kernel
theorem dX18_type_73 : decode cX18_type 73 = .ok (.getfield 609, 3) := by decide +kernel
theorem dX18_type_76 : decode cX18_type 76 = .ok (.ireturn, 1) := by decide +kernel
set_option maxRecDepth 20000 in
theorem ggX18_mint_X18_findAccount : GoodIn wsX18_mint wsX18_findAccount := goodIn_r _ [9, 10, 11, 23, 24, 25, 26, 27, 28, 29, 30, 31, 32, 33, 34, 35, 36, 37, 38, 39, 40, 41, 42, 43, 44, 45, 46, 47, 48, 49, 50, 51, 52, 53, 54, 55, 56, 57, 58, 59, 60, 61, 62, 63, 64, 65, 66, 67, 68, 69, 70, 71, 72, 73, 74, 75, 76, 77, 78, 79, 80, 81, 82, 83, 84, 85, 86, 87, 88, 89, 90, 91, 92, 93, 94, 95, 96, 97, 98, 99, 100] rfl (by decide +kernel)
set_option maxRecDepth 20000 in
theorem gX18_mint_X18_findAccount : GoodIn wsX18_mint (wsV RX18 288 RX18 yX18_findAccount wsX18_findAccount) := goodIn_app (goodIn_of _ (by decide +kernel)) ggX18_mint_X18_findAccount
set_option maxRecDepth 20000 in
theorem ggX18_mint_X18_placeCount : GoodIn wsX18_mint wsX18_placeCount := goodIn_r _ [15, 10, 16, 17, 23, 24, 25, 26, 27, 28, 29, 30, 31, 32, 33, 34, 35, 36, 37, 38, 39, 40, 41, 42, 43, 44, 45, 46, 47, 48, 49, 50, 51, 52, 53, 54, 55, 56, 57, 58, 59, 60, 61, 62, 63, 64, 65, 66, 67, 68, 69, 70, 71, 72, 73, 74, 75, 76, 77, 78, 79, 80, 81, 82, 83, 84, 85, 86, 87, 88, 89, 90, 91, 92, 93, 94, 95, 96, 97, 98, 99, 100] rfl (by decide +kernel)
set_option maxRecDepth 20000 in
theorem gX18_mint_X18_placeCount : GoodIn wsX18_mint (wsV RX18 620 RX18 yX18_placeCount wsX18_placeCount) := goodIn_app (goodIn_of _ (by decide +kernel)) ggX18_mint_X18_placeCount
set_option maxRecDepth 20000 in
theorem ggX18_mint_X18_newAccount : GoodIn wsX18_mint wsX18_newAccount := goodIn_r _ [21, 11, 10, 4, 22, 23, 24, 25, 26, 27, 28, 29, 30, 31, 32, 33, 34, 35, 36, 37, 38, 39, 40, 41, 42, 43, 44, 45, 46, 47, 48, 49, 50, 51, 52, 53, 54, 55, 56, 57, 58, 59, 60, 61, 62, 63, 64, 65, 66, 67, 68, 69, 70, 71, 72, 73, 74, 75, 76, 77, 78, 79, 80, 81, 82, 83, 84, 85, 86, 87, 88, 89, 90, 91, 92, 93, 94, 95, 96, 97, 98, 99, 100] rfl (by decide +kernel)
set_option maxRecDepth 20000 in
theorem gX18_mint_X18_newAccount : GoodIn wsX18_mint (wsV RX18 623 RX18 yX18_newAccount wsX18_newAccount) := goodIn_app (goodIn_of _ (by decide +kernel)) ggX18_mint_X18_newAccount
theorem dX18_mint_0 : decode cX18_mint 0 = .ok (.lload_n 3, 1) := by decide +kernel
theorem dX18_mint_1 : decode cX18_mint 1 = .ok (.lconst 0, 1) := by decide +kernel
theorem dX18_mint_2 : decode cX18_mint 2 = .ok (.lcmp, 1) := by decide +kernel
theorem dX18_mint_3 : decode cX18_mint 3 = .ok (.ifCond .lt 37, 3) := by decide +kernel
theorem dX18_mint_6 : decode cX18_mint 6 = .ok (.aload_n 0, 1) := by decide +kernel
theorem dX18_mint_7 : decode cX18_mint 7 = .ok (.getfield 612, 3) := by decide +kernel
theorem dX18_mint_10 : decode cX18_mint 10 = .ok (.aload_n 0, 1) := by decide +kernel
theorem dX18_mint_11 : decode cX18_mint 11 = .ok (.getfield 615, 3) := by decide +kernel
theorem dX18_mint_14 : decode cX18_mint 14 = .ok (.lsub, 1) := by decide +kernel
theorem dX18_mint_15 : decode cX18_mint 15 = .ok (.lload_n 3, 1) := by decide +kernel
theorem dX18_mint_16 : decode cX18_mint 16 = .ok (.ladd, 1) := by decide +kernel
theorem dX18_mint_17 : decode cX18_mint 17 = .ok (.ldc2_w 618, 3) := by decide +kernel
theorem dX18_mint_20 : decode cX18_mint 20 = .ok (.lcmp, 1) := by decide +kernel
theorem dX18_mint_21 : decode cX18_mint 21 = .ok (.ifCond .ge 19, 3) := by decide +kernel
theorem dX18_mint_24 : decode cX18_mint 24 = .ok (.aload_n 0, 1) := by decide +kernel
theorem dX18_mint_25 : decode cX18_mint 25 = .ok (.getfield 612, 3) := by decide +kernel
theorem dX18_mint_28 : decode cX18_mint 28 = .ok (.aload_n 0, 1) := by decide +kernel
theorem dX18_mint_29 : decode cX18_mint 29 = .ok (.getfield 615, 3) := by decide +kernel
theorem dX18_mint_32 : decode cX18_mint 32 = .ok (.lsub, 1) := by decide +kernel
theorem dX18_mint_33 : decode cX18_mint 33 = .ok (.lload_n 3, 1) := by decide +kernel
theorem dX18_mint_34 : decode cX18_mint 34 = .ok (.ladd, 1) := by decide +kernel
theorem dX18_mint_35 : decode cX18_mint 35 = .ok (.lconst 0, 1) := by decide +kernel
theorem dX18_mint_36 : decode cX18_mint 36 = .ok (.lcmp, 1) := by decide +kernel
theorem dX18_mint_37 : decode cX18_mint 37 = .ok (.ifCond .ge 5, 3) := by decide +kernel
theorem dX18_mint_40 : decode cX18_mint 40 = .ok (.iconst 0, 1) := by decide +kernel
theorem dX18_mint_41 : decode cX18_mint 41 = .ok (.ireturn, 1) := by decide +kernel
theorem dX18_mint_42 : decode cX18_mint 42 = .ok (.aload_n 0, 1) := by decide +kernel
theorem dX18_mint_43 : decode cX18_mint 43 = .ok (.lload_n 1, 1) := by decide +kernel
theorem dX18_mint_44 : decode cX18_mint 44 = .ok (.invokevirtual 288, 3) := by decide +kernel
theorem dX18_mint_47 : decode cX18_mint 47 = .ok (.istore 5, 2) := by decide +kernel
theorem dX18_mint_49 : decode cX18_mint 49 = .ok (.iload 5, 2) := by decide +kernel
theorem dX18_mint_51 : decode cX18_mint 51 = .ok (.ifCond .ge 15, 3) := by decide +kernel
theorem dX18_mint_54 : decode cX18_mint 54 = .ok (.aload_n 0, 1) := by decide +kernel
theorem dX18_mint_55 : decode cX18_mint 55 = .ok (.invokevirtual 620, 3) := by decide +kernel
theorem dX18_mint_58 : decode cX18_mint 58 = .ok (.sipush 256, 3) := by decide +kernel
theorem dX18_mint_61 : decode cX18_mint 61 = .ok (.if_icmp .ne 5, 3) := by decide +kernel
theorem dX18_mint_64 : decode cX18_mint 64 = .ok (.iconst 0, 1) := by decide +kernel
theorem dX18_mint_65 : decode cX18_mint 65 = .ok (.ireturn, 1) := by decide +kernel
theorem dX18_mint_66 : decode cX18_mint 66 = .ok (.iload 5, 2) := by decide +kernel
theorem dX18_mint_68 : decode cX18_mint 68 = .ok (.ifCond .ge 11, 3) := by decide +kernel
theorem dX18_mint_71 : decode cX18_mint 71 = .ok (.aload_n 0, 1) := by decide +kernel
theorem dX18_mint_72 : decode cX18_mint 72 = .ok (.lload_n 1, 1) := by decide +kernel
theorem dX18_mint_73 : decode cX18_mint 73 = .ok (.invokevirtual 623, 3) := by decide +kernel
theorem dX18_mint_76 : decode cX18_mint 76 = .ok (.goto 5, 3) := by decide +kernel
theorem dX18_mint_79 : decode cX18_mint 79 = .ok (.iload 5, 2) := by decide +kernel
theorem dX18_mint_81 : decode cX18_mint 81 = .ok (.istore 5, 2) := by decide +kernel
theorem dX18_mint_83 : decode cX18_mint 83 = .ok (.aload_n 0, 1) := by decide +kernel
theorem dX18_mint_84 : decode cX18_mint 84 = .ok (.getfield 303, 3) := by decide +kernel
theorem dX18_mint_87 : decode cX18_mint 87 = .ok (.iload 5, 2) := by decide +kernel
theorem dX18_mint_89 : decode cX18_mint 89 = .ok (.dup2, 1) := by decide +kernel
theorem dX18_mint_90 : decode cX18_mint 90 = .ok (.laload, 1) := by decide +kernel
theorem dX18_mint_91 : decode cX18_mint 91 = .ok (.lload_n 3, 1) := by decide +kernel
theorem dX18_mint_92 : decode cX18_mint 92 = .ok (.ladd, 1) := by decide +kernel
theorem dX18_mint_93 : decode cX18_mint 93 = .ok (.lastore, 1) := by decide +kernel
theorem dX18_mint_94 : decode cX18_mint 94 = .ok (.aload_n 0, 1) := by decide +kernel
theorem dX18_mint_95 : decode cX18_mint 95 = .ok (.dup, 1) := by decide +kernel
theorem dX18_mint_96 : decode cX18_mint 96 = .ok (.getfield 612, 3) := by decide +kernel
theorem dX18_mint_99 : decode cX18_mint 99 = .ok (.lload_n 3, 1) := by decide +kernel
theorem dX18_mint_100 : decode cX18_mint 100 = .ok (.ladd, 1) := by decide +kernel
theorem dX18_mint_101 : decode cX18_mint 101 = .ok (.putfield 612, 3) := by decide +kernel
theorem dX18_mint_104 : decode cX18_mint 104 = .ok (.iconst 1, 1) := by decide +kernel
theorem dX18_mint_105 : decode cX18_mint 105 = .ok (.ireturn, 1) := by decide +kernel
theorem dX18_newAccount_0 : decode cX18_newAccount 0 = .ok (.aload_n 0, 1) := by decide +kernel
theorem dX18_newAccount_1 : decode cX18_newAccount 1 = .ok (.getfield 13, 3) := by decide +kernel
theorem dX18_newAccount_4 : decode cX18_newAccount 4 = .ok (.aload_n 0, 1) := by decide +kernel
theorem dX18_newAccount_5 : decode cX18_newAccount 5 = .ok (.getfield 1, 3) := by decide +kernel
theorem dX18_newAccount_8 : decode cX18_newAccount 8 = .ok (.lload_n 1, 1) := by decide +kernel
theorem dX18_newAccount_9 : decode cX18_newAccount 9 = .ok (.lastore, 1) := by decide +kernel
theorem dX18_newAccount_10 : decode cX18_newAccount 10 = .ok (.aload_n 0, 1) := by decide +kernel
theorem dX18_newAccount_11 : decode cX18_newAccount 11 = .ok (.getfield 303, 3) := by decide +kernel
theorem dX18_newAccount_14 : decode cX18_newAccount 14 = .ok (.aload_n 0, 1) := by decide +kernel
theorem dX18_newAccount_15 : decode cX18_newAccount 15 = .ok (.getfield 1, 3) := by decide +kernel
theorem dX18_newAccount_18 : decode cX18_newAccount 18 = .ok (.lconst 0, 1) := by decide +kernel
theorem dX18_newAccount_19 : decode cX18_newAccount 19 = .ok (.lastore, 1) := by decide +kernel
theorem dX18_newAccount_20 : decode cX18_newAccount 20 = .ok (.aload_n 0, 1) := by decide +kernel
theorem dX18_newAccount_21 : decode cX18_newAccount 21 = .ok (.getfield 519, 3) := by decide +kernel
theorem dX18_newAccount_24 : decode cX18_newAccount 24 = .ok (.aload_n 0, 1) := by decide +kernel
theorem dX18_newAccount_25 : decode cX18_newAccount 25 = .ok (.getfield 1, 3) := by decide +kernel
theorem dX18_newAccount_28 : decode cX18_newAccount 28 = .ok (.lconst 0, 1) := by decide +kernel
theorem dX18_newAccount_29 : decode cX18_newAccount 29 = .ok (.lastore, 1) := by decide +kernel
theorem dX18_newAccount_30 : decode cX18_newAccount 30 = .ok (.aload_n 0, 1) := by decide +kernel
theorem dX18_newAccount_31 : decode cX18_newAccount 31 = .ok (.dup, 1) := by decide +kernel
theorem dX18_newAccount_32 : decode cX18_newAccount 32 = .ok (.getfield 1, 3) := by decide +kernel
theorem dX18_newAccount_35 : decode cX18_newAccount 35 = .ok (.iconst 1, 1) := by decide +kernel
theorem dX18_newAccount_36 : decode cX18_newAccount 36 = .ok (.iadd, 1) := by decide +kernel
theorem dX18_newAccount_37 : decode cX18_newAccount 37 = .ok (.putfield 1, 3) := by decide +kernel
theorem dX18_newAccount_40 : decode cX18_newAccount 40 = .ok (.aload_n 0, 1) := by decide +kernel
theorem dX18_newAccount_41 : decode cX18_newAccount 41 = .ok (.getfield 1, 3) := by decide +kernel
theorem dX18_newAccount_44 : decode cX18_newAccount 44 = .ok (.iconst 1, 1) := by decide +kernel
theorem dX18_newAccount_45 : decode cX18_newAccount 45 = .ok (.isub, 1) := by decide +kernel
theorem dX18_newAccount_46 : decode cX18_newAccount 46 = .ok (.ireturn, 1) := by decide +kernel
theorem dX18_begin_0 : decode cX18_begin 0 = .ok (.aload_n 0, 1) := by decide +kernel
theorem dX18_begin_1 : decode cX18_begin 1 = .ok (.getfield 626, 3) := by decide +kernel
theorem dX18_begin_4 : decode cX18_begin 4 = .ok (.istore_n 1, 1) := by decide +kernel
theorem dX18_begin_5 : decode cX18_begin 5 = .ok (.aload_n 0, 1) := by decide +kernel
theorem dX18_begin_6 : decode cX18_begin 6 = .ok (.iconst 0, 1) := by decide +kernel
theorem dX18_begin_7 : decode cX18_begin 7 = .ok (.putfield 626, 3) := by decide +kernel
theorem dX18_begin_10 : decode cX18_begin 10 = .ok (.aload_n 0, 1) := by decide +kernel
theorem dX18_begin_11 : decode cX18_begin 11 = .ok (.iconst 0, 1) := by decide +kernel
theorem dX18_begin_12 : decode cX18_begin 12 = .ok (.putfield 628, 3) := by decide +kernel
theorem dX18_begin_15 : decode cX18_begin 15 = .ok (.iload_n 1, 1) := by decide +kernel
theorem dX18_begin_16 : decode cX18_begin 16 = .ok (.ireturn, 1) := by decide +kernel
theorem dX18_isLimit_0 : decode cX18_isLimit 0 = .ok (.iload_n 0, 1) := by decide +kernel
theorem dX18_isLimit_1 : decode cX18_isLimit 1 = .ok (.bipush 10, 2) := by decide +kernel
theorem dX18_isLimit_3 : decode cX18_isLimit 3 = .ok (.if_icmp .lt 14, 3) := by decide +kernel
theorem dX18_isLimit_6 : decode cX18_isLimit 6 = .ok (.iload_n 0, 1) := by decide +kernel
theorem dX18_isLimit_7 : decode cX18_isLimit 7 = .ok (.sipush 20000, 3) := by decide +kernel
theorem dX18_isLimit_10 : decode cX18_isLimit 10 = .ok (.if_icmp .gt 7, 3) := by decide +kernel
theorem dX18_isLimit_13 : decode cX18_isLimit 13 = .ok (.iconst 1, 1) := by decide +kernel
theorem dX18_isLimit_14 : decode cX18_isLimit 14 = .ok (.goto 4, 3) := by decide +kernel
theorem dX18_isLimit_17 : decode cX18_isLimit 17 = .ok (.iconst 0, 1) := by decide +kernel
theorem dX18_isLimit_18 : decode cX18_isLimit 18 = .ok (.ireturn, 1) := by decide +kernel
theorem dX18_add_0 : decode cX18_add 0 = .ok (.aload_n 0, 1) := by decide +kernel
theorem dX18_add_1 : decode cX18_add 1 = .ok (.getfield 626, 3) := by decide +kernel
theorem dX18_add_4 : decode cX18_add 4 = .ok (.istore 7, 2) := by decide +kernel
theorem dX18_add_6 : decode cX18_add 6 = .ok (.aload_n 0, 1) := by decide +kernel
theorem dX18_add_7 : decode cX18_add 7 = .ok (.dup, 1) := by decide +kernel
theorem dX18_add_8 : decode cX18_add 8 = .ok (.getfield 626, 3) := by decide +kernel
theorem dX18_add_11 : decode cX18_add 11 = .ok (.iconst 1, 1) := by decide +kernel
theorem dX18_add_12 : decode cX18_add 12 = .ok (.iadd, 1) := by decide +kernel
theorem dX18_add_13 : decode cX18_add 13 = .ok (.putfield 626, 3) := by decide +kernel
theorem dX18_add_16 : decode cX18_add 16 = .ok (.aload_n 0, 1) := by decide +kernel
theorem dX18_add_17 : decode cX18_add 17 = .ok (.getfield 538, 3) := by decide +kernel
theorem dX18_add_20 : decode cX18_add 20 = .ok (.iload 7, 2) := by decide +kernel
theorem dX18_add_22 : decode cX18_add 22 = .ok (.iload_n 1, 1) := by decide +kernel
theorem dX18_add_23 : decode cX18_add 23 = .ok (.iastore, 1) := by decide +kernel
theorem dX18_add_24 : decode cX18_add 24 = .ok (.aload_n 0, 1) := by decide +kernel
theorem dX18_add_25 : decode cX18_add 25 = .ok (.getfield 541, 3) := by decide +kernel
theorem dX18_add_28 : decode cX18_add 28 = .ok (.iload 7, 2) := by decide +kernel
theorem dX18_add_30 : decode cX18_add 30 = .ok (.lload_n 2, 1) := by decide +kernel
theorem dX18_add_31 : decode cX18_add 31 = .ok (.lastore, 1) := by decide +kernel
theorem dX18_add_32 : decode cX18_add 32 = .ok (.aload_n 0, 1) := by decide +kernel
theorem dX18_add_33 : decode cX18_add 33 = .ok (.getfield 544, 3) := by decide +kernel
theorem dX18_add_36 : decode cX18_add 36 = .ok (.iload 7, 2) := by decide +kernel
theorem dX18_add_38 : decode cX18_add 38 = .ok (.lload 4, 2) := by decide +kernel
theorem dX18_add_40 : decode cX18_add 40 = .ok (.lastore, 1) := by decide +kernel
theorem dX18_add_41 : decode cX18_add 41 = .ok (.aload_n 0, 1) := by decide +kernel
theorem dX18_add_42 : decode cX18_add 42 = .ok (.getfield 547, 3) := by decide +kernel
theorem dX18_add_45 : decode cX18_add 45 = .ok (.iload 7, 2) := by decide +kernel
theorem dX18_add_47 : decode cX18_add 47 = .ok (.iload 6, 2) := by decide +kernel
theorem dX18_add_49 : decode cX18_add 49 = .ok (.iastore, 1) := by decide +kernel
theorem dX18_add_50 : decode cX18_add 50 = .ok (.aload_n 0, 1) := by decide +kernel
theorem dX18_add_51 : decode cX18_add 51 = .ok (.getfield 556, 3) := by decide +kernel
theorem dX18_add_54 : decode cX18_add 54 = .ok (.iload 7, 2) := by decide +kernel
theorem dX18_add_56 : decode cX18_add 56 = .ok (.iconst 0, 1) := by decide +kernel
theorem dX18_add_57 : decode cX18_add 57 = .ok (.iastore, 1) := by decide +kernel
theorem dX18_add_58 : decode cX18_add 58 = .ok (.iload 7, 2) := by decide +kernel
theorem dX18_add_60 : decode cX18_add 60 = .ok (.ireturn, 1) := by decide +kernel
set_option maxRecDepth 20000 in
theorem ggX18_publish_X18_isLimit : GoodIn wsX18_publish wsX18_isLimit := goodIn_r _ [9] rfl (by decide +kernel)
set_option maxRecDepth 20000 in
theorem gX18_publish_X18_isLimit : GoodIn wsX18_publish (va_wsS RX18 631 yX18_isLimit wsX18_isLimit) := goodIn_app (goodIn_of _ (by decide +kernel)) ggX18_publish_X18_isLimit
set_option maxRecDepth 20000 in
theorem ggX18_publish_X18_add : GoodIn wsX18_publish wsX18_add := goodIn_r _ [13, 1, 14, 15, 16, 17, 18, 19, 20, 21, 22, 23, 24, 25, 26, 27, 28, 29, 30, 31, 32, 33, 34, 35, 36, 37, 38, 39, 40, 41, 42, 43, 44, 45, 46, 47, 48, 49, 50, 51, 52, 53, 54, 55, 56, 57, 58, 59, 60, 61, 62, 63, 64, 65, 66, 67, 68, 69, 70, 71, 72, 73, 74, 75, 76, 77, 78, 79, 80, 81, 82, 83, 84, 85, 86, 87, 88, 89, 90, 91, 92, 93, 94, 95, 96] rfl (by decide +kernel)
set_option maxRecDepth 20000 in
theorem gX18_publish_X18_add : GoodIn wsX18_publish (wsV RX18 634 RX18 yX18_add wsX18_add) := goodIn_app (goodIn_of _ (by decide +kernel)) ggX18_publish_X18_add
theorem dX18_publish_0 : decode cX18_publish 0 = .ok (.iload 5, 2) := by decide +kernel
theorem dX18_publish_2 : decode cX18_publish 2 = .ok (.invokestatic 631, 3) := by decide +kernel
theorem dX18_publish_5 : decode cX18_publish 5 = .ok (.ifCond .ne 5, 3) := by decide +kernel
theorem dX18_publish_8 : decode cX18_publish 8 = .ok (.iconst (-1), 1) := by decide +kernel
theorem dX18_publish_9 : decode cX18_publish 9 = .ok (.ireturn, 1) := by decide +kernel
theorem dX18_publish_10 : decode cX18_publish 10 = .ok (.aload_n 0, 1) := by decide +kernel
theorem dX18_publish_11 : decode cX18_publish 11 = .ok (.getfield 626, 3) := by decide +kernel
theorem dX18_publish_14 : decode cX18_publish 14 = .ok (.bipush 32, 2) := by decide +kernel
theorem dX18_publish_16 : decode cX18_publish 16 = .ok (.if_icmp .ne 6, 3) := by decide +kernel
theorem dX18_publish_19 : decode cX18_publish 19 = .ok (.bipush (-3), 2) := by decide +kernel
theorem dX18_publish_21 : decode cX18_publish 21 = .ok (.ireturn, 1) := by decide +kernel
theorem dX18_publish_22 : decode cX18_publish 22 = .ok (.aload_n 0, 1) := by decide +kernel
theorem dX18_publish_23 : decode cX18_publish 23 = .ok (.iconst 1, 1) := by decide +kernel
theorem dX18_publish_24 : decode cX18_publish 24 = .ok (.lload_n 1, 1) := by decide +kernel
theorem dX18_publish_25 : decode cX18_publish 25 = .ok (.lload_n 3, 1) := by decide +kernel
theorem dX18_publish_26 : decode cX18_publish 26 = .ok (.iload 5, 2) := by decide +kernel
theorem dX18_publish_28 : decode cX18_publish 28 = .ok (.invokevirtual 634, 3) := by decide +kernel
theorem dX18_publish_31 : decode cX18_publish 31 = .ok (.istore 6, 2) := by decide +kernel
theorem dX18_publish_33 : decode cX18_publish 33 = .ok (.iconst 0, 1) := by decide +kernel
theorem dX18_publish_34 : decode cX18_publish 34 = .ok (.istore 7, 2) := by decide +kernel
theorem dX18_publish_36 : decode cX18_publish 36 = .ok (.iload 7, 2) := by decide +kernel
theorem dX18_publish_38 : decode cX18_publish 38 = .ok (.aload_n 0, 1) := by decide +kernel
theorem dX18_publish_39 : decode cX18_publish 39 = .ok (.getfield 609, 3) := by decide +kernel
theorem dX18_publish_42 : decode cX18_publish 42 = .ok (.if_icmp .ge 30, 3) := by decide +kernel
theorem dX18_publish_45 : decode cX18_publish 45 = .ok (.aload_n 0, 1) := by decide +kernel
theorem dX18_publish_46 : decode cX18_publish 46 = .ok (.getfield 569, 3) := by decide +kernel
theorem dX18_publish_49 : decode cX18_publish 49 = .ok (.sipush 2048, 3) := by decide +kernel
theorem dX18_publish_52 : decode cX18_publish 52 = .ok (.iload 6, 2) := by decide +kernel
theorem dX18_publish_54 : decode cX18_publish 54 = .ok (.imul, 1) := by decide +kernel
theorem dX18_publish_55 : decode cX18_publish 55 = .ok (.iload 7, 2) := by decide +kernel
theorem dX18_publish_57 : decode cX18_publish 57 = .ok (.iadd, 1) := by decide +kernel
theorem dX18_publish_58 : decode cX18_publish 58 = .ok (.aload_n 0, 1) := by decide +kernel
theorem dX18_publish_59 : decode cX18_publish 59 = .ok (.getfield 535, 3) := by decide +kernel
theorem dX18_publish_62 : decode cX18_publish 62 = .ok (.iload 7, 2) := by decide +kernel
theorem dX18_publish_64 : decode cX18_publish 64 = .ok (.baload, 1) := by decide +kernel
theorem dX18_publish_65 : decode cX18_publish 65 = .ok (.bastore, 1) := by decide +kernel
theorem dX18_publish_66 : decode cX18_publish 66 = .ok (.iinc 7 1, 3) := by decide +kernel
theorem dX18_publish_69 : decode cX18_publish 69 = .ok (.goto (-33), 3) := by decide +kernel
theorem dX18_publish_72 : decode cX18_publish 72 = .ok (.aload_n 0, 1) := by decide +kernel
theorem dX18_publish_73 : decode cX18_publish 73 = .ok (.getfield 572, 3) := by decide +kernel
theorem dX18_publish_76 : decode cX18_publish 76 = .ok (.iload 6, 2) := by decide +kernel
theorem dX18_publish_78 : decode cX18_publish 78 = .ok (.aload_n 0, 1) := by decide +kernel
theorem dX18_publish_79 : decode cX18_publish 79 = .ok (.getfield 609, 3) := by decide +kernel
theorem dX18_publish_82 : decode cX18_publish 82 = .ok (.iastore, 1) := by decide +kernel
theorem dX18_publish_83 : decode cX18_publish 83 = .ok (.aload_n 0, 1) := by decide +kernel
theorem dX18_publish_84 : decode cX18_publish 84 = .ok (.iconst 0, 1) := by decide +kernel
theorem dX18_publish_85 : decode cX18_publish 85 = .ok (.putfield 609, 3) := by decide +kernel
theorem dX18_publish_88 : decode cX18_publish 88 = .ok (.iload 6, 2) := by decide +kernel
theorem dX18_publish_90 : decode cX18_publish 90 = .ok (.ireturn, 1) := by decide +kernel
set_option maxRecDepth 20000 in
theorem ggX18_call_X18_isLimit : GoodIn wsX18_call wsX18_isLimit := goodIn_r _ [8] rfl (by decide +kernel)
set_option maxRecDepth 20000 in
theorem gX18_call_X18_isLimit : GoodIn wsX18_call (va_wsS RX18 631 yX18_isLimit wsX18_isLimit) := goodIn_app (goodIn_of _ (by decide +kernel)) ggX18_call_X18_isLimit
set_option maxRecDepth 20000 in
theorem ggX18_call_X18_add : GoodIn wsX18_call wsX18_add := goodIn_r _ [12, 2, 13, 14, 15, 16, 17, 18, 19, 20, 21, 22, 23, 24, 25, 26, 27, 28, 29, 30, 31, 32, 33, 34, 35, 36, 37, 38, 39, 40, 41, 42, 43, 44, 45, 46, 47, 48, 49, 50, 51, 52, 53, 54, 55, 56, 57, 58, 59, 60, 61, 62, 63, 64, 65, 66, 67, 68, 69, 70, 71, 72, 73, 74, 75, 76, 77, 78, 79, 80, 81, 82, 83, 84, 85, 86, 87, 88, 89, 90, 91, 92, 93, 94, 95] rfl (by decide +kernel)
set_option maxRecDepth 20000 in
theorem gX18_call_X18_add : GoodIn wsX18_call (wsV RX18 634 RX18 yX18_add wsX18_add) := goodIn_app (goodIn_of _ (by decide +kernel)) ggX18_call_X18_add
theorem dX18_call_0 : decode cX18_call 0 = .ok (.iload 5, 2) := by decide +kernel
theorem dX18_call_2 : decode cX18_call 2 = .ok (.invokestatic 631, 3) := by decide +kernel
theorem dX18_call_5 : decode cX18_call 5 = .ok (.ifCond .eq 28, 3) := by decide +kernel
theorem dX18_call_8 : decode cX18_call 8 = .ok (.iload 6, 2) := by decide +kernel
theorem dX18_call_10 : decode cX18_call 10 = .ok (.ifCond .lt 23, 3) := by decide +kernel
theorem dX18_call_13 : decode cX18_call 13 = .ok (.iload 6, 2) := by decide +kernel
theorem dX18_call_15 : decode cX18_call 15 = .ok (.ldc_w 637, 3) := by decide +kernel
theorem dX18_call_18 : decode cX18_call 18 = .ok (.if_icmp .gt 15, 3) := by decide +kernel
theorem dX18_call_21 : decode cX18_call 21 = .ok (.iload 7, 2) := by decide +kernel
theorem dX18_call_23 : decode cX18_call 23 = .ok (.ifCond .lt 10, 3) := by decide +kernel
theorem dX18_call_26 : decode cX18_call 26 = .ok (.iload 7, 2) := by decide +kernel
theorem dX18_call_28 : decode cX18_call 28 = .ok (.bipush 63, 2) := by decide +kernel
theorem dX18_call_30 : decode cX18_call 30 = .ok (.if_icmp .le 5, 3) := by decide +kernel
theorem dX18_call_33 : decode cX18_call 33 = .ok (.iconst (-1), 1) := by decide +kernel
theorem dX18_call_34 : decode cX18_call 34 = .ok (.ireturn, 1) := by decide +kernel
theorem dX18_call_35 : decode cX18_call 35 = .ok (.aload_n 0, 1) := by decide +kernel
theorem dX18_call_36 : decode cX18_call 36 = .ok (.getfield 626, 3) := by decide +kernel
theorem dX18_call_39 : decode cX18_call 39 = .ok (.bipush 32, 2) := by decide +kernel
theorem dX18_call_41 : decode cX18_call 41 = .ok (.if_icmp .ne 6, 3) := by decide +kernel
theorem dX18_call_44 : decode cX18_call 44 = .ok (.bipush (-3), 2) := by decide +kernel
theorem dX18_call_46 : decode cX18_call 46 = .ok (.ireturn, 1) := by decide +kernel
theorem dX18_call_47 : decode cX18_call 47 = .ok (.aload_n 0, 1) := by decide +kernel
theorem dX18_call_48 : decode cX18_call 48 = .ok (.iconst 2, 1) := by decide +kernel
theorem dX18_call_49 : decode cX18_call 49 = .ok (.lload_n 1, 1) := by decide +kernel
theorem dX18_call_50 : decode cX18_call 50 = .ok (.lload_n 3, 1) := by decide +kernel
theorem dX18_call_51 : decode cX18_call 51 = .ok (.iload 5, 2) := by decide +kernel
theorem dX18_call_53 : decode cX18_call 53 = .ok (.invokevirtual 634, 3) := by decide +kernel
theorem dX18_call_56 : decode cX18_call 56 = .ok (.istore 8, 2) := by decide +kernel
theorem dX18_call_58 : decode cX18_call 58 = .ok (.aload_n 0, 1) := by decide +kernel
theorem dX18_call_59 : decode cX18_call 59 = .ok (.getfield 550, 3) := by decide +kernel
theorem dX18_call_62 : decode cX18_call 62 = .ok (.iload 8, 2) := by decide +kernel
theorem dX18_call_64 : decode cX18_call 64 = .ok (.iload 6, 2) := by decide +kernel
theorem dX18_call_66 : decode cX18_call 66 = .ok (.iastore, 1) := by decide +kernel
theorem dX18_call_67 : decode cX18_call 67 = .ok (.aload_n 0, 1) := by decide +kernel
theorem dX18_call_68 : decode cX18_call 68 = .ok (.getfield 553, 3) := by decide +kernel
theorem dX18_call_71 : decode cX18_call 71 = .ok (.iload 8, 2) := by decide +kernel
theorem dX18_call_73 : decode cX18_call 73 = .ok (.iload 7, 2) := by decide +kernel
theorem dX18_call_75 : decode cX18_call 75 = .ok (.iastore, 1) := by decide +kernel
theorem dX18_call_76 : decode cX18_call 76 = .ok (.iload 8, 2) := by decide +kernel
theorem dX18_call_78 : decode cX18_call 78 = .ok (.ireturn, 1) := by decide +kernel
theorem dX18_argument_0 : decode cX18_argument 0 = .ok (.iload_n 1, 1) := by decide +kernel
theorem dX18_argument_1 : decode cX18_argument 1 = .ok (.iconst 1, 1) := by decide +kernel
theorem dX18_argument_2 : decode cX18_argument 2 = .ok (.if_icmp .ne 25, 3) := by decide +kernel
theorem dX18_argument_5 : decode cX18_argument 5 = .ok (.lload 4, 2) := by decide +kernel
theorem dX18_argument_7 : decode cX18_argument 7 = .ok (.lconst 0, 1) := by decide +kernel
theorem dX18_argument_8 : decode cX18_argument 8 = .ok (.lcmp, 1) := by decide +kernel
theorem dX18_argument_9 : decode cX18_argument 9 = .ok (.ifCond .eq 10, 3) := by decide +kernel
theorem dX18_argument_12 : decode cX18_argument 12 = .ok (.lload 4, 2) := by decide +kernel
theorem dX18_argument_14 : decode cX18_argument 14 = .ok (.lconst 1, 1) := by decide +kernel
theorem dX18_argument_15 : decode cX18_argument 15 = .ok (.lcmp, 1) := by decide +kernel
theorem dX18_argument_16 : decode cX18_argument 16 = .ok (.ifCond .ne 7, 3) := by decide +kernel
theorem dX18_argument_19 : decode cX18_argument 19 = .ok (.iconst 1, 1) := by decide +kernel
theorem dX18_argument_20 : decode cX18_argument 20 = .ok (.goto 51, 3) := by decide +kernel
theorem dX18_argument_23 : decode cX18_argument 23 = .ok (.iconst 0, 1) := by decide +kernel
theorem dX18_argument_24 : decode cX18_argument 24 = .ok (.goto 47, 3) := by decide +kernel
theorem dX18_argument_27 : decode cX18_argument 27 = .ok (.iload_n 1, 1) := by decide +kernel
theorem dX18_argument_28 : decode cX18_argument 28 = .ok (.iconst 2, 1) := by decide +kernel
theorem dX18_argument_29 : decode cX18_argument 29 = .ok (.if_icmp .ne 27, 3) := by decide +kernel
theorem dX18_argument_32 : decode cX18_argument 32 = .ok (.lload 4, 2) := by decide +kernel
theorem dX18_argument_34 : decode cX18_argument 34 = .ok (.lconst 0, 1) := by decide +kernel
theorem dX18_argument_35 : decode cX18_argument 35 = .ok (.lcmp, 1) := by decide +kernel
theorem dX18_argument_36 : decode cX18_argument 36 = .ok (.ifCond .lt 16, 3) := by decide +kernel
theorem dX18_argument_39 : decode cX18_argument 39 = .ok (.lload 4, 2) := by decide +kernel
theorem dX18_argument_41 : decode cX18_argument 41 = .ok (.ldc2_w 638, 3) := by decide +kernel
theorem dX18_argument_44 : decode cX18_argument 44 = .ok (.lcmp, 1) := by decide +kernel
theorem dX18_argument_45 : decode cX18_argument 45 = .ok (.ifCond .ge 7, 3) := by decide +kernel
theorem dX18_argument_48 : decode cX18_argument 48 = .ok (.iconst 1, 1) := by decide +kernel
theorem dX18_argument_49 : decode cX18_argument 49 = .ok (.goto 22, 3) := by decide +kernel
theorem dX18_argument_52 : decode cX18_argument 52 = .ok (.iconst 0, 1) := by decide +kernel
theorem dX18_argument_53 : decode cX18_argument 53 = .ok (.goto 18, 3) := by decide +kernel
theorem dX18_argument_56 : decode cX18_argument 56 = .ok (.iload_n 1, 1) := by decide +kernel
theorem dX18_argument_57 : decode cX18_argument 57 = .ok (.iconst 3, 1) := by decide +kernel
theorem dX18_argument_58 : decode cX18_argument 58 = .ok (.if_icmp .lt 12, 3) := by decide +kernel
theorem dX18_argument_61 : decode cX18_argument 61 = .ok (.iload_n 1, 1) := by decide +kernel
theorem dX18_argument_62 : decode cX18_argument 62 = .ok (.iconst 5, 1) := by decide +kernel
theorem dX18_argument_63 : decode cX18_argument 63 = .ok (.if_icmp .gt 7, 3) := by decide +kernel
theorem dX18_argument_66 : decode cX18_argument 66 = .ok (.iconst 1, 1) := by decide +kernel
theorem dX18_argument_67 : decode cX18_argument 67 = .ok (.goto 4, 3) := by decide +kernel
theorem dX18_argument_70 : decode cX18_argument 70 = .ok (.iconst 0, 1) := by decide +kernel
theorem dX18_argument_71 : decode cX18_argument 71 = .ok (.istore 6, 2) := by decide +kernel
theorem dX18_argument_73 : decode cX18_argument 73 = .ok (.iload 6, 2) := by decide +kernel
theorem dX18_argument_75 : decode cX18_argument 75 = .ok (.ifCond .eq 14, 3) := by decide +kernel
theorem dX18_argument_78 : decode cX18_argument 78 = .ok (.iload_n 1, 1) := by decide +kernel
theorem dX18_argument_79 : decode cX18_argument 79 = .ok (.iconst 4, 1) := by decide +kernel
theorem dX18_argument_80 : decode cX18_argument 80 = .ok (.if_icmp .eq 11, 3) := by decide +kernel
theorem dX18_argument_83 : decode cX18_argument 83 = .ok (.lload_n 2, 1) := by decide +kernel
theorem dX18_argument_84 : decode cX18_argument 84 = .ok (.lconst 0, 1) := by decide +kernel
theorem dX18_argument_85 : decode cX18_argument 85 = .ok (.lcmp, 1) := by decide +kernel
theorem dX18_argument_86 : decode cX18_argument 86 = .ok (.ifCond .eq 5, 3) := by decide +kernel
theorem dX18_argument_89 : decode cX18_argument 89 = .ok (.iconst (-1), 1) := by decide +kernel
theorem dX18_argument_90 : decode cX18_argument 90 = .ok (.ireturn, 1) := by decide +kernel
theorem dX18_argument_91 : decode cX18_argument 91 = .ok (.aload_n 0, 1) := by decide +kernel
theorem dX18_argument_92 : decode cX18_argument 92 = .ok (.getfield 626, 3) := by decide +kernel
theorem dX18_argument_95 : decode cX18_argument 95 = .ok (.iconst 1, 1) := by decide +kernel
theorem dX18_argument_96 : decode cX18_argument 96 = .ok (.isub, 1) := by decide +kernel
theorem dX18_argument_97 : decode cX18_argument 97 = .ok (.istore 7, 2) := by decide +kernel
theorem dX18_argument_99 : decode cX18_argument 99 = .ok (.iload 7, 2) := by decide +kernel
theorem dX18_argument_101 : decode cX18_argument 101 = .ok (.aload_n 0, 1) := by decide +kernel
theorem dX18_argument_102 : decode cX18_argument 102 = .ok (.getfield 628, 3) := by decide +kernel
theorem dX18_argument_105 : decode cX18_argument 105 = .ok (.if_icmp .lt 14, 3) := by decide +kernel
theorem dX18_argument_108 : decode cX18_argument 108 = .ok (.aload_n 0, 1) := by decide +kernel
theorem dX18_argument_109 : decode cX18_argument 109 = .ok (.getfield 538, 3) := by decide +kernel
theorem dX18_argument_112 : decode cX18_argument 112 = .ok (.iload 7, 2) := by decide +kernel
theorem dX18_argument_114 : decode cX18_argument 114 = .ok (.iaload, 1) := by decide +kernel
theorem dX18_argument_115 : decode cX18_argument 115 = .ok (.iconst 2, 1) := by decide +kernel
theorem dX18_argument_116 : decode cX18_argument 116 = .ok (.if_icmp .eq 6, 3) := by decide +kernel
theorem dX18_argument_119 : decode cX18_argument 119 = .ok (.bipush (-2), 2) := by decide +kernel
theorem dX18_argument_121 : decode cX18_argument 121 = .ok (.ireturn, 1) := by decide +kernel
theorem dX18_argument_122 : decode cX18_argument 122 = .ok (.aload_n 0, 1) := by decide +kernel
theorem dX18_argument_123 : decode cX18_argument 123 = .ok (.getfield 556, 3) := by decide +kernel
theorem dX18_argument_126 : decode cX18_argument 126 = .ok (.iload 7, 2) := by decide +kernel
theorem dX18_argument_128 : decode cX18_argument 128 = .ok (.iaload, 1) := by decide +kernel
theorem dX18_argument_129 : decode cX18_argument 129 = .ok (.bipush 8, 2) := by decide +kernel
theorem dX18_argument_131 : decode cX18_argument 131 = .ok (.if_icmp .ne 6, 3) := by decide +kernel
theorem dX18_argument_134 : decode cX18_argument 134 = .ok (.bipush (-3), 2) := by decide +kernel
theorem dX18_argument_136 : decode cX18_argument 136 = .ok (.ireturn, 1) := by decide +kernel
theorem dX18_argument_137 : decode cX18_argument 137 = .ok (.bipush 8, 2) := by decide +kernel
theorem dX18_argument_139 : decode cX18_argument 139 = .ok (.iload 7, 2) := by decide +kernel
theorem dX18_argument_141 : decode cX18_argument 141 = .ok (.imul, 1) := by decide +kernel
theorem dX18_argument_142 : decode cX18_argument 142 = .ok (.aload_n 0, 1) := by decide +kernel
theorem dX18_argument_143 : decode cX18_argument 143 = .ok (.getfield 556, 3) := by decide +kernel
theorem dX18_argument_146 : decode cX18_argument 146 = .ok (.iload 7, 2) := by decide +kernel
theorem dX18_argument_148 : decode cX18_argument 148 = .ok (.iaload, 1) := by decide +kernel
theorem dX18_argument_149 : decode cX18_argument 149 = .ok (.iadd, 1) := by decide +kernel
theorem dX18_argument_150 : decode cX18_argument 150 = .ok (.istore 8, 2) := by decide +kernel
theorem dX18_argument_152 : decode cX18_argument 152 = .ok (.aload_n 0, 1) := by decide +kernel
theorem dX18_argument_153 : decode cX18_argument 153 = .ok (.getfield 559, 3) := by decide +kernel
theorem dX18_argument_156 : decode cX18_argument 156 = .ok (.iload 8, 2) := by decide +kernel
theorem dX18_argument_158 : decode cX18_argument 158 = .ok (.iload_n 1, 1) := by decide +kernel
theorem dX18_argument_159 : decode cX18_argument 159 = .ok (.i2b, 1) := by decide +kernel
theorem dX18_argument_160 : decode cX18_argument 160 = .ok (.bastore, 1) := by decide +kernel
theorem dX18_argument_161 : decode cX18_argument 161 = .ok (.aload_n 0, 1) := by decide +kernel
theorem dX18_argument_162 : decode cX18_argument 162 = .ok (.getfield 562, 3) := by decide +kernel
theorem dX18_argument_165 : decode cX18_argument 165 = .ok (.iload 8, 2) := by decide +kernel
theorem dX18_argument_167 : decode cX18_argument 167 = .ok (.lload_n 2, 1) := by decide +kernel
theorem dX18_argument_168 : decode cX18_argument 168 = .ok (.lastore, 1) := by decide +kernel
theorem dX18_argument_169 : decode cX18_argument 169 = .ok (.aload_n 0, 1) := by decide +kernel
theorem dX18_argument_170 : decode cX18_argument 170 = .ok (.getfield 565, 3) := by decide +kernel
theorem dX18_argument_173 : decode cX18_argument 173 = .ok (.iload 8, 2) := by decide +kernel
theorem dX18_argument_175 : decode cX18_argument 175 = .ok (.lload 4, 2) := by decide +kernel
theorem dX18_argument_177 : decode cX18_argument 177 = .ok (.lastore, 1) := by decide +kernel
theorem dX18_argument_178 : decode cX18_argument 178 = .ok (.aload_n 0, 1) := by decide +kernel
theorem dX18_argument_179 : decode cX18_argument 179 = .ok (.getfield 556, 3) := by decide +kernel
theorem dX18_argument_182 : decode cX18_argument 182 = .ok (.iload 7, 2) := by decide +kernel
theorem dX18_argument_184 : decode cX18_argument 184 = .ok (.dup2, 1) := by decide +kernel
theorem dX18_argument_185 : decode cX18_argument 185 = .ok (.iaload, 1) := by decide +kernel
theorem dX18_argument_186 : decode cX18_argument 186 = .ok (.iconst 1, 1) := by decide +kernel
theorem dX18_argument_187 : decode cX18_argument 187 = .ok (.iadd, 1) := by decide +kernel
theorem dX18_argument_188 : decode cX18_argument 188 = .ok (.iastore, 1) := by decide +kernel
theorem dX18_argument_189 : decode cX18_argument 189 = .ok (.aload_n 0, 1) := by decide +kernel
theorem dX18_argument_190 : decode cX18_argument 190 = .ok (.getfield 556, 3) := by decide +kernel
theorem dX18_argument_193 : decode cX18_argument 193 = .ok (.iload 7, 2) := by decide +kernel
theorem dX18_argument_195 : decode cX18_argument 195 = .ok (.iaload, 1) := by decide +kernel
theorem dX18_argument_196 : decode cX18_argument 196 = .ok (.ireturn, 1) := by decide +kernel
theorem dX18_weave_0 : decode cX18_weave 0 = .ok (.aload_n 0, 1) := by decide +kernel
theorem dX18_weave_1 : decode cX18_weave 1 = .ok (.getfield 640, 3) := by decide +kernel
theorem dX18_weave_4 : decode cX18_weave 4 = .ok (.bipush 16, 2) := by decide +kernel
theorem dX18_weave_6 : decode cX18_weave 6 = .ok (.iadd, 1) := by decide +kernel
theorem dX18_weave_7 : decode cX18_weave 7 = .ok (.sipush 4096, 3) := by decide +kernel
theorem dX18_weave_10 : decode cX18_weave 10 = .ok (.if_icmp .le 6, 3) := by decide +kernel
theorem dX18_weave_13 : decode cX18_weave 13 = .ok (.bipush (-3), 2) := by decide +kernel
theorem dX18_weave_15 : decode cX18_weave 15 = .ok (.ireturn, 1) := by decide +kernel
theorem dX18_weave_16 : decode cX18_weave 16 = .ok (.aload_n 0, 1) := by decide +kernel
theorem dX18_weave_17 : decode cX18_weave 17 = .ok (.dup, 1) := by decide +kernel
theorem dX18_weave_18 : decode cX18_weave 18 = .ok (.getfield 640, 3) := by decide +kernel
theorem dX18_weave_21 : decode cX18_weave 21 = .ok (.bipush 16, 2) := by decide +kernel
theorem dX18_weave_23 : decode cX18_weave 23 = .ok (.iadd, 1) := by decide +kernel
theorem dX18_weave_24 : decode cX18_weave 24 = .ok (.putfield 640, 3) := by decide +kernel
theorem dX18_weave_27 : decode cX18_weave 27 = .ok (.aload_n 0, 1) := by decide +kernel
theorem dX18_weave_28 : decode cX18_weave 28 = .ok (.getfield 640, 3) := by decide +kernel
theorem dX18_weave_31 : decode cX18_weave 31 = .ok (.ireturn, 1) := by decide +kernel
theorem dX18_unweave_0 : decode cX18_unweave 0 = .ok (.aload_n 0, 1) := by decide +kernel
theorem dX18_unweave_1 : decode cX18_unweave 1 = .ok (.getfield 640, 3) := by decide +kernel
theorem dX18_unweave_4 : decode cX18_unweave 4 = .ok (.istore_n 1, 1) := by decide +kernel
theorem dX18_unweave_5 : decode cX18_unweave 5 = .ok (.aload_n 0, 1) := by decide +kernel
theorem dX18_unweave_6 : decode cX18_unweave 6 = .ok (.iconst 0, 1) := by decide +kernel
theorem dX18_unweave_7 : decode cX18_unweave 7 = .ok (.putfield 640, 3) := by decide +kernel
theorem dX18_unweave_10 : decode cX18_unweave 10 = .ok (.iload_n 1, 1) := by decide +kernel
theorem dX18_unweave_11 : decode cX18_unweave 11 = .ok (.ireturn, 1) := by decide +kernel
theorem dX18_execute_0 : decode cX18_execute 0 = .ok (.aload_n 0, 1) := by decide +kernel
theorem dX18_execute_1 : decode cX18_execute 1 = .ok (.getfield 628, 3) := by decide +kernel
theorem dX18_execute_4 : decode cX18_execute 4 = .ok (.aload_n 0, 1) := by decide +kernel
theorem dX18_execute_5 : decode cX18_execute 5 = .ok (.getfield 626, 3) := by decide +kernel
theorem dX18_execute_8 : decode cX18_execute 8 = .ok (.if_icmp .ne 6, 3) := by decide +kernel
theorem dX18_execute_11 : decode cX18_execute 11 = .ok (.bipush (-2), 2) := by decide +kernel
theorem dX18_execute_13 : decode cX18_execute 13 = .ok (.ireturn, 1) := by decide +kernel
theorem dX18_execute_14 : decode cX18_execute 14 = .ok (.iconst 0, 1) := by decide +kernel
theorem dX18_execute_15 : decode cX18_execute 15 = .ok (.istore_n 1, 1) := by decide +kernel
theorem dX18_execute_16 : decode cX18_execute 16 = .ok (.aload_n 0, 1) := by decide +kernel
theorem dX18_execute_17 : decode cX18_execute 17 = .ok (.getfield 628, 3) := by decide +kernel
theorem dX18_execute_20 : decode cX18_execute 20 = .ok (.istore_n 2, 1) := by decide +kernel
theorem dX18_execute_21 : decode cX18_execute 21 = .ok (.iload_n 2, 1) := by decide +kernel
theorem dX18_execute_22 : decode cX18_execute 22 = .ok (.aload_n 0, 1) := by decide +kernel
theorem dX18_execute_23 : decode cX18_execute 23 = .ok (.getfield 626, 3) := by decide +kernel
theorem dX18_execute_26 : decode cX18_execute 26 = .ok (.if_icmp .ge 31, 3) := by decide +kernel
theorem dX18_execute_29 : decode cX18_execute 29 = .ok (.aload_n 0, 1) := by decide +kernel
theorem dX18_execute_30 : decode cX18_execute 30 = .ok (.iload_n 2, 1) := by decide +kernel
theorem dX18_execute_31 : decode cX18_execute 31 = .ok (.invokevirtual 643, 3) := by decide +kernel
theorem dX18_execute_34 : decode cX18_execute 34 = .ok (.iload_n 1, 1) := by decide +kernel
theorem dX18_execute_35 : decode cX18_execute 35 = .ok (.aload_n 0, 1) := by decide +kernel
theorem dX18_execute_36 : decode cX18_execute 36 = .ok (.getfield 575, 3) := by decide +kernel
theorem dX18_execute_39 : decode cX18_execute 39 = .ok (.iload_n 2, 1) := by decide +kernel
theorem dX18_execute_40 : decode cX18_execute 40 = .ok (.iaload, 1) := by decide +kernel
theorem dX18_execute_41 : decode cX18_execute 41 = .ok (.ifCond .ne 7, 3) := by decide +kernel
theorem dX18_execute_44 : decode cX18_execute 44 = .ok (.iconst 1, 1) := by decide +kernel
theorem dX18_execute_45 : decode cX18_execute 45 = .ok (.goto 4, 3) := by decide +kernel
theorem dX18_execute_48 : decode cX18_execute 48 = .ok (.iconst 0, 1) := by decide +kernel
theorem dX18_execute_49 : decode cX18_execute 49 = .ok (.iadd, 1) := by decide +kernel
theorem dX18_execute_50 : decode cX18_execute 50 = .ok (.istore_n 1, 1) := by decide +kernel
theorem dX18_execute_51 : decode cX18_execute 51 = .ok (.iinc 2 1, 3) := by decide +kernel
theorem dX18_execute_54 : decode cX18_execute 54 = .ok (.goto (-33), 3) := by decide +kernel
theorem dX18_execute_57 : decode cX18_execute 57 = .ok (.aload_n 0, 1) := by decide +kernel
theorem dX18_execute_58 : decode cX18_execute 58 = .ok (.aload_n 0, 1) := by decide +kernel
theorem dX18_execute_59 : decode cX18_execute 59 = .ok (.getfield 626, 3) := by decide +kernel
theorem dX18_execute_62 : decode cX18_execute 62 = .ok (.putfield 628, 3) := by decide +kernel
theorem dX18_execute_65 : decode cX18_execute 65 = .ok (.iload_n 1, 1) := by decide +kernel
theorem dX18_execute_66 : decode cX18_execute 66 = .ok (.ireturn, 1) := by decide +kernel
theorem dX18_isDone_0 : decode cX18_isDone 0 = .ok (.iload_n 1, 1) := by decide +kernel
theorem dX18_isDone_1 : decode cX18_isDone 1 = .ok (.ifCond .lt 15, 3) := by decide +kernel
theorem dX18_isDone_4 : decode cX18_isDone 4 = .ok (.iload_n 1, 1) := by decide +kernel
theorem dX18_isDone_5 : decode cX18_isDone 5 = .ok (.aload_n 0, 1) := by decide +kernel
theorem dX18_isDone_6 : decode cX18_isDone 6 = .ok (.getfield 628, 3) := by decide +kernel
theorem dX18_isDone_9 : decode cX18_isDone 9 = .ok (.if_icmp .ge 7, 3) := by decide +kernel
theorem dX18_isDone_12 : decode cX18_isDone 12 = .ok (.iconst 1, 1) := by decide +kernel
theorem dX18_isDone_13 : decode cX18_isDone 13 = .ok (.goto 4, 3) := by decide +kernel
theorem dX18_isDone_16 : decode cX18_isDone 16 = .ok (.iconst 0, 1) := by decide +kernel
theorem dX18_isDone_17 : decode cX18_isDone 17 = .ok (.ireturn, 1) := by decide +kernel
set_option maxRecDepth 20000 in
theorem ggX18_told_X18_isDone : GoodIn wsX18_told wsX18_isDone := goodIn_r _ [10, 11, 12, 13, 14, 15, 16, 17, 18, 19, 20, 21, 22, 23, 24, 25, 26, 27, 28, 29, 30, 31, 32, 33, 34, 35, 36, 37, 38, 39, 40, 41, 42, 43, 44, 45, 46, 47, 48, 49, 50, 51, 52, 53, 54, 55, 56, 57, 58, 59, 60, 61, 62, 63, 64, 65, 66, 67, 68, 69, 70, 71, 72, 73, 74, 75, 76, 77, 78, 79, 80, 81, 82, 83, 84, 85, 86, 87, 88, 89] rfl (by decide +kernel)
set_option maxRecDepth 20000 in
theorem gX18_told_X18_isDone : GoodIn wsX18_told (wsV RX18 677 RX18 yX18_isDone wsX18_isDone) := goodIn_app (goodIn_of _ (by decide +kernel)) ggX18_told_X18_isDone
theorem dX18_told_0 : decode cX18_told 0 = .ok (.iload_n 1, 1) := by decide +kernel
theorem dX18_told_1 : decode cX18_told 1 = .ok (.ifCond .lt 20, 3) := by decide +kernel
theorem dX18_told_4 : decode cX18_told 4 = .ok (.iload_n 1, 1) := by decide +kernel
theorem dX18_told_5 : decode cX18_told 5 = .ok (.aload_n 0, 1) := by decide +kernel
theorem dX18_told_6 : decode cX18_told 6 = .ok (.getfield 626, 3) := by decide +kernel
theorem dX18_told_9 : decode cX18_told 9 = .ok (.if_icmp .ge 12, 3) := by decide +kernel
theorem dX18_told_12 : decode cX18_told 12 = .ok (.iload_n 2, 1) := by decide +kernel
theorem dX18_told_13 : decode cX18_told 13 = .ok (.ifCond .lt 8, 3) := by decide +kernel
theorem dX18_told_16 : decode cX18_told 16 = .ok (.iload_n 2, 1) := by decide +kernel
theorem dX18_told_17 : decode cX18_told 17 = .ok (.iconst 3, 1) := by decide +kernel
theorem dX18_told_18 : decode cX18_told 18 = .ok (.if_icmp .le 5, 3) := by decide +kernel
theorem dX18_told_21 : decode cX18_told 21 = .ok (.iconst (-1), 1) := by decide +kernel
theorem dX18_told_22 : decode cX18_told 22 = .ok (.ireturn, 1) := by decide +kernel
theorem dX18_told_23 : decode cX18_told 23 = .ok (.aload_n 0, 1) := by decide +kernel
theorem dX18_told_24 : decode cX18_told 24 = .ok (.iload_n 1, 1) := by decide +kernel
theorem dX18_told_25 : decode cX18_told 25 = .ok (.invokevirtual 677, 3) := by decide +kernel
theorem dX18_told_28 : decode cX18_told 28 = .ok (.ifCond .ne 6, 3) := by decide +kernel
theorem dX18_told_31 : decode cX18_told 31 = .ok (.bipush (-2), 2) := by decide +kernel
theorem dX18_told_33 : decode cX18_told 33 = .ok (.ireturn, 1) := by decide +kernel
theorem dX18_told_34 : decode cX18_told 34 = .ok (.iload_n 2, 1) := by decide +kernel
theorem dX18_told_35 : decode cX18_told 35 = .ok (.ifCond .ne 12, 3) := by decide +kernel
theorem dX18_told_38 : decode cX18_told 38 = .ok (.aload_n 0, 1) := by decide +kernel
theorem dX18_told_39 : decode cX18_told 39 = .ok (.getfield 575, 3) := by decide +kernel
theorem dX18_told_42 : decode cX18_told 42 = .ok (.iload_n 1, 1) := by decide +kernel
theorem dX18_told_43 : decode cX18_told 43 = .ok (.iaload, 1) := by decide +kernel
theorem dX18_told_44 : decode cX18_told 44 = .ok (.goto 37, 3) := by decide +kernel
theorem dX18_told_47 : decode cX18_told 47 = .ok (.iload_n 2, 1) := by decide +kernel
theorem dX18_told_48 : decode cX18_told 48 = .ok (.iconst 1, 1) := by decide +kernel
theorem dX18_told_49 : decode cX18_told 49 = .ok (.if_icmp .ne 12, 3) := by decide +kernel
theorem dX18_told_52 : decode cX18_told 52 = .ok (.aload_n 0, 1) := by decide +kernel
theorem dX18_told_53 : decode cX18_told 53 = .ok (.getfield 578, 3) := by decide +kernel
theorem dX18_told_56 : decode cX18_told 56 = .ok (.iload_n 1, 1) := by decide +kernel
theorem dX18_told_57 : decode cX18_told 57 = .ok (.iaload, 1) := by decide +kernel
theorem dX18_told_58 : decode cX18_told 58 = .ok (.goto 23, 3) := by decide +kernel
theorem dX18_told_61 : decode cX18_told 61 = .ok (.iload_n 2, 1) := by decide +kernel
theorem dX18_told_62 : decode cX18_told 62 = .ok (.iconst 2, 1) := by decide +kernel
theorem dX18_told_63 : decode cX18_told 63 = .ok (.if_icmp .ne 12, 3) := by decide +kernel
theorem dX18_told_66 : decode cX18_told 66 = .ok (.aload_n 0, 1) := by decide +kernel
theorem dX18_told_67 : decode cX18_told 67 = .ok (.getfield 587, 3) := by decide +kernel
theorem dX18_told_70 : decode cX18_told 70 = .ok (.iload_n 1, 1) := by decide +kernel
theorem dX18_told_71 : decode cX18_told 71 = .ok (.iaload, 1) := by decide +kernel
theorem dX18_told_72 : decode cX18_told 72 = .ok (.goto 9, 3) := by decide +kernel
theorem dX18_told_75 : decode cX18_told 75 = .ok (.aload_n 0, 1) := by decide +kernel
theorem dX18_told_76 : decode cX18_told 76 = .ok (.getfield 581, 3) := by decide +kernel
theorem dX18_told_79 : decode cX18_told 79 = .ok (.iload_n 1, 1) := by decide +kernel
theorem dX18_told_80 : decode cX18_told 80 = .ok (.iaload, 1) := by decide +kernel
theorem dX18_told_81 : decode cX18_told 81 = .ok (.ireturn, 1) := by decide +kernel
set_option maxRecDepth 20000 in
theorem ggX18_code_X18_isDone : GoodIn wsX18_code wsX18_isDone := goodIn_r _ [6, 7, 8, 9, 10, 11, 12, 13, 14, 15, 16, 17, 18, 19, 20, 21, 22, 23, 24, 25, 26, 27, 28, 29, 30, 31, 32, 33, 34, 35, 36, 37, 38, 39, 40, 41, 42, 43, 44, 45, 46, 47, 48, 49, 50, 51, 52, 53, 54, 55, 56, 57, 58, 59, 60, 61, 62, 63, 64, 65, 66, 67, 68, 69, 70, 71, 72, 73, 74, 75, 76, 77, 78, 79, 80, 81, 82, 83, 84, 85] rfl (by decide +kernel)
set_option maxRecDepth 20000 in
theorem gX18_code_X18_isDone : GoodIn wsX18_code (wsV RX18 677 RX18 yX18_isDone wsX18_isDone) := goodIn_app (goodIn_of _ (by decide +kernel)) ggX18_code_X18_isDone
theorem dX18_code_0 : decode cX18_code 0 = .ok (.aload_n 0, 1) := by decide +kernel
theorem dX18_code_1 : decode cX18_code 1 = .ok (.iload_n 1, 1) := by decide +kernel
theorem dX18_code_2 : decode cX18_code 2 = .ok (.invokevirtual 677, 3) := by decide +kernel
theorem dX18_code_5 : decode cX18_code 5 = .ok (.ifCond .eq 12, 3) := by decide +kernel
theorem dX18_code_8 : decode cX18_code 8 = .ok (.aload_n 0, 1) := by decide +kernel
theorem dX18_code_9 : decode cX18_code 9 = .ok (.getfield 584, 3) := by decide +kernel
theorem dX18_code_12 : decode cX18_code 12 = .ok (.iload_n 1, 1) := by decide +kernel
theorem dX18_code_13 : decode cX18_code 13 = .ok (.laload, 1) := by decide +kernel
theorem dX18_code_14 : decode cX18_code 14 = .ok (.goto 4, 3) := by decide +kernel
theorem dX18_code_17 : decode cX18_code 17 = .ok (.lconst 0, 1) := by decide +kernel
theorem dX18_code_18 : decode cX18_code 18 = .ok (.lreturn, 1) := by decide +kernel
set_option maxRecDepth 20000 in
theorem ggX18_result_X18_isDone : GoodIn wsX18_result wsX18_isDone := goodIn_r _ [9, 10, 11, 12, 13, 14, 15, 16, 17, 18, 19, 20, 21, 22, 23, 24, 25, 26, 27, 28, 29, 30, 31, 32, 33, 34, 35, 36, 37, 38, 39, 40, 41, 42, 43, 44, 45, 46, 47, 48, 49, 50, 51, 52, 53, 54, 55, 56, 57, 58, 59, 60, 61, 62, 63, 64, 65, 66, 67, 68, 69, 70, 71, 72, 73, 74, 75, 76, 77, 78, 79, 80, 81, 82, 83, 84, 85, 86, 87, 88] rfl (by decide +kernel)
set_option maxRecDepth 20000 in
theorem gX18_result_X18_isDone : GoodIn wsX18_result (wsV RX18 677 RX18 yX18_isDone wsX18_isDone) := goodIn_app (goodIn_of _ (by decide +kernel)) ggX18_result_X18_isDone
theorem dX18_result_0 : decode cX18_result 0 = .ok (.aload_n 0, 1) := by decide +kernel
theorem dX18_result_1 : decode cX18_result 1 = .ok (.iload_n 1, 1) := by decide +kernel
theorem dX18_result_2 : decode cX18_result 2 = .ok (.invokevirtual 677, 3) := by decide +kernel
theorem dX18_result_5 : decode cX18_result 5 = .ok (.ifCond .eq 26, 3) := by decide +kernel
theorem dX18_result_8 : decode cX18_result 8 = .ok (.iload_n 2, 1) := by decide +kernel
theorem dX18_result_9 : decode cX18_result 9 = .ok (.ifCond .lt 22, 3) := by decide +kernel
theorem dX18_result_12 : decode cX18_result 12 = .ok (.iload_n 2, 1) := by decide +kernel
theorem dX18_result_13 : decode cX18_result 13 = .ok (.aload_n 0, 1) := by decide +kernel
theorem dX18_result_14 : decode cX18_result 14 = .ok (.getfield 587, 3) := by decide +kernel
theorem dX18_result_17 : decode cX18_result 17 = .ok (.iload_n 1, 1) := by decide +kernel
theorem dX18_result_18 : decode cX18_result 18 = .ok (.iaload, 1) := by decide +kernel
theorem dX18_result_19 : decode cX18_result 19 = .ok (.if_icmp .ge 12, 3) := by decide +kernel
theorem dX18_result_22 : decode cX18_result 22 = .ok (.iload_n 3, 1) := by decide +kernel
theorem dX18_result_23 : decode cX18_result 23 = .ok (.ifCond .lt 8, 3) := by decide +kernel
theorem dX18_result_26 : decode cX18_result 26 = .ok (.iload_n 3, 1) := by decide +kernel
theorem dX18_result_27 : decode cX18_result 27 = .ok (.iconst 2, 1) := by decide +kernel
theorem dX18_result_28 : decode cX18_result 28 = .ok (.if_icmp .le 5, 3) := by decide +kernel
theorem dX18_result_31 : decode cX18_result 31 = .ok (.lconst 0, 1) := by decide +kernel
theorem dX18_result_32 : decode cX18_result 32 = .ok (.lreturn, 1) := by decide +kernel
theorem dX18_result_33 : decode cX18_result 33 = .ok (.bipush 8, 2) := by decide +kernel
theorem dX18_result_35 : decode cX18_result 35 = .ok (.iload_n 1, 1) := by decide +kernel
theorem dX18_result_36 : decode cX18_result 36 = .ok (.imul, 1) := by decide +kernel
theorem dX18_result_37 : decode cX18_result 37 = .ok (.iload_n 2, 1) := by decide +kernel
theorem dX18_result_38 : decode cX18_result 38 = .ok (.iadd, 1) := by decide +kernel
theorem dX18_result_39 : decode cX18_result 39 = .ok (.istore 4, 2) := by decide +kernel
theorem dX18_result_41 : decode cX18_result 41 = .ok (.iload_n 3, 1) := by decide +kernel
theorem dX18_result_42 : decode cX18_result 42 = .ok (.ifCond .ne 13, 3) := by decide +kernel
theorem dX18_result_45 : decode cX18_result 45 = .ok (.aload_n 0, 1) := by decide +kernel
theorem dX18_result_46 : decode cX18_result 46 = .ok (.getfield 596, 3) := by decide +kernel
theorem dX18_result_49 : decode cX18_result 49 = .ok (.iload 4, 2) := by decide +kernel
theorem dX18_result_51 : decode cX18_result 51 = .ok (.laload, 1) := by decide +kernel
theorem dX18_result_52 : decode cX18_result 52 = .ok (.goto 26, 3) := by decide +kernel
theorem dX18_result_55 : decode cX18_result 55 = .ok (.iload_n 3, 1) := by decide +kernel
theorem dX18_result_56 : decode cX18_result 56 = .ok (.iconst 1, 1) := by decide +kernel
theorem dX18_result_57 : decode cX18_result 57 = .ok (.if_icmp .ne 13, 3) := by decide +kernel
theorem dX18_result_60 : decode cX18_result 60 = .ok (.aload_n 0, 1) := by decide +kernel
theorem dX18_result_61 : decode cX18_result 61 = .ok (.getfield 593, 3) := by decide +kernel
theorem dX18_result_64 : decode cX18_result 64 = .ok (.iload 4, 2) := by decide +kernel
theorem dX18_result_66 : decode cX18_result 66 = .ok (.laload, 1) := by decide +kernel
theorem dX18_result_67 : decode cX18_result 67 = .ok (.goto 11, 3) := by decide +kernel
theorem dX18_result_70 : decode cX18_result 70 = .ok (.aload_n 0, 1) := by decide +kernel
theorem dX18_result_71 : decode cX18_result 71 = .ok (.getfield 590, 3) := by decide +kernel
theorem dX18_result_74 : decode cX18_result 74 = .ok (.iload 4, 2) := by decide +kernel
theorem dX18_result_76 : decode cX18_result 76 = .ok (.baload, 1) := by decide +kernel
theorem dX18_result_77 : decode cX18_result 77 = .ok (.i2l, 1) := by decide +kernel
theorem dX18_result_78 : decode cX18_result 78 = .ok (.lreturn, 1) := by decide +kernel
set_option maxRecDepth 20000 in
theorem ggX18_account_X18_findAccount : GoodIn wsX18_account wsX18_findAccount := goodIn_r _ [7, 8, 9, 10, 11, 12, 13, 14, 15, 16, 17, 18, 19, 20, 21, 22, 23, 24, 25, 26, 27, 28, 29, 30, 31, 32, 33, 34, 35, 36, 37, 38, 39, 40, 41, 42, 43, 44, 45, 46, 47, 48, 49, 50, 51, 52, 53, 54, 55, 56, 57, 58, 59, 60, 61, 62, 63, 64, 65, 66, 67, 68, 69, 70, 71, 72, 73, 74, 75, 76, 77, 78, 79, 80, 81, 82, 83, 84, 85, 86, 87] rfl (by decide +kernel)
set_option maxRecDepth 20000 in
theorem gX18_account_X18_findAccount : GoodIn wsX18_account (wsV RX18 288 RX18 yX18_findAccount wsX18_findAccount) := goodIn_app (goodIn_of _ (by decide +kernel)) ggX18_account_X18_findAccount
theorem dX18_account_0 : decode cX18_account 0 = .ok (.aload_n 0, 1) := by decide +kernel
theorem dX18_account_1 : decode cX18_account 1 = .ok (.lload_n 1, 1) := by decide +kernel
theorem dX18_account_2 : decode cX18_account 2 = .ok (.invokevirtual 288, 3) := by decide +kernel
theorem dX18_account_5 : decode cX18_account 5 = .ok (.istore 4, 2) := by decide +kernel
theorem dX18_account_7 : decode cX18_account 7 = .ok (.iload 4, 2) := by decide +kernel
theorem dX18_account_9 : decode cX18_account 9 = .ok (.ifCond .ge 7, 3) := by decide +kernel
theorem dX18_account_12 : decode cX18_account 12 = .ok (.lconst 0, 1) := by decide +kernel
theorem dX18_account_13 : decode cX18_account 13 = .ok (.goto 33, 3) := by decide +kernel
theorem dX18_account_16 : decode cX18_account 16 = .ok (.iload_n 3, 1) := by decide +kernel
theorem dX18_account_17 : decode cX18_account 17 = .ok (.ifCond .ne 13, 3) := by decide +kernel
theorem dX18_account_20 : decode cX18_account 20 = .ok (.aload_n 0, 1) := by decide +kernel
theorem dX18_account_21 : decode cX18_account 21 = .ok (.getfield 303, 3) := by decide +kernel
theorem dX18_account_24 : decode cX18_account 24 = .ok (.iload 4, 2) := by decide +kernel
theorem dX18_account_26 : decode cX18_account 26 = .ok (.laload, 1) := by decide +kernel
theorem dX18_account_27 : decode cX18_account 27 = .ok (.goto 19, 3) := by decide +kernel
theorem dX18_account_30 : decode cX18_account 30 = .ok (.iload_n 3, 1) := by decide +kernel
theorem dX18_account_31 : decode cX18_account 31 = .ok (.iconst 1, 1) := by decide +kernel
theorem dX18_account_32 : decode cX18_account 32 = .ok (.if_icmp .ne 13, 3) := by decide +kernel
theorem dX18_account_35 : decode cX18_account 35 = .ok (.aload_n 0, 1) := by decide +kernel
theorem dX18_account_36 : decode cX18_account 36 = .ok (.getfield 519, 3) := by decide +kernel
theorem dX18_account_39 : decode cX18_account 39 = .ok (.iload 4, 2) := by decide +kernel
theorem dX18_account_41 : decode cX18_account 41 = .ok (.laload, 1) := by decide +kernel
theorem dX18_account_42 : decode cX18_account 42 = .ok (.goto 4, 3) := by decide +kernel
theorem dX18_account_45 : decode cX18_account 45 = .ok (.lconst 0, 1) := by decide +kernel
theorem dX18_account_46 : decode cX18_account 46 = .ok (.lreturn, 1) := by decide +kernel
theorem dX18_coins_0 : decode cX18_coins 0 = .ok (.lconst 0, 1) := by decide +kernel
theorem dX18_coins_1 : decode cX18_coins 1 = .ok (.lstore_n 2, 1) := by decide +kernel
theorem dX18_coins_2 : decode cX18_coins 2 = .ok (.iload_n 1, 1) := by decide +kernel
theorem dX18_coins_3 : decode cX18_coins 3 = .ok (.ifCond .ne 8, 3) := by decide +kernel
theorem dX18_coins_6 : decode cX18_coins 6 = .ok (.aload_n 0, 1) := by decide +kernel
theorem dX18_coins_7 : decode cX18_coins 7 = .ok (.getfield 612, 3) := by decide +kernel
theorem dX18_coins_10 : decode cX18_coins 10 = .ok (.lreturn, 1) := by decide +kernel
theorem dX18_coins_11 : decode cX18_coins 11 = .ok (.iload_n 1, 1) := by decide +kernel
theorem dX18_coins_12 : decode cX18_coins 12 = .ok (.iconst 1, 1) := by decide +kernel
theorem dX18_coins_13 : decode cX18_coins 13 = .ok (.if_icmp .ne 8, 3) := by decide +kernel
theorem dX18_coins_16 : decode cX18_coins 16 = .ok (.aload_n 0, 1) := by decide +kernel
theorem dX18_coins_17 : decode cX18_coins 17 = .ok (.getfield 615, 3) := by decide +kernel
theorem dX18_coins_20 : decode cX18_coins 20 = .ok (.lreturn, 1) := by decide +kernel
theorem dX18_coins_21 : decode cX18_coins 21 = .ok (.iconst 0, 1) := by decide +kernel
theorem dX18_coins_22 : decode cX18_coins 22 = .ok (.istore 4, 2) := by decide +kernel
theorem dX18_coins_24 : decode cX18_coins 24 = .ok (.iload 4, 2) := by decide +kernel
theorem dX18_coins_26 : decode cX18_coins 26 = .ok (.aload_n 0, 1) := by decide +kernel
theorem dX18_coins_27 : decode cX18_coins 27 = .ok (.getfield 1, 3) := by decide +kernel
theorem dX18_coins_30 : decode cX18_coins 30 = .ok (.if_icmp .ge 24, 3) := by decide +kernel
theorem dX18_coins_33 : decode cX18_coins 33 = .ok (.iload_n 1, 1) := by decide +kernel
theorem dX18_coins_34 : decode cX18_coins 34 = .ok (.iconst 2, 1) := by decide +kernel
theorem dX18_coins_35 : decode cX18_coins 35 = .ok (.if_icmp .ne 19, 3) := by decide +kernel
theorem dX18_coins_38 : decode cX18_coins 38 = .ok (.lload_n 2, 1) := by decide +kernel
theorem dX18_coins_39 : decode cX18_coins 39 = .ok (.aload_n 0, 1) := by decide +kernel
theorem dX18_coins_40 : decode cX18_coins 40 = .ok (.getfield 303, 3) := by decide +kernel
theorem dX18_coins_43 : decode cX18_coins 43 = .ok (.iload 4, 2) := by decide +kernel
theorem dX18_coins_45 : decode cX18_coins 45 = .ok (.laload, 1) := by decide +kernel
theorem dX18_coins_46 : decode cX18_coins 46 = .ok (.ladd, 1) := by decide +kernel
theorem dX18_coins_47 : decode cX18_coins 47 = .ok (.lstore_n 2, 1) := by decide +kernel
theorem dX18_coins_48 : decode cX18_coins 48 = .ok (.iinc 4 1, 3) := by decide +kernel
theorem dX18_coins_51 : decode cX18_coins 51 = .ok (.goto (-27), 3) := by decide +kernel
theorem dX18_coins_54 : decode cX18_coins 54 = .ok (.iconst 0, 1) := by decide +kernel
theorem dX18_coins_55 : decode cX18_coins 55 = .ok (.istore 4, 2) := by decide +kernel
theorem dX18_coins_57 : decode cX18_coins 57 = .ok (.iload 4, 2) := by decide +kernel
theorem dX18_coins_59 : decode cX18_coins 59 = .ok (.aload_n 0, 1) := by decide +kernel
theorem dX18_coins_60 : decode cX18_coins 60 = .ok (.getfield 10, 3) := by decide +kernel
theorem dX18_coins_63 : decode cX18_coins 63 = .ok (.if_icmp .ge 23, 3) := by decide +kernel
theorem dX18_coins_66 : decode cX18_coins 66 = .ok (.iload_n 1, 1) := by decide +kernel
theorem dX18_coins_67 : decode cX18_coins 67 = .ok (.iconst 3, 1) := by decide +kernel
theorem dX18_coins_68 : decode cX18_coins 68 = .ok (.if_icmp .ne 18, 3) := by decide +kernel
theorem dX18_coins_71 : decode cX18_coins 71 = .ok (.lload_n 2, 1) := by decide +kernel
theorem dX18_coins_72 : decode cX18_coins 72 = .ok (.aload_n 0, 1) := by decide +kernel
theorem dX18_coins_73 : decode cX18_coins 73 = .ok (.iload 4, 2) := by decide +kernel
theorem dX18_coins_75 : decode cX18_coins 75 = .ok (.invokevirtual 680, 3) := by decide +kernel
theorem dX18_coins_78 : decode cX18_coins 78 = .ok (.ladd, 1) := by decide +kernel
theorem dX18_coins_79 : decode cX18_coins 79 = .ok (.lstore_n 2, 1) := by decide +kernel
theorem dX18_coins_80 : decode cX18_coins 80 = .ok (.iinc 4 1, 3) := by decide +kernel
theorem dX18_coins_83 : decode cX18_coins 83 = .ok (.goto (-26), 3) := by decide +kernel
theorem dX18_coins_86 : decode cX18_coins 86 = .ok (.lload_n 2, 1) := by decide +kernel
theorem dX18_coins_87 : decode cX18_coins 87 = .ok (.lreturn, 1) := by decide +kernel
set_option maxRecDepth 20000 in
theorem ggX18_places_X18_placeCount : GoodIn wsX18_places wsX18_placeCount := goodIn_r _ [8, 3, 1, 2, 9, 10, 11, 12, 13, 14, 15, 16, 17, 18, 19, 20, 21, 22, 23, 24, 25, 26, 27, 28, 29, 30, 31, 32, 33, 34, 35, 36, 37, 38, 39, 40, 41, 42, 43, 44, 45, 46, 47, 48, 49, 50, 51, 52, 53, 54, 55, 56, 57, 58, 59, 60, 61, 62, 63, 64, 65, 66, 67, 68, 69, 70, 71, 72, 73, 74, 75, 76, 77, 78, 79, 80, 81, 82, 83, 84, 85, 86] rfl (by decide +kernel)
set_option maxRecDepth 20000 in
theorem gX18_places_X18_placeCount : GoodIn wsX18_places (wsV RX18 620 RX18 yX18_placeCount wsX18_placeCount) := goodIn_app (goodIn_of _ (by decide +kernel)) ggX18_places_X18_placeCount
theorem dX18_places_0 : decode cX18_places 0 = .ok (.iload_n 1, 1) := by decide +kernel
theorem dX18_places_1 : decode cX18_places 1 = .ok (.ifCond .ne 10, 3) := by decide +kernel
theorem dX18_places_4 : decode cX18_places 4 = .ok (.aload_n 0, 1) := by decide +kernel
theorem dX18_places_5 : decode cX18_places 5 = .ok (.invokevirtual 620, 3) := by decide +kernel
theorem dX18_places_8 : decode cX18_places 8 = .ok (.goto 40, 3) := by decide +kernel
theorem dX18_places_11 : decode cX18_places 11 = .ok (.iload_n 1, 1) := by decide +kernel
theorem dX18_places_12 : decode cX18_places 12 = .ok (.iconst 1, 1) := by decide +kernel
theorem dX18_places_13 : decode cX18_places 13 = .ok (.if_icmp .ne 10, 3) := by decide +kernel
theorem dX18_places_16 : decode cX18_places 16 = .ok (.aload_n 0, 1) := by decide +kernel
theorem dX18_places_17 : decode cX18_places 17 = .ok (.getfield 7, 3) := by decide +kernel
theorem dX18_places_20 : decode cX18_places 20 = .ok (.goto 28, 3) := by decide +kernel
theorem dX18_places_23 : decode cX18_places 23 = .ok (.iload_n 1, 1) := by decide +kernel
theorem dX18_places_24 : decode cX18_places 24 = .ok (.iconst 2, 1) := by decide +kernel
theorem dX18_places_25 : decode cX18_places 25 = .ok (.if_icmp .ne 10, 3) := by decide +kernel
theorem dX18_places_28 : decode cX18_places 28 = .ok (.aload_n 0, 1) := by decide +kernel
theorem dX18_places_29 : decode cX18_places 29 = .ok (.getfield 10, 3) := by decide +kernel
theorem dX18_places_32 : decode cX18_places 32 = .ok (.goto 16, 3) := by decide +kernel
theorem dX18_places_35 : decode cX18_places 35 = .ok (.iload_n 1, 1) := by decide +kernel
theorem dX18_places_36 : decode cX18_places 36 = .ok (.iconst 3, 1) := by decide +kernel
theorem dX18_places_37 : decode cX18_places 37 = .ok (.if_icmp .ne 10, 3) := by decide +kernel
theorem dX18_places_40 : decode cX18_places 40 = .ok (.aload_n 0, 1) := by decide +kernel
theorem dX18_places_41 : decode cX18_places 41 = .ok (.getfield 1, 3) := by decide +kernel
theorem dX18_places_44 : decode cX18_places 44 = .ok (.goto 4, 3) := by decide +kernel
theorem dX18_places_47 : decode cX18_places 47 = .ok (.iconst (-1), 1) := by decide +kernel
theorem dX18_places_48 : decode cX18_places 48 = .ok (.ireturn, 1) := by decide +kernel
set_option maxRecDepth 20000 in
theorem ggX18_resource_X18_findResource : GoodIn wsX18_resource wsX18_findResource := goodIn_r _ [9, 10, 11, 12, 42, 43, 44, 45, 46, 47, 48, 49, 50, 51, 52, 53, 54, 55, 56, 57, 58, 59, 60, 61, 62, 63, 64, 65, 66, 67, 68, 69, 70, 71, 72, 73, 74, 75, 76, 77, 78, 79, 80, 81, 82, 83, 84, 85, 86, 87, 88, 89, 90, 91, 92, 93, 94, 95, 96, 97, 98, 99, 100, 101, 102, 103, 104, 105, 106, 107, 108, 109, 110, 111, 112, 113, 114, 115, 116, 117, 118, 119] rfl (by decide +kernel)
set_option maxRecDepth 20000 in
theorem gX18_resource_X18_findResource : GoodIn wsX18_resource (wsV RX18 292 RX18 yX18_findResource wsX18_findResource) := goodIn_app (goodIn_of _ (by decide +kernel)) ggX18_resource_X18_findResource
set_option maxRecDepth 20000 in
theorem ggX18_resource_X12_begin : GoodIn wsX18_resource wsX12_begin := goodIn_r _ [17, 18, 120, 121, 122, 123] rfl (by decide +kernel)
set_option maxRecDepth 20000 in
theorem gX18_resource_X12_begin : GoodIn wsX18_resource (wsV RX18 433 RX12 yX12_begin wsX12_begin) := goodIn_app (goodIn_of _ (by decide +kernel)) ggX18_resource_X12_begin
theorem dX18_resource_0 : decode cX18_resource 0 = .ok (.aload_n 0, 1) := by decide +kernel
theorem dX18_resource_1 : decode cX18_resource 1 = .ok (.iconst 0, 1) := by decide +kernel
theorem dX18_resource_2 : decode cX18_resource 2 = .ok (.putfield 684, 3) := by decide +kernel
theorem dX18_resource_5 : decode cX18_resource 5 = .ok (.iload_n 3, 1) := by decide +kernel
theorem dX18_resource_6 : decode cX18_resource 6 = .ok (.ifCond .lt 23, 3) := by decide +kernel
theorem dX18_resource_9 : decode cX18_resource 9 = .ok (.iload_n 3, 1) := by decide +kernel
theorem dX18_resource_10 : decode cX18_resource 10 = .ok (.ldc_w 637, 3) := by decide +kernel
theorem dX18_resource_13 : decode cX18_resource 13 = .ok (.if_icmp .gt 16, 3) := by decide +kernel
theorem dX18_resource_16 : decode cX18_resource 16 = .ok (.iload 4, 2) := by decide +kernel
theorem dX18_resource_18 : decode cX18_resource 18 = .ok (.ifCond .lt 11, 3) := by decide +kernel
theorem dX18_resource_21 : decode cX18_resource 21 = .ok (.iload 4, 2) := by decide +kernel
theorem dX18_resource_23 : decode cX18_resource 23 = .ok (.sipush 255, 3) := by decide +kernel
theorem dX18_resource_26 : decode cX18_resource 26 = .ok (.if_icmp .le 7, 3) := by decide +kernel
theorem dX18_resource_29 : decode cX18_resource 29 = .ok (.iconst (-1), 1) := by decide +kernel
theorem dX18_resource_30 : decode cX18_resource 30 = .ok (.goto 16, 3) := by decide +kernel
theorem dX18_resource_33 : decode cX18_resource 33 = .ok (.aload_n 0, 1) := by decide +kernel
theorem dX18_resource_34 : decode cX18_resource 34 = .ok (.lload_n 1, 1) := by decide +kernel
theorem dX18_resource_35 : decode cX18_resource 35 = .ok (.sipush 256, 3) := by decide +kernel
theorem dX18_resource_38 : decode cX18_resource 38 = .ok (.iload_n 3, 1) := by decide +kernel
theorem dX18_resource_39 : decode cX18_resource 39 = .ok (.imul, 1) := by decide +kernel
theorem dX18_resource_40 : decode cX18_resource 40 = .ok (.iload 4, 2) := by decide +kernel
theorem dX18_resource_42 : decode cX18_resource 42 = .ok (.iadd, 1) := by decide +kernel
theorem dX18_resource_43 : decode cX18_resource 43 = .ok (.invokevirtual 292, 3) := by decide +kernel
theorem dX18_resource_46 : decode cX18_resource 46 = .ok (.istore 5, 2) := by decide +kernel
theorem dX18_resource_48 : decode cX18_resource 48 = .ok (.iload 5, 2) := by decide +kernel
theorem dX18_resource_50 : decode cX18_resource 50 = .ok (.ifCond .ge 6, 3) := by decide +kernel
theorem dX18_resource_53 : decode cX18_resource 53 = .ok (.bipush (-2), 2) := by decide +kernel
theorem dX18_resource_55 : decode cX18_resource 55 = .ok (.ireturn, 1) := by decide +kernel
theorem dX18_resource_56 : decode cX18_resource 56 = .ok (.aload_n 0, 1) := by decide +kernel
theorem dX18_resource_57 : decode cX18_resource 57 = .ok (.getfield 94, 3) := by decide +kernel
theorem dX18_resource_60 : decode cX18_resource 60 = .ok (.invokevirtual 433, 3) := by decide +kernel
theorem dX18_resource_63 : decode cX18_resource 63 = .ok (.aload_n 0, 1) := by decide +kernel
theorem dX18_resource_64 : decode cX18_resource 64 = .ok (.iload 5, 2) := by decide +kernel
theorem dX18_resource_66 : decode cX18_resource 66 = .ok (.invokevirtual 687, 3) := by decide +kernel
theorem dX18_resource_69 : decode cX18_resource 69 = .ok (.aload_n 0, 1) := by decide +kernel
theorem dX18_resource_70 : decode cX18_resource 70 = .ok (.aload_n 0, 1) := by decide +kernel
theorem dX18_resource_71 : decode cX18_resource 71 = .ok (.getfield 94, 3) := by decide +kernel
theorem dX18_resource_74 : decode cX18_resource 74 = .ok (.getfield 690, 3) := by decide +kernel
theorem dX18_resource_77 : decode cX18_resource 77 = .ok (.putfield 684, 3) := by decide +kernel
theorem dX18_resource_80 : decode cX18_resource 80 = .ok (.iconst 0, 1) := by decide +kernel
theorem dX18_resource_81 : decode cX18_resource 81 = .ok (.istore 6, 2) := by decide +kernel
theorem dX18_resource_83 : decode cX18_resource 83 = .ok (.iload 6, 2) := by decide +kernel
theorem dX18_resource_85 : decode cX18_resource 85 = .ok (.aload_n 0, 1) := by decide +kernel
theorem dX18_resource_86 : decode cX18_resource 86 = .ok (.getfield 684, 3) := by decide +kernel
theorem dX18_resource_89 : decode cX18_resource 89 = .ok (.if_icmp .ge 26, 3) := by decide +kernel
theorem dX18_resource_92 : decode cX18_resource 92 = .ok (.aload_n 0, 1) := by decide +kernel
theorem dX18_resource_93 : decode cX18_resource 93 = .ok (.getfield 599, 3) := by decide +kernel
theorem dX18_resource_96 : decode cX18_resource 96 = .ok (.iload 6, 2) := by decide +kernel
theorem dX18_resource_98 : decode cX18_resource 98 = .ok (.aload_n 0, 1) := by decide +kernel
theorem dX18_resource_99 : decode cX18_resource 99 = .ok (.getfield 94, 3) := by decide +kernel
theorem dX18_resource_102 : decode cX18_resource 102 = .ok (.getfield 691, 3) := by decide +kernel
theorem dX18_resource_105 : decode cX18_resource 105 = .ok (.iload 6, 2) := by decide +kernel
theorem dX18_resource_107 : decode cX18_resource 107 = .ok (.baload, 1) := by decide +kernel
theorem dX18_resource_108 : decode cX18_resource 108 = .ok (.bastore, 1) := by decide +kernel
theorem dX18_resource_109 : decode cX18_resource 109 = .ok (.iinc 6 1, 3) := by decide +kernel
theorem dX18_resource_112 : decode cX18_resource 112 = .ok (.goto (-29), 3) := by decide +kernel
theorem dX18_resource_115 : decode cX18_resource 115 = .ok (.aload_n 0, 1) := by decide +kernel
theorem dX18_resource_116 : decode cX18_resource 116 = .ok (.getfield 684, 3) := by decide +kernel
theorem dX18_resource_119 : decode cX18_resource 119 = .ok (.ireturn, 1) := by decide +kernel
theorem dX18_byteOf_0 : decode cX18_byteOf 0 = .ok (.iload_n 1, 1) := by decide +kernel
theorem dX18_byteOf_1 : decode cX18_byteOf 1 = .ok (.ifCond .lt 24, 3) := by decide +kernel
theorem dX18_byteOf_4 : decode cX18_byteOf 4 = .ok (.iload_n 1, 1) := by decide +kernel
theorem dX18_byteOf_5 : decode cX18_byteOf 5 = .ok (.aload_n 0, 1) := by decide +kernel
theorem dX18_byteOf_6 : decode cX18_byteOf 6 = .ok (.getfield 684, 3) := by decide +kernel
theorem dX18_byteOf_9 : decode cX18_byteOf 9 = .ok (.if_icmp .ge 16, 3) := by decide +kernel
theorem dX18_byteOf_12 : decode cX18_byteOf 12 = .ok (.aload_n 0, 1) := by decide +kernel
theorem dX18_byteOf_13 : decode cX18_byteOf 13 = .ok (.getfield 599, 3) := by decide +kernel
theorem dX18_byteOf_16 : decode cX18_byteOf 16 = .ok (.iload_n 1, 1) := by decide +kernel
theorem dX18_byteOf_17 : decode cX18_byteOf 17 = .ok (.baload, 1) := by decide +kernel
theorem dX18_byteOf_18 : decode cX18_byteOf 18 = .ok (.sipush 255, 3) := by decide +kernel
theorem dX18_byteOf_21 : decode cX18_byteOf 21 = .ok (.iand, 1) := by decide +kernel
theorem dX18_byteOf_22 : decode cX18_byteOf 22 = .ok (.goto 4, 3) := by decide +kernel
theorem dX18_byteOf_25 : decode cX18_byteOf 25 = .ok (.iconst (-1), 1) := by decide +kernel
theorem dX18_byteOf_26 : decode cX18_byteOf 26 = .ok (.ireturn, 1) := by decide +kernel
set_option maxRecDepth 20000 in
theorem ggX18_root_X14_begin : GoodIn wsX18_root wsX14_begin := goodIn_r _ [18, 19, 266, 267, 268, 269, 270, 271, 272, 273, 274, 275, 276] rfl (by decide +kernel)
set_option maxRecDepth 20000 in
theorem gX18_root_X14_begin : GoodIn wsX18_root (wsV RX18 697 RX14 yX14_begin wsX14_begin) := goodIn_app (goodIn_of _ (by decide +kernel)) ggX18_root_X14_begin
set_option maxRecDepth 20000 in
theorem ggX18_root_X12_begin : GoodIn wsX18_root wsX12_begin := goodIn_r _ [24, 25, 277, 278, 279, 280] rfl (by decide +kernel)
set_option maxRecDepth 20000 in
theorem gX18_root_X12_begin : GoodIn wsX18_root (wsV RX18 433 RX12 yX12_begin wsX12_begin) := goodIn_app (goodIn_of _ (by decide +kernel)) ggX18_root_X12_begin
set_option maxRecDepth 20000 in
theorem ggX18_root_X14_all : GoodIn wsX18_root wsX14_all := goodIn_r _ [131, 19, 132, 133, 134, 135, 75, 76, 136, 137, 138, 139, 140, 21, 22, 23, 24, 25, 141, 27, 28, 29, 30, 142, 143, 144, 17, 145, 146, 32, 33, 34, 35, 147, 148, 149, 150, 151, 152, 42, 43, 44, 45, 46, 47, 48, 49, 50, 51, 52, 53, 54, 55, 56, 57, 58, 59, 60, 61, 62, 63, 64, 65, 66, 153, 68, 69, 70, 154, 155, 156, 157, 158, 159, 160, 161, 162, 163, 164, 165, 266, 267, 268, 269, 270, 271, 272, 273, 274, 275, 276, 277, 278, 279, 280] rfl (by decide +kernel)
set_option maxRecDepth 20000 in
theorem gX18_root_X14_all : GoodIn wsX18_root (wsV RX18 712 RX14 yX14_all wsX14_all) := goodIn_app (goodIn_of _ (by decide +kernel)) ggX18_root_X14_all
set_option maxRecDepth 20000 in
theorem ggX18_root_X14_get : GoodIn wsX18_root wsX14_get := goodIn_r _ [169, 19, 151, 266, 267, 268, 269, 270, 271, 272, 273, 274, 275, 276] rfl (by decide +kernel)
set_option maxRecDepth 20000 in
theorem gX18_root_X14_get : GoodIn wsX18_root (wsV RX18 715 RX14 yX14_get wsX14_get) := goodIn_app (goodIn_of _ (by decide +kernel)) ggX18_root_X14_get
theorem dX18_root_0 : decode cX18_root 0 = .ok (.iload_n 1, 1) := by decide +kernel
theorem dX18_root_1 : decode cX18_root 1 = .ok (.ifCond .lt 8, 3) := by decide +kernel
theorem dX18_root_4 : decode cX18_root 4 = .ok (.iload_n 1, 1) := by decide +kernel
theorem dX18_root_5 : decode cX18_root 5 = .ok (.iconst 3, 1) := by decide +kernel
theorem dX18_root_6 : decode cX18_root 6 = .ok (.if_icmp .le 5, 3) := by decide +kernel
theorem dX18_root_9 : decode cX18_root 9 = .ok (.lconst 0, 1) := by decide +kernel
theorem dX18_root_10 : decode cX18_root 10 = .ok (.lreturn, 1) := by decide +kernel
theorem dX18_root_11 : decode cX18_root 11 = .ok (.aload_n 0, 1) := by decide +kernel
theorem dX18_root_12 : decode cX18_root 12 = .ok (.getfield 531, 3) := by decide +kernel
theorem dX18_root_15 : decode cX18_root 15 = .ok (.invokevirtual 697, 3) := by decide +kernel
theorem dX18_root_18 : decode cX18_root 18 = .ok (.aload_n 0, 1) := by decide +kernel
theorem dX18_root_19 : decode cX18_root 19 = .ok (.getfield 94, 3) := by decide +kernel
theorem dX18_root_22 : decode cX18_root 22 = .ok (.invokevirtual 433, 3) := by decide +kernel
theorem dX18_root_25 : decode cX18_root 25 = .ok (.iconst 0, 1) := by decide +kernel
theorem dX18_root_26 : decode cX18_root 26 = .ok (.istore_n 2, 1) := by decide +kernel
theorem dX18_root_27 : decode cX18_root 27 = .ok (.iload_n 2, 1) := by decide +kernel
theorem dX18_root_28 : decode cX18_root 28 = .ok (.aload_n 0, 1) := by decide +kernel
theorem dX18_root_29 : decode cX18_root 29 = .ok (.getfield 1, 3) := by decide +kernel
theorem dX18_root_32 : decode cX18_root 32 = .ok (.if_icmp .ge 101, 3) := by decide +kernel
theorem dX18_root_35 : decode cX18_root 35 = .ok (.aload_n 0, 1) := by decide +kernel
theorem dX18_root_36 : decode cX18_root 36 = .ok (.getfield 94, 3) := by decide +kernel
theorem dX18_root_39 : decode cX18_root 39 = .ok (.iconst 1, 1) := by decide +kernel
theorem dX18_root_40 : decode cX18_root 40 = .ok (.invokevirtual 98, 3) := by decide +kernel
theorem dX18_root_43 : decode cX18_root 43 = .ok (.aload_n 0, 1) := by decide +kernel
theorem dX18_root_44 : decode cX18_root 44 = .ok (.getfield 94, 3) := by decide +kernel
theorem dX18_root_47 : decode cX18_root 47 = .ok (.aload_n 0, 1) := by decide +kernel
theorem dX18_root_48 : decode cX18_root 48 = .ok (.getfield 13, 3) := by decide +kernel
theorem dX18_root_51 : decode cX18_root 51 = .ok (.iload_n 2, 1) := by decide +kernel
theorem dX18_root_52 : decode cX18_root 52 = .ok (.laload, 1) := by decide +kernel
theorem dX18_root_53 : decode cX18_root 53 = .ok (.bipush 8, 2) := by decide +kernel
theorem dX18_root_55 : decode cX18_root 55 = .ok (.invokevirtual 102, 3) := by decide +kernel
theorem dX18_root_58 : decode cX18_root 58 = .ok (.aload_n 0, 1) := by decide +kernel
theorem dX18_root_59 : decode cX18_root 59 = .ok (.aload_n 0, 1) := by decide +kernel
theorem dX18_root_60 : decode cX18_root 60 = .ok (.getfield 602, 3) := by decide +kernel
theorem dX18_root_63 : decode cX18_root 63 = .ok (.invokevirtual 698, 3) := by decide +kernel
theorem dX18_root_66 : decode cX18_root 66 = .ok (.aload_n 0, 1) := by decide +kernel
theorem dX18_root_67 : decode cX18_root 67 = .ok (.getfield 94, 3) := by decide +kernel
theorem dX18_root_70 : decode cX18_root 70 = .ok (.aload_n 0, 1) := by decide +kernel
theorem dX18_root_71 : decode cX18_root 71 = .ok (.getfield 303, 3) := by decide +kernel
theorem dX18_root_74 : decode cX18_root 74 = .ok (.iload_n 2, 1) := by decide +kernel
theorem dX18_root_75 : decode cX18_root 75 = .ok (.laload, 1) := by decide +kernel
theorem dX18_root_76 : decode cX18_root 76 = .ok (.bipush 8, 2) := by decide +kernel
theorem dX18_root_78 : decode cX18_root 78 = .ok (.invokevirtual 102, 3) := by decide +kernel
theorem dX18_root_81 : decode cX18_root 81 = .ok (.aload_n 0, 1) := by decide +kernel
theorem dX18_root_82 : decode cX18_root 82 = .ok (.getfield 94, 3) := by decide +kernel
theorem dX18_root_85 : decode cX18_root 85 = .ok (.aload_n 0, 1) := by decide +kernel
theorem dX18_root_86 : decode cX18_root 86 = .ok (.getfield 519, 3) := by decide +kernel
theorem dX18_root_89 : decode cX18_root 89 = .ok (.iload_n 2, 1) := by decide +kernel
theorem dX18_root_90 : decode cX18_root 90 = .ok (.laload, 1) := by decide +kernel
theorem dX18_root_91 : decode cX18_root 91 = .ok (.bipush 8, 2) := by decide +kernel
theorem dX18_root_93 : decode cX18_root 93 = .ok (.invokevirtual 102, 3) := by decide +kernel
theorem dX18_root_96 : decode cX18_root 96 = .ok (.aload_n 0, 1) := by decide +kernel
theorem dX18_root_97 : decode cX18_root 97 = .ok (.aload_n 0, 1) := by decide +kernel
theorem dX18_root_98 : decode cX18_root 98 = .ok (.getfield 605, 3) := by decide +kernel
theorem dX18_root_101 : decode cX18_root 101 = .ok (.invokevirtual 698, 3) := by decide +kernel
theorem dX18_root_104 : decode cX18_root 104 = .ok (.aload_n 0, 1) := by decide +kernel
theorem dX18_root_105 : decode cX18_root 105 = .ok (.getfield 531, 3) := by decide +kernel
theorem dX18_root_108 : decode cX18_root 108 = .ok (.aload_n 0, 1) := by decide +kernel
theorem dX18_root_109 : decode cX18_root 109 = .ok (.getfield 602, 3) := by decide +kernel
theorem dX18_root_112 : decode cX18_root 112 = .ok (.aload_n 0, 1) := by decide +kernel
theorem dX18_root_113 : decode cX18_root 113 = .ok (.getfield 605, 3) := by decide +kernel
theorem dX18_root_116 : decode cX18_root 116 = .ok (.iconst 1, 1) := by decide +kernel
theorem dX18_root_117 : decode cX18_root 117 = .ok (.aload_n 0, 1) := by decide +kernel
theorem dX18_root_118 : decode cX18_root 118 = .ok (.getfield 13, 3) := by decide +kernel
theorem dX18_root_121 : decode cX18_root 121 = .ok (.iload_n 2, 1) := by decide +kernel
theorem dX18_root_122 : decode cX18_root 122 = .ok (.laload, 1) := by decide +kernel
theorem dX18_root_123 : decode cX18_root 123 = .ok (.iconst 0, 1) := by decide +kernel
theorem dX18_root_124 : decode cX18_root 124 = .ok (.invokevirtual 702, 3) := by decide +kernel
theorem dX18_root_127 : decode cX18_root 127 = .ok (.iinc 2 1, 3) := by decide +kernel
theorem dX18_root_130 : decode cX18_root 130 = .ok (.goto (-103), 3) := by decide +kernel
theorem dX18_root_133 : decode cX18_root 133 = .ok (.iconst 1, 1) := by decide +kernel
theorem dX18_root_134 : decode cX18_root 134 = .ok (.istore_n 2, 1) := by decide +kernel
theorem dX18_root_135 : decode cX18_root 135 = .ok (.iload_n 2, 1) := by decide +kernel
theorem dX18_root_136 : decode cX18_root 136 = .ok (.aload_n 0, 1) := by decide +kernel
theorem dX18_root_137 : decode cX18_root 137 = .ok (.getfield 7, 3) := by decide +kernel
theorem dX18_root_140 : decode cX18_root 140 = .ok (.if_icmp .gt 116, 3) := by decide +kernel
theorem dX18_root_143 : decode cX18_root 143 = .ok (.aload_n 0, 1) := by decide +kernel
theorem dX18_root_144 : decode cX18_root 144 = .ok (.getfield 94, 3) := by decide +kernel
theorem dX18_root_147 : decode cX18_root 147 = .ok (.iconst 2, 1) := by decide +kernel
theorem dX18_root_148 : decode cX18_root 148 = .ok (.invokevirtual 98, 3) := by decide +kernel
theorem dX18_root_151 : decode cX18_root 151 = .ok (.aload_n 0, 1) := by decide +kernel
theorem dX18_root_152 : decode cX18_root 152 = .ok (.getfield 94, 3) := by decide +kernel
theorem dX18_root_155 : decode cX18_root 155 = .ok (.aload_n 0, 1) := by decide +kernel
theorem dX18_root_156 : decode cX18_root 156 = .ok (.getfield 17, 3) := by decide +kernel
theorem dX18_root_159 : decode cX18_root 159 = .ok (.iload_n 2, 1) := by decide +kernel
theorem dX18_root_160 : decode cX18_root 160 = .ok (.aaload, 1) := by decide +kernel
theorem dX18_root_161 : decode cX18_root 161 = .ok (.invokevirtual 21, 3) := by decide +kernel
theorem dX18_root_164 : decode cX18_root 164 = .ok (.i2l, 1) := by decide +kernel
theorem dX18_root_165 : decode cX18_root 165 = .ok (.iconst 2, 1) := by decide +kernel
theorem dX18_root_166 : decode cX18_root 166 = .ok (.invokevirtual 102, 3) := by decide +kernel
theorem dX18_root_169 : decode cX18_root 169 = .ok (.aload_n 0, 1) := by decide +kernel
theorem dX18_root_170 : decode cX18_root 170 = .ok (.aload_n 0, 1) := by decide +kernel
theorem dX18_root_171 : decode cX18_root 171 = .ok (.getfield 602, 3) := by decide +kernel
theorem dX18_root_174 : decode cX18_root 174 = .ok (.invokevirtual 698, 3) := by decide +kernel
theorem dX18_root_177 : decode cX18_root 177 = .ok (.iconst 0, 1) := by decide +kernel
theorem dX18_root_178 : decode cX18_root 178 = .ok (.istore_n 3, 1) := by decide +kernel
theorem dX18_root_179 : decode cX18_root 179 = .ok (.iload_n 3, 1) := by decide +kernel
theorem dX18_root_180 : decode cX18_root 180 = .ok (.aload_n 0, 1) := by decide +kernel
theorem dX18_root_181 : decode cX18_root 181 = .ok (.getfield 17, 3) := by decide +kernel
theorem dX18_root_184 : decode cX18_root 184 = .ok (.iload_n 2, 1) := by decide +kernel
theorem dX18_root_185 : decode cX18_root 185 = .ok (.aaload, 1) := by decide +kernel
theorem dX18_root_186 : decode cX18_root 186 = .ok (.getfield 706, 3) := by decide +kernel
theorem dX18_root_189 : decode cX18_root 189 = .ok (.if_icmp .ge 27, 3) := by decide +kernel
theorem dX18_root_192 : decode cX18_root 192 = .ok (.aload_n 0, 1) := by decide +kernel
theorem dX18_root_193 : decode cX18_root 193 = .ok (.getfield 94, 3) := by decide +kernel
theorem dX18_root_196 : decode cX18_root 196 = .ok (.aload_n 0, 1) := by decide +kernel
theorem dX18_root_197 : decode cX18_root 197 = .ok (.getfield 17, 3) := by decide +kernel
theorem dX18_root_200 : decode cX18_root 200 = .ok (.iload_n 2, 1) := by decide +kernel
theorem dX18_root_201 : decode cX18_root 201 = .ok (.aaload, 1) := by decide +kernel
theorem dX18_root_202 : decode cX18_root 202 = .ok (.getfield 709, 3) := by decide +kernel
theorem dX18_root_205 : decode cX18_root 205 = .ok (.iload_n 3, 1) := by decide +kernel
theorem dX18_root_206 : decode cX18_root 206 = .ok (.baload, 1) := by decide +kernel
theorem dX18_root_207 : decode cX18_root 207 = .ok (.invokevirtual 98, 3) := by decide +kernel
theorem dX18_root_210 : decode cX18_root 210 = .ok (.iinc 3 1, 3) := by decide +kernel
theorem dX18_root_213 : decode cX18_root 213 = .ok (.goto (-34), 3) := by decide +kernel
theorem dX18_root_216 : decode cX18_root 216 = .ok (.aload_n 0, 1) := by decide +kernel
theorem dX18_root_217 : decode cX18_root 217 = .ok (.aload_n 0, 1) := by decide +kernel
theorem dX18_root_218 : decode cX18_root 218 = .ok (.getfield 605, 3) := by decide +kernel
theorem dX18_root_221 : decode cX18_root 221 = .ok (.invokevirtual 698, 3) := by decide +kernel
theorem dX18_root_224 : decode cX18_root 224 = .ok (.aload_n 0, 1) := by decide +kernel
theorem dX18_root_225 : decode cX18_root 225 = .ok (.getfield 531, 3) := by decide +kernel
theorem dX18_root_228 : decode cX18_root 228 = .ok (.aload_n 0, 1) := by decide +kernel
theorem dX18_root_229 : decode cX18_root 229 = .ok (.getfield 602, 3) := by decide +kernel
theorem dX18_root_232 : decode cX18_root 232 = .ok (.aload_n 0, 1) := by decide +kernel
theorem dX18_root_233 : decode cX18_root 233 = .ok (.getfield 605, 3) := by decide +kernel
theorem dX18_root_236 : decode cX18_root 236 = .ok (.iconst 2, 1) := by decide +kernel
theorem dX18_root_237 : decode cX18_root 237 = .ok (.lconst 0, 1) := by decide +kernel
theorem dX18_root_238 : decode cX18_root 238 = .ok (.aload_n 0, 1) := by decide +kernel
theorem dX18_root_239 : decode cX18_root 239 = .ok (.getfield 17, 3) := by decide +kernel
theorem dX18_root_242 : decode cX18_root 242 = .ok (.iload_n 2, 1) := by decide +kernel
theorem dX18_root_243 : decode cX18_root 243 = .ok (.aaload, 1) := by decide +kernel
theorem dX18_root_244 : decode cX18_root 244 = .ok (.invokevirtual 21, 3) := by decide +kernel
theorem dX18_root_247 : decode cX18_root 247 = .ok (.invokevirtual 702, 3) := by decide +kernel
theorem dX18_root_250 : decode cX18_root 250 = .ok (.iinc 2 1, 3) := by decide +kernel
theorem dX18_root_253 : decode cX18_root 253 = .ok (.goto (-118), 3) := by decide +kernel
theorem dX18_root_256 : decode cX18_root 256 = .ok (.iconst 0, 1) := by decide +kernel
theorem dX18_root_257 : decode cX18_root 257 = .ok (.istore_n 2, 1) := by decide +kernel
theorem dX18_root_258 : decode cX18_root 258 = .ok (.iload_n 2, 1) := by decide +kernel
theorem dX18_root_259 : decode cX18_root 259 = .ok (.aload_n 0, 1) := by decide +kernel
theorem dX18_root_260 : decode cX18_root 260 = .ok (.getfield 10, 3) := by decide +kernel
theorem dX18_root_263 : decode cX18_root 263 = .ok (.if_icmp .ge 96, 3) := by decide +kernel
theorem dX18_root_266 : decode cX18_root 266 = .ok (.aload_n 0, 1) := by decide +kernel
theorem dX18_root_267 : decode cX18_root 267 = .ok (.getfield 94, 3) := by decide +kernel
theorem dX18_root_270 : decode cX18_root 270 = .ok (.iconst 3, 1) := by decide +kernel
theorem dX18_root_271 : decode cX18_root 271 = .ok (.invokevirtual 98, 3) := by decide +kernel
theorem dX18_root_274 : decode cX18_root 274 = .ok (.aload_n 0, 1) := by decide +kernel
theorem dX18_root_275 : decode cX18_root 275 = .ok (.getfield 94, 3) := by decide +kernel
theorem dX18_root_278 : decode cX18_root 278 = .ok (.aload_n 0, 1) := by decide +kernel
theorem dX18_root_279 : decode cX18_root 279 = .ok (.getfield 27, 3) := by decide +kernel
theorem dX18_root_282 : decode cX18_root 282 = .ok (.iload_n 2, 1) := by decide +kernel
theorem dX18_root_283 : decode cX18_root 283 = .ok (.laload, 1) := by decide +kernel
theorem dX18_root_284 : decode cX18_root 284 = .ok (.bipush 8, 2) := by decide +kernel
theorem dX18_root_286 : decode cX18_root 286 = .ok (.invokevirtual 102, 3) := by decide +kernel
theorem dX18_root_289 : decode cX18_root 289 = .ok (.aload_n 0, 1) := by decide +kernel
theorem dX18_root_290 : decode cX18_root 290 = .ok (.getfield 94, 3) := by decide +kernel
theorem dX18_root_293 : decode cX18_root 293 = .ok (.aload_n 0, 1) := by decide +kernel
theorem dX18_root_294 : decode cX18_root 294 = .ok (.getfield 30, 3) := by decide +kernel
theorem dX18_root_297 : decode cX18_root 297 = .ok (.iload_n 2, 1) := by decide +kernel
theorem dX18_root_298 : decode cX18_root 298 = .ok (.iaload, 1) := by decide +kernel
theorem dX18_root_299 : decode cX18_root 299 = .ok (.i2l, 1) := by decide +kernel
theorem dX18_root_300 : decode cX18_root 300 = .ok (.iconst 3, 1) := by decide +kernel
theorem dX18_root_301 : decode cX18_root 301 = .ok (.invokevirtual 102, 3) := by decide +kernel
theorem dX18_root_304 : decode cX18_root 304 = .ok (.aload_n 0, 1) := by decide +kernel
theorem dX18_root_305 : decode cX18_root 305 = .ok (.aload_n 0, 1) := by decide +kernel
theorem dX18_root_306 : decode cX18_root 306 = .ok (.getfield 602, 3) := by decide +kernel
theorem dX18_root_309 : decode cX18_root 309 = .ok (.invokevirtual 698, 3) := by decide +kernel
theorem dX18_root_312 : decode cX18_root 312 = .ok (.aload_n 0, 1) := by decide +kernel
theorem dX18_root_313 : decode cX18_root 313 = .ok (.iload_n 2, 1) := by decide +kernel
theorem dX18_root_314 : decode cX18_root 314 = .ok (.invokevirtual 687, 3) := by decide +kernel
theorem dX18_root_317 : decode cX18_root 317 = .ok (.aload_n 0, 1) := by decide +kernel
theorem dX18_root_318 : decode cX18_root 318 = .ok (.aload_n 0, 1) := by decide +kernel
theorem dX18_root_319 : decode cX18_root 319 = .ok (.getfield 605, 3) := by decide +kernel
theorem dX18_root_322 : decode cX18_root 322 = .ok (.invokevirtual 698, 3) := by decide +kernel
theorem dX18_root_325 : decode cX18_root 325 = .ok (.aload_n 0, 1) := by decide +kernel
theorem dX18_root_326 : decode cX18_root 326 = .ok (.getfield 531, 3) := by decide +kernel
theorem dX18_root_329 : decode cX18_root 329 = .ok (.aload_n 0, 1) := by decide +kernel
theorem dX18_root_330 : decode cX18_root 330 = .ok (.getfield 602, 3) := by decide +kernel
theorem dX18_root_333 : decode cX18_root 333 = .ok (.aload_n 0, 1) := by decide +kernel
theorem dX18_root_334 : decode cX18_root 334 = .ok (.getfield 605, 3) := by decide +kernel
theorem dX18_root_337 : decode cX18_root 337 = .ok (.iconst 3, 1) := by decide +kernel
theorem dX18_root_338 : decode cX18_root 338 = .ok (.aload_n 0, 1) := by decide +kernel
theorem dX18_root_339 : decode cX18_root 339 = .ok (.getfield 27, 3) := by decide +kernel
theorem dX18_root_342 : decode cX18_root 342 = .ok (.iload_n 2, 1) := by decide +kernel
theorem dX18_root_343 : decode cX18_root 343 = .ok (.laload, 1) := by decide +kernel
theorem dX18_root_344 : decode cX18_root 344 = .ok (.aload_n 0, 1) := by decide +kernel
theorem dX18_root_345 : decode cX18_root 345 = .ok (.getfield 30, 3) := by decide +kernel
theorem dX18_root_348 : decode cX18_root 348 = .ok (.iload_n 2, 1) := by decide +kernel
theorem dX18_root_349 : decode cX18_root 349 = .ok (.iaload, 1) := by decide +kernel
theorem dX18_root_350 : decode cX18_root 350 = .ok (.invokevirtual 702, 3) := by decide +kernel
theorem dX18_root_353 : decode cX18_root 353 = .ok (.iinc 2 1, 3) := by decide +kernel
theorem dX18_root_356 : decode cX18_root 356 = .ok (.goto (-98), 3) := by decide +kernel
theorem dX18_root_359 : decode cX18_root 359 = .ok (.aload_n 0, 1) := by decide +kernel
theorem dX18_root_360 : decode cX18_root 360 = .ok (.getfield 531, 3) := by decide +kernel
theorem dX18_root_363 : decode cX18_root 363 = .ok (.invokevirtual 712, 3) := by decide +kernel
theorem dX18_root_366 : decode cX18_root 366 = .ok (.aload_n 0, 1) := by decide +kernel
theorem dX18_root_367 : decode cX18_root 367 = .ok (.getfield 531, 3) := by decide +kernel
theorem dX18_root_370 : decode cX18_root 370 = .ok (.iload_n 1, 1) := by decide +kernel
theorem dX18_root_371 : decode cX18_root 371 = .ok (.invokevirtual 715, 3) := by decide +kernel
theorem dX18_root_374 : decode cX18_root 374 = .ok (.lreturn, 1) := by decide +kernel
theorem dX18_slips_0 : decode cX18_slips 0 = .ok (.aload_n 0, 1) := by decide +kernel
theorem dX18_slips_1 : decode cX18_slips 1 = .ok (.getfield 322, 3) := by decide +kernel
theorem dX18_slips_4 : decode cX18_slips 4 = .ok (.ireturn, 1) := by decide +kernel
theorem dJ7_copyOf_9075b_0 : decode cJ7_copyOf_9075b 0 = .ok (.iload_n 1, 1) := by decide +kernel
theorem dJ7_copyOf_9075b_1 : decode cJ7_copyOf_9075b 1 = .ok (.aload_n 0, 1) := by decide +kernel
theorem dJ7_copyOf_9075b_2 : decode cJ7_copyOf_9075b 2 = .ok (.arraylength, 1) := by decide +kernel
theorem dJ7_copyOf_9075b_3 : decode cJ7_copyOf_9075b 3 = .ok (.if_icmp .ne 11, 3) := by decide +kernel
theorem dJ7_copyOf_9075b_6 : decode cJ7_copyOf_9075b 6 = .ok (.aload_n 0, 1) := by decide +kernel
theorem dJ7_copyOf_9075b_7 : decode cJ7_copyOf_9075b 7 = .ok (.invokevirtual 310, 3) := by decide +kernel
theorem dJ7_copyOf_9075b_10 : decode cJ7_copyOf_9075b 10 = .ok (.checkcast 311, 3) := by decide +kernel
theorem dJ7_copyOf_9075b_13 : decode cJ7_copyOf_9075b 13 = .ok (.areturn, 1) := by decide +kernel
theorem dJ7_copyOf_9075b_14 : decode cJ7_copyOf_9075b 14 = .ok (.iload_n 1, 1) := by decide +kernel
theorem dJ7_copyOf_9075b_15 : decode cJ7_copyOf_9075b 15 = .ok (.newarray .byte, 2) := by decide +kernel
theorem dJ7_copyOf_9075b_17 : decode cJ7_copyOf_9075b 17 = .ok (.astore_n 2, 1) := by decide +kernel
theorem dJ7_copyOf_9075b_18 : decode cJ7_copyOf_9075b 18 = .ok (.aload_n 0, 1) := by decide +kernel
theorem dJ7_copyOf_9075b_19 : decode cJ7_copyOf_9075b 19 = .ok (.iconst 0, 1) := by decide +kernel
theorem dJ7_copyOf_9075b_20 : decode cJ7_copyOf_9075b 20 = .ok (.aload_n 2, 1) := by decide +kernel
theorem dJ7_copyOf_9075b_21 : decode cJ7_copyOf_9075b 21 = .ok (.iconst 0, 1) := by decide +kernel
theorem dJ7_copyOf_9075b_22 : decode cJ7_copyOf_9075b 22 = .ok (.aload_n 0, 1) := by decide +kernel
theorem dJ7_copyOf_9075b_23 : decode cJ7_copyOf_9075b 23 = .ok (.arraylength, 1) := by decide +kernel
theorem dJ7_copyOf_9075b_24 : decode cJ7_copyOf_9075b 24 = .ok (.iload_n 1, 1) := by decide +kernel
theorem dJ7_copyOf_9075b_25 : decode cJ7_copyOf_9075b 25 = .ok (.invokestatic 304, 3) := by decide +kernel
theorem dJ7_copyOf_9075b_28 : decode cJ7_copyOf_9075b 28 = .ok (.invokestatic 150, 3) := by decide +kernel
theorem dJ7_copyOf_9075b_31 : decode cJ7_copyOf_9075b 31 = .ok (.aload_n 2, 1) := by decide +kernel
theorem dJ7_copyOf_9075b_32 : decode cJ7_copyOf_9075b 32 = .ok (.areturn, 1) := by decide +kernel
