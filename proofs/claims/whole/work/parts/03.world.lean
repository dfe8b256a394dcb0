def y_Tn_init : MethodName := ⟨"TableauNodes", "<init>", "()V"⟩
abbrev w_Tn_init : List Cond := .code y_Tn_init prog_1_method_1_code 1 none :: tq_T
def y_Tn_class0 : MethodName := ⟨"TableauNodes", "class0", "(I)I"⟩
abbrev w_Tn_class0 : List Cond := .code y_Tn_class0 prog_1_method_2_code 2 (some .int) :: tq_T
def y_Tn_concept : MethodName := ⟨"TableauNodes", "concept", "(III)I"⟩
abbrev w_Tn_concept : List Cond := .code y_Tn_concept prog_1_method_3_code 4 (some .int) :: tq_T
def y_Tn_told : MethodName := ⟨"TableauNodes", "told", "(II)I"⟩
abbrev w_Tn_told : List Cond := .code y_Tn_told prog_1_method_4_code 3 (some .int) :: tq_T
def y_Tn_concepts : MethodName := ⟨"TableauNodes", "concepts", "()I"⟩
abbrev w_Tn_concepts : List Cond := .code y_Tn_concepts prog_1_method_5_code 1 (some .int) :: tq_T
def y_Tn_atoms : MethodName := ⟨"TableauNodes", "atoms", "()I"⟩
abbrev w_Tn_atoms : List Cond := .code y_Tn_atoms prog_1_method_6_code 1 (some .int) :: tq_T
def y_Tn_axiom : MethodName := ⟨"TableauNodes", "axiom", "(II)I"⟩
abbrev w_Tn_axiom : List Cond := .code y_Tn_axiom prog_1_method_7_code 3 (some .int) :: tq_T
def y_Tn_drop : MethodName := ⟨"TableauNodes", "drop", "()I"⟩
abbrev w_Tn_drop : List Cond := .code y_Tn_drop prog_1_method_8_code 1 (some .int) :: tq_T
def y_Tn_role : MethodName := ⟨"TableauNodes", "role", "(II)I"⟩
abbrev w_Tn_role : List Cond := .code y_Tn_role prog_1_method_9_code 3 (some .int) :: tq_T
def y_Tn_can : MethodName := ⟨"TableauNodes", "can", "(I)I"⟩
abbrev w_Tn_can : List Cond := .code y_Tn_can prog_1_method_10_code 2 (some .int) :: tq_T
def y_Tn_below : MethodName := ⟨"TableauNodes", "below", "(II)I"⟩
abbrev w_Tn_below : List Cond := .code y_Tn_below prog_1_method_11_code 3 (some .int) :: tq_T
def y_Tn_types : MethodName := ⟨"TableauNodes", "types", "()I"⟩
abbrev w_Tn_types : List Cond := .code y_Tn_types prog_1_method_12_code 1 (some .int) :: tq_T
def y_Tn_rounds : MethodName := ⟨"TableauNodes", "rounds", "()I"⟩
abbrev w_Tn_rounds : List Cond := .code y_Tn_rounds prog_1_method_13_code 1 (some .int) :: tq_T
def y_Tn_depth : MethodName := ⟨"TableauNodes", "depth", "(I)I"⟩
abbrev w_Tn_depth : List Cond := .code y_Tn_depth prog_1_method_14_code 2 (some .int) :: tq_T
def y_Tn_individual : MethodName := ⟨"TableauNodes", "individual", "(II)I"⟩
abbrev w_Tn_individual : List Cond := .code y_Tn_individual prog_1_method_15_code 3 (some .int) :: tq_T
def y_Tn_has : MethodName := ⟨"TableauNodes", "has", "(III)I"⟩
abbrev w_Tn_has : List Cond := .code y_Tn_has prog_1_method_16_code 5 (some .int) :: tq_T
def y_Tn_forget : MethodName := ⟨"TableauNodes", "forget", "()I"⟩
abbrev w_Tn_forget : List Cond := .code y_Tn_forget prog_1_method_17_code 1 (some .int) :: tq_T
def y_Tn_run : MethodName := ⟨"TableauNodes", "run", "()I"⟩
abbrev w_Tn_run : List Cond := .code y_Tn_run prog_1_method_18_code 1 (some .int) :: tq_T
def y_Tn_model : MethodName := ⟨"TableauNodes", "model", "(I)I"⟩
abbrev w_Tn_model : List Cond := .code y_Tn_model prog_1_method_19_code 2 (some .int) :: tq_T
def y_Tn_surely : MethodName := ⟨"TableauNodes", "surely", "(II)I"⟩
abbrev w_Tn_surely : List Cond := .code y_Tn_surely prog_1_method_20_code 3 (some .int) :: tq_T
def y_Tn_isBelow : MethodName := ⟨"TableauNodes", "isBelow", "(II)Z"⟩
abbrev w_Tn_isBelow : List Cond := .code y_Tn_isBelow prog_1_method_21_code 2 (some .boolean) :: tq_T
def y_Tn_hasBit : MethodName := ⟨"TableauNodes", "hasBit", "(JI)Z"⟩
abbrev w_Tn_hasBit : List Cond := .code y_Tn_hasBit prog_1_method_22_code 3 (some .boolean) :: tq_T
def y_Tn_lowestBit : MethodName := ⟨"TableauNodes", "lowestBit", "(J)I"⟩
abbrev w_Tn_lowestBit : List Cond := .code y_Tn_lowestBit prog_1_method_23_code 2 (some .int) :: tq_T
def y_Mo_init : MethodName := ⟨"TableauNodesModel", "<init>", "()V"⟩
abbrev w_Mo_init : List Cond := .code y_Mo_init prog_7_method_1_code 1 none :: tq_T
def y_Mo_isConcept : MethodName := ⟨"TableauNodesModel", "isConcept", "(I)Z"⟩
abbrev w_Mo_isConcept : List Cond := .code y_Mo_isConcept prog_7_method_2_code 2 (some .boolean) :: tq_T
def y_Mo_isRole : MethodName := ⟨"TableauNodesModel", "isRole", "(I)Z"⟩
abbrev w_Mo_isRole : List Cond := .code y_Mo_isRole prog_7_method_3_code 1 (some .boolean) :: tq_T
def y_Mo_isThing : MethodName := ⟨"TableauNodesModel", "isThing", "(I)Z"⟩
abbrev w_Mo_isThing : List Cond := .code y_Mo_isThing prog_7_method_4_code 1 (some .boolean) :: tq_T
def y_Mo_find : MethodName := ⟨"TableauNodesModel", "find", "(III)I"⟩
abbrev w_Mo_find : List Cond := .code y_Mo_find prog_7_method_5_code 5 (some .int) :: tq_T
def y_Mo_make : MethodName := ⟨"TableauNodesModel", "make", "(III)I"⟩
abbrev w_Mo_make : List Cond := .code y_Mo_make prog_7_method_6_code 6 (some .int) :: tq_T
def y_Mo_class0 : MethodName := ⟨"TableauNodesModel", "class0", "(I)I"⟩
abbrev w_Mo_class0 : List Cond := .code y_Mo_class0 prog_7_method_7_code 2 (some .int) :: tq_T
def y_Mo_concept : MethodName := ⟨"TableauNodesModel", "concept", "(III)I"⟩
abbrev w_Mo_concept : List Cond := .code y_Mo_concept prog_7_method_8_code 5 (some .int) :: tq_T
def y_Mo_told : MethodName := ⟨"TableauNodesModel", "told", "(II)I"⟩
abbrev w_Mo_told : List Cond := .code y_Mo_told prog_7_method_9_code 3 (some .int) :: tq_T
def y_Mo_concepts : MethodName := ⟨"TableauNodesModel", "concepts", "()I"⟩
abbrev w_Mo_concepts : List Cond := .code y_Mo_concepts prog_7_method_10_code 1 (some .int) :: tq_T
def y_Mo_atoms : MethodName := ⟨"TableauNodesModel", "atoms", "()I"⟩
abbrev w_Mo_atoms : List Cond := .code y_Mo_atoms prog_7_method_11_code 1 (some .int) :: tq_T
def y_Mo_axiom : MethodName := ⟨"TableauNodesModel", "axiom", "(II)I"⟩
abbrev w_Mo_axiom : List Cond := .code y_Mo_axiom prog_7_method_12_code 3 (some .int) :: tq_T
def y_Mo_drop : MethodName := ⟨"TableauNodesModel", "drop", "()I"⟩
abbrev w_Mo_drop : List Cond := .code y_Mo_drop prog_7_method_13_code 1 (some .int) :: tq_T
def y_Mo_role : MethodName := ⟨"TableauNodesModel", "role", "(II)I"⟩
abbrev w_Mo_role : List Cond := .code y_Mo_role prog_7_method_14_code 3 (some .int) :: tq_T
def y_Mo_size : MethodName := ⟨"TableauNodesModel", "size", "()I"⟩
abbrev w_Mo_size : List Cond := .code y_Mo_size prog_7_method_15_code 1 (some .int) :: tq_T
def y_Mo_atomOf : MethodName := ⟨"TableauNodesModel", "atomOf", "(I)I"⟩
abbrev w_Mo_atomOf : List Cond := .code y_Mo_atomOf prog_7_method_16_code 3 (some .int) :: tq_T
def y_Mo_isHeld : MethodName := ⟨"TableauNodesModel", "isHeld", "(II)Z"⟩
abbrev w_Mo_isHeld : List Cond := .code y_Mo_isHeld prog_7_method_17_code 3 (some .boolean) :: tq_T
def y_Mo_weigh : MethodName := ⟨"TableauNodesModel", "weigh", "(II)Z"⟩
abbrev w_Mo_weigh : List Cond := .code y_Mo_weigh prog_7_method_18_code 5 (some .boolean) :: tq_T
def y_Mo_work : MethodName := ⟨"TableauNodesModel", "work", "()V"⟩
abbrev w_Mo_work : List Cond := .code y_Mo_work prog_7_method_19_code 3 none :: tq_T
def y_Mo_forbids : MethodName := ⟨"TableauNodesModel", "forbids", "(II)I"⟩
abbrev w_Mo_forbids : List Cond := .code y_Mo_forbids prog_7_method_20_code 6 (some .int) :: tq_T
def y_Mo_sees : MethodName := ⟨"TableauNodesModel", "sees", "(III)Z"⟩
abbrev w_Mo_sees : List Cond := .code y_Mo_sees prog_7_method_21_code 4 (some .boolean) :: tq_T
def y_Mo_turn : MethodName := ⟨"TableauNodesModel", "turn", "(I)Z"⟩
abbrev w_Mo_turn : List Cond := .code y_Mo_turn prog_7_method_22_code 6 (some .boolean) :: tq_T
def y_Mo_isThere : MethodName := ⟨"TableauNodesModel", "isThere", "(III)Z"⟩
abbrev w_Mo_isThere : List Cond := .code y_Mo_isThere prog_7_method_23_code 6 (some .boolean) :: tq_T
def y_Mo_can : MethodName := ⟨"TableauNodesModel", "can", "(I)I"⟩
abbrev w_Mo_can : List Cond := .code y_Mo_can prog_7_method_24_code 3 (some .int) :: tq_T
def y_Mo_below : MethodName := ⟨"TableauNodesModel", "below", "(II)I"⟩
abbrev w_Mo_below : List Cond := .code y_Mo_below prog_7_method_25_code 4 (some .int) :: tq_T
def y_Mo_types : MethodName := ⟨"TableauNodesModel", "types", "()I"⟩
abbrev w_Mo_types : List Cond := .code y_Mo_types prog_7_method_26_code 3 (some .int) :: tq_T
def y_Mo_rounds : MethodName := ⟨"TableauNodesModel", "rounds", "()I"⟩
abbrev w_Mo_rounds : List Cond := .code y_Mo_rounds prog_7_method_27_code 1 (some .int) :: tq_T
def y_Mo_depth : MethodName := ⟨"TableauNodesModel", "depth", "(I)I"⟩
abbrev w_Mo_depth : List Cond := .code y_Mo_depth prog_7_method_28_code 2 (some .int) :: tq_T
def y_Mo_individual : MethodName := ⟨"TableauNodesModel", "individual", "(II)I"⟩
abbrev w_Mo_individual : List Cond := .code y_Mo_individual prog_7_method_29_code 3 (some .int) :: tq_T
def y_Mo_has : MethodName := ⟨"TableauNodesModel", "has", "(III)I"⟩
abbrev w_Mo_has : List Cond := .code y_Mo_has prog_7_method_30_code 4 (some .int) :: tq_T
def y_Mo_forget : MethodName := ⟨"TableauNodesModel", "forget", "()I"⟩
abbrev w_Mo_forget : List Cond := .code y_Mo_forget prog_7_method_31_code 2 (some .int) :: tq_T
def y_Mo_at : MethodName := ⟨"TableauNodesModel", "at", "(III)I"⟩
abbrev w_Mo_at : List Cond := .code y_Mo_at prog_7_method_32_code 3 (some .int) :: tq_T
def y_Mo_search : MethodName := ⟨"TableauNodesModel", "search", "(II)Z"⟩
abbrev w_Mo_search : List Cond := .code y_Mo_search prog_7_method_33_code 5 (some .boolean) :: tq_T
def y_Mo_isSaid : MethodName := ⟨"TableauNodesModel", "isSaid", "(II)Z"⟩
abbrev w_Mo_isSaid : List Cond := .code y_Mo_isSaid prog_7_method_34_code 5 (some .boolean) :: tq_T
def y_Mo_isLeft : MethodName := ⟨"TableauNodesModel", "isLeft", "(II)Z"⟩
abbrev w_Mo_isLeft : List Cond := .code y_Mo_isLeft prog_7_method_35_code 9 (some .boolean) :: tq_T
def y_Mo_run : MethodName := ⟨"TableauNodesModel", "run", "()I"⟩
abbrev w_Mo_run : List Cond := .code y_Mo_run prog_7_method_36_code 1 (some .int) :: tq_T
def y_Mo_model : MethodName := ⟨"TableauNodesModel", "model", "(I)I"⟩
abbrev w_Mo_model : List Cond := .code y_Mo_model prog_7_method_37_code 2 (some .int) :: tq_T
def y_Mo_surely : MethodName := ⟨"TableauNodesModel", "surely", "(II)I"⟩
abbrev w_Mo_surely : List Cond := .code y_Mo_surely prog_7_method_38_code 3 (some .int) :: tq_T
def y_Co_init : MethodName := ⟨"TableauNodes$Concepts", "<init>", "()V"⟩
abbrev w_Co_init : List Cond := .code y_Co_init prog_2_method_1_code 1 none :: tq_T
def y_Co_size : MethodName := ⟨"TableauNodes$Concepts", "size", "()I"⟩
abbrev w_Co_size : List Cond := .code y_Co_size prog_2_method_2_code 1 (some .int) :: tq_T
def y_Co_atomCount : MethodName := ⟨"TableauNodes$Concepts", "atomCount", "()I"⟩
abbrev w_Co_atomCount : List Cond := .code y_Co_atomCount prog_2_method_3_code 1 (some .int) :: tq_T
def y_Co_typeCount : MethodName := ⟨"TableauNodes$Concepts", "typeCount", "()I"⟩
abbrev w_Co_typeCount : List Cond := .code y_Co_typeCount prog_2_method_4_code 1 (some .int) :: tq_T
def y_Co_wordCount : MethodName := ⟨"TableauNodes$Concepts", "wordCount", "()I"⟩
abbrev w_Co_wordCount : List Cond := .code y_Co_wordCount prog_2_method_5_code 1 (some .int) :: tq_T
def y_Co_typesInWord : MethodName := ⟨"TableauNodes$Concepts", "typesInWord", "()J"⟩
abbrev w_Co_typesInWord : List Cond := .code y_Co_typesInWord prog_2_method_6_code 1 (some .long) :: tq_T
def y_Co_isThere : MethodName := ⟨"TableauNodes$Concepts", "isThere", "(I)Z"⟩
abbrev w_Co_isThere : List Cond := .code y_Co_isThere prog_2_method_7_code 2 (some .boolean) :: tq_T
def y_Co_part : MethodName := ⟨"TableauNodes$Concepts", "part", "(II)I"⟩
abbrev w_Co_part : List Cond := .code y_Co_part prog_2_method_8_code 3 (some .int) :: tq_T
def y_Co_make : MethodName := ⟨"TableauNodes$Concepts", "make", "(III)I"⟩
abbrev w_Co_make : List Cond := .code y_Co_make prog_2_method_9_code 5 (some .int) :: tq_T
def y_Co_makeAll : MethodName := ⟨"TableauNodes$Concepts", "makeAll", "(II)I"⟩
abbrev w_Co_makeAll : List Cond := .code y_Co_makeAll prog_2_method_10_code 6 (some .int) :: tq_T
def y_Co_word : MethodName := ⟨"TableauNodes$Concepts", "word", "(II)J"⟩
abbrev w_Co_word : List Cond := .code y_Co_word prog_2_method_11_code 4 (some .long) :: tq_T
def y_Co_holds : MethodName := ⟨"TableauNodes$Concepts", "holds", "(II)Z"⟩
abbrev w_Co_holds : List Cond := .code y_Co_holds prog_2_method_12_code 3 (some .boolean) :: tq_T
def y_Co_atomWord : MethodName := ⟨"TableauNodes$Concepts", "atomWord", "(II)J"⟩
abbrev w_Co_atomWord : List Cond := .code y_Co_atomWord prog_2_method_13_code 3 (some .long) :: tq_T
def y_Co_innerWord : MethodName := ⟨"TableauNodes$Concepts", "innerWord", "(II)J"⟩
abbrev w_Co_innerWord : List Cond := .code y_Co_innerWord prog_2_method_14_code 4 (some .long) :: tq_T
def y_Co_inners : MethodName := ⟨"TableauNodes$Concepts", "inners", "(I)I"⟩
abbrev w_Co_inners : List Cond := .code y_Co_inners prog_2_method_15_code 2 (some .int) :: tq_T
def y_Co_isSome : MethodName := ⟨"TableauNodes$Concepts", "isSome", "(I)Z"⟩
abbrev w_Co_isSome : List Cond := .code y_Co_isSome prog_2_method_16_code 2 (some .boolean) :: tq_T
def y_Co_roleOfSome : MethodName := ⟨"TableauNodes$Concepts", "roleOfSome", "(I)I"⟩
abbrev w_Co_roleOfSome : List Cond := .code y_Co_roleOfSome prog_2_method_17_code 2 (some .int) :: tq_T
def y_Co_find : MethodName := ⟨"TableauNodes$Concepts", "find", "(III)I"⟩
abbrev w_Co_find : List Cond := .code y_Co_find prog_2_method_18_code 5 (some .int) :: tq_T
def y_Co_add : MethodName := ⟨"TableauNodes$Concepts", "add", "(III)I"⟩
abbrev w_Co_add : List Cond := .code y_Co_add prog_2_method_19_code 8 (some .int) :: tq_T
def y_Co_newWord : MethodName := ⟨"TableauNodes$Concepts", "newWord", "(IIII)J"⟩
abbrev w_Co_newWord : List Cond := .code y_Co_newWord prog_2_method_20_code 5 (some .long) :: tq_T
def y_Co_addAtom : MethodName := ⟨"TableauNodes$Concepts", "addAtom", "(I)V"⟩
abbrev w_Co_addAtom : List Cond := .code y_Co_addAtom prog_2_method_21_code 3 none :: tq_T
def y_Co_noteInner : MethodName := ⟨"TableauNodes$Concepts", "noteInner", "(II)V"⟩
abbrev w_Co_noteInner : List Cond := .code y_Co_noteInner prog_2_method_22_code 7 none :: tq_T
def y_Go_init : MethodName := ⟨"TableauNodes$GoodTypes", "<init>", "(LTableauNodes$Concepts;LTableauNodes$Roles;)V"⟩
abbrev w_Go_init : List Cond := .code y_Go_init prog_3_method_1_code 3 none :: tq_T
def y_Go_addAxiom : MethodName := ⟨"TableauNodes$GoodTypes", "addAxiom", "(II)I"⟩
abbrev w_Go_addAxiom : List Cond := .code y_Go_addAxiom prog_3_method_2_code 3 (some .int) :: tq_T
def y_Go_dropAxiom : MethodName := ⟨"TableauNodes$GoodTypes", "dropAxiom", "()I"⟩
abbrev w_Go_dropAxiom : List Cond := .code y_Go_dropAxiom prog_3_method_3_code 1 (some .int) :: tq_T
def y_Go_rolesChanged : MethodName := ⟨"TableauNodes$GoodTypes", "rolesChanged", "()V"⟩
abbrev w_Go_rolesChanged : List Cond := .code y_Go_rolesChanged prog_3_method_4_code 1 none :: tq_T
def y_Go_refresh : MethodName := ⟨"TableauNodes$GoodTypes", "refresh", "()V"⟩
abbrev w_Go_refresh : List Cond := .code y_Go_refresh prog_3_method_5_code 2 none :: tq_T
def y_Go_version : MethodName := ⟨"TableauNodes$GoodTypes", "version", "()I"⟩
abbrev w_Go_version : List Cond := .code y_Go_version prog_3_method_6_code 1 (some .int) :: tq_T
def y_Go_size : MethodName := ⟨"TableauNodes$GoodTypes", "size", "()I"⟩
abbrev w_Go_size : List Cond := .code y_Go_size prog_3_method_7_code 3 (some .int) :: tq_T
def y_Go_roundCount : MethodName := ⟨"TableauNodes$GoodTypes", "roundCount", "()I"⟩
abbrev w_Go_roundCount : List Cond := .code y_Go_roundCount prog_3_method_8_code 1 (some .int) :: tq_T
def y_Go_depthOf : MethodName := ⟨"TableauNodes$GoodTypes", "depthOf", "(I)I"⟩
abbrev w_Go_depthOf : List Cond := .code y_Go_depthOf prog_3_method_9_code 2 (some .int) :: tq_T
def y_Go_someAre : MethodName := ⟨"TableauNodes$GoodTypes", "someAre", "(I)Z"⟩
abbrev w_Go_someAre : List Cond := .code y_Go_someAre prog_3_method_10_code 3 (some .boolean) :: tq_T
def y_Go_eachIs : MethodName := ⟨"TableauNodes$GoodTypes", "eachIs", "(II)Z"⟩
abbrev w_Go_eachIs : List Cond := .code y_Go_eachIs prog_3_method_11_code 4 (some .boolean) :: tq_T
def y_Go_word : MethodName := ⟨"TableauNodes$GoodTypes", "word", "(I)J"⟩
abbrev w_Go_word : List Cond := .code y_Go_word prog_3_method_12_code 2 (some .long) :: tq_T
def y_Go_watched : MethodName := ⟨"TableauNodes$GoodTypes", "watched", "(I)I"⟩
abbrev w_Go_watched : List Cond := .code y_Go_watched prog_3_method_13_code 2 (some .int) :: tq_T
def y_Go_sortSomes : MethodName := ⟨"TableauNodes$GoodTypes", "sortSomes", "()V"⟩
abbrev w_Go_sortSomes : List Cond := .code y_Go_sortSomes prog_3_method_14_code 4 none :: tq_T
def y_Go_begin : MethodName := ⟨"TableauNodes$GoodTypes", "begin", "()V"⟩
abbrev w_Go_begin : List Cond := .code y_Go_begin prog_3_method_15_code 4 none :: tq_T
def y_Go_keptByAxioms : MethodName := ⟨"TableauNodes$GoodTypes", "keptByAxioms", "(JI)J"⟩
abbrev w_Go_keptByAxioms : List Cond := .code y_Go_keptByAxioms prog_3_method_16_code 7 (some .long) :: tq_T
def y_Go_isThere : MethodName := ⟨"TableauNodes$GoodTypes", "isThere", "(I)Z"⟩
abbrev w_Go_isThere : List Cond := .code y_Go_isThere prog_3_method_17_code 2 (some .boolean) :: tq_T
def y_Go_makeRound : MethodName := ⟨"TableauNodes$GoodTypes", "makeRound", "(I)Z"⟩
abbrev w_Go_makeRound : List Cond := .code y_Go_makeRound prog_3_method_18_code 4 (some .boolean) :: tq_T
def y_Go_takeAway : MethodName := ⟨"TableauNodes$GoodTypes", "takeAway", "(II)V"⟩
abbrev w_Go_takeAway : List Cond := .code y_Go_takeAway prog_3_method_19_code 6 none :: tq_T
def y_Go_markUnserved : MethodName := ⟨"TableauNodes$GoodTypes", "markUnserved", "(I)V"⟩
abbrev w_Go_markUnserved : List Cond := .code y_Go_markUnserved prog_3_method_20_code 4 none :: tq_T
def y_Go_findServed : MethodName := ⟨"TableauNodes$GoodTypes", "findServed", "(I)V"⟩
abbrev w_Go_findServed : List Cond := .code y_Go_findServed prog_3_method_21_code 7 none :: tq_T
def y_Go_spreadServed : MethodName := ⟨"TableauNodes$GoodTypes", "spreadServed", "(III)V"⟩
abbrev w_Go_spreadServed : List Cond := .code y_Go_spreadServed prog_3_method_22_code 6 none :: tq_T
def y_Ro_init : MethodName := ⟨"TableauNodes$Roles", "<init>", "()V"⟩
abbrev w_Ro_init : List Cond := .code y_Ro_init prog_4_method_1_code 1 none :: tq_T
def y_Ro_say : MethodName := ⟨"TableauNodes$Roles", "say", "(II)Z"⟩
abbrev w_Ro_say : List Cond := .code y_Ro_say prog_4_method_2_code 3 (some .boolean) :: tq_T
def y_Ro_isUnder : MethodName := ⟨"TableauNodes$Roles", "isUnder", "(II)Z"⟩
abbrev w_Ro_isUnder : List Cond := .code y_Ro_isUnder prog_4_method_3_code 3 (some .boolean) :: tq_T
def y_Ro_close : MethodName := ⟨"TableauNodes$Roles", "close", "()V"⟩
abbrev w_Ro_close : List Cond := .code y_Ro_close prog_4_method_4_code 3 none :: tq_T
def y_Th_init : MethodName := ⟨"TableauNodes$Things", "<init>", "(LTableauNodes$Concepts;LTableauNodes$GoodTypes;)V"⟩
abbrev w_Th_init : List Cond := .code y_Th_init prog_5_method_1_code 3 none :: tq_T
def y_Th_sayIs : MethodName := ⟨"TableauNodes$Things", "sayIs", "(II)I"⟩
abbrev w_Th_sayIs : List Cond := .code y_Th_sayIs prog_5_method_2_code 4 (some .int) :: tq_T
def y_Th_sayHas : MethodName := ⟨"TableauNodes$Things", "sayHas", "(III)I"⟩
abbrev w_Th_sayHas : List Cond := .code y_Th_sayHas prog_5_method_3_code 4 (some .int) :: tq_T
def y_Th_forgetAll : MethodName := ⟨"TableauNodes$Things", "forgetAll", "()I"⟩
abbrev w_Th_forgetAll : List Cond := .code y_Th_forgetAll prog_5_method_4_code 2 (some .int) :: tq_T
def y_Th_settle : MethodName := ⟨"TableauNodes$Things", "settle", "()V"⟩
abbrev w_Th_settle : List Cond := .code y_Th_settle prog_5_method_5_code 2 none :: tq_T
def y_Th_goTogether : MethodName := ⟨"TableauNodes$Things", "goTogether", "()Z"⟩
abbrev w_Th_goTogether : List Cond := .code y_Th_goTogether prog_5_method_6_code 1 (some .boolean) :: tq_T
def y_Th_typeOf : MethodName := ⟨"TableauNodes$Things", "typeOf", "(I)I"⟩
abbrev w_Th_typeOf : List Cond := .code y_Th_typeOf prog_5_method_7_code 2 (some .int) :: tq_T
def y_Th_canLack : MethodName := ⟨"TableauNodes$Things", "canLack", "(II)Z"⟩
abbrev w_Th_canLack : List Cond := .code y_Th_canLack prog_5_method_8_code 4 (some .boolean) :: tq_T
def y_Th_clear : MethodName := ⟨"TableauNodes$Things", "clear", "()V"⟩
abbrev w_Th_clear : List Cond := .code y_Th_clear prog_5_method_9_code 2 none :: tq_T
def y_Th_sortLinks : MethodName := ⟨"TableauNodes$Things", "sortLinks", "()V"⟩
abbrev w_Th_sortLinks : List Cond := .code y_Th_sortLinks prog_5_method_10_code 3 none :: tq_T
def y_Th_begin : MethodName := ⟨"TableauNodes$Things", "begin", "()V"⟩
abbrev w_Th_begin : List Cond := .code y_Th_begin prog_5_method_11_code 6 none :: tq_T
def y_Th_seeingThemselves : MethodName := ⟨"TableauNodes$Things", "seeingThemselves", "(JII)J"⟩
abbrev w_Th_seeingThemselves : List Cond := .code y_Th_seeingThemselves prog_5_method_12_code 8 (some .long) :: tq_T
def y_Th_countLeft : MethodName := ⟨"TableauNodes$Things", "countLeft", "(II)I"⟩
abbrev w_Th_countLeft : List Cond := .code y_Th_countLeft prog_5_method_13_code 6 (some .int) :: tq_T
def y_Th_canExtend : MethodName := ⟨"TableauNodes$Things", "canExtend", "(II)Z"⟩
abbrev w_Th_canExtend : List Cond := .code y_Th_canExtend prog_5_method_14_code 8 (some .boolean) :: tq_T
def y_Th_mostBound : MethodName := ⟨"TableauNodes$Things", "mostBound", "(II)I"⟩
abbrev w_Th_mostBound : List Cond := .code y_Th_mostBound prog_5_method_15_code 7 (some .int) :: tq_T
def y_Th_findDemands : MethodName := ⟨"TableauNodes$Things", "findDemands", "(III)I"⟩
abbrev w_Th_findDemands : List Cond := .code y_Th_findDemands prog_5_method_16_code 14 (some .int) :: tq_T
def y_Th_addDemand : MethodName := ⟨"TableauNodes$Things", "addDemand", "(III)I"⟩
abbrev w_Th_addDemand : List Cond := .code y_Th_addDemand prog_5_method_17_code 6 (some .int) :: tq_T
def y_Th_passOn : MethodName := ⟨"TableauNodes$Things", "passOn", "(IIII)Z"⟩
abbrev w_Th_passOn : List Cond := .code y_Th_passOn prog_5_method_18_code 15 (some .boolean) :: tq_T
def y_Th_fitting : MethodName := ⟨"TableauNodes$Things", "fitting", "(JIII)J"⟩
abbrev w_Th_fitting : List Cond := .code y_Th_fitting prog_5_method_19_code 10 (some .long) :: tq_T
def y_Th_leaveFirst : MethodName := ⟨"TableauNodes$Things", "leaveFirst", "(I)Z"⟩
abbrev w_Th_leaveFirst : List Cond := .code y_Th_leaveFirst prog_5_method_20_code 6 (some .boolean) :: tq_T
def y_Th_leaveLeast : MethodName := ⟨"TableauNodes$Things", "leaveLeast", "(I)V"⟩
abbrev w_Th_leaveLeast : List Cond := .code y_Th_leaveLeast prog_5_method_21_code 5 none :: tq_T
def y_Th_leaveHalf : MethodName := ⟨"TableauNodes$Things", "leaveHalf", "(IIZ)V"⟩
abbrev w_Th_leaveHalf : List Cond := .code y_Th_leaveHalf prog_5_method_22_code 7 none :: tq_T
def y_Th_keepSpare : MethodName := ⟨"TableauNodes$Things", "keepSpare", "(I)V"⟩
abbrev w_Th_keepSpare : List Cond := .code y_Th_keepSpare prog_5_method_23_code 2 none :: tq_T
def y_Th_takeSpare : MethodName := ⟨"TableauNodes$Things", "takeSpare", "(I)V"⟩
abbrev w_Th_takeSpare : List Cond := .code y_Th_takeSpare prog_5_method_24_code 2 none :: tq_T
def y_Th_firstLeft : MethodName := ⟨"TableauNodes$Things", "firstLeft", "(I)I"⟩
abbrev w_Th_firstLeft : List Cond := .code y_Th_firstLeft prog_5_method_25_code 5 (some .int) :: tq_T
def y_Ji_bitCount : MethodName := ⟨"java/lang/Integer", "bitCount", "(I)I"⟩
abbrev w_Ji_bitCount : List Cond := .code y_Ji_bitCount prog_8_method_49_code 1 (some .int) :: tq_T
def y_Jl_bitCount : MethodName := ⟨"java/lang/Long", "bitCount", "(J)I"⟩
abbrev w_Jl_bitCount : List Cond := .code y_Jl_bitCount prog_9_method_50_code 2 (some .int) :: tq_T
def y_Jm_min : MethodName := ⟨"java/lang/Math", "min", "(II)I"⟩
abbrev w_Jm_min : List Cond := .code y_Jm_min prog_10_method_69_code 2 (some .int) :: tq_T
def tq_nest : List (String × Nat × MethodName) := [("TableauNodes$Concepts", 65, y_Tn_hasBit), ("TableauNodes$Roles", 25, y_Tn_hasBit), ("TableauNodes$Roles", 21, y_Tn_isBelow), ("TableauNodes$Concepts", 72, y_Tn_isBelow), ("TableauNodes$GoodTypes", 123, y_Tn_hasBit), ("TableauNodes$GoodTypes", 135, y_Tn_lowestBit), ("TableauNodes$GoodTypes", 84, y_Tn_isBelow), ("TableauNodes$Things", 49, y_Tn_isBelow), ("TableauNodes$Things", 107, y_Tn_hasBit), ("TableauNodes$Things", 160, y_Tn_lowestBit)]
def wo (cI cL cZ : ClassId) (ad : Nat → Nat) (σ : tq_S) : va_W := [
  (ad 0, .inr (0, [.ref (ad 1), .ref (ad 2), .ref (ad 3), .ref (ad 4)])),
  (ad 1, .inr (1, [.ref (ad 6), .ref (ad 7), .ref (ad 8), .ref (ad 9), .ref (ad 10), .ref (ad 11), .ref (ad 12), .int (σ.2.2 0), .int (σ.2.2 1)])),
  (ad 2, .inr (2, [.ref (ad 13), .ref (ad 14)])),
  (ad 3, .inr (3, [.ref (ad 1), .ref (ad 2), .ref (ad 15), .ref (ad 16), .int (σ.2.2 2), .ref (ad 17), .ref (ad 18), .ref (ad 19), .ref (ad 20), .ref (ad 21), .ref (ad 22), .int (σ.2.2 3), .int (σ.2.2 4), .int (σ.2.2 5), .int (σ.2.2 6)])),
  (ad 4, .inr (4, [.ref (ad 1), .ref (ad 3), .ref (ad 23), .ref (ad 24), .ref (ad 25), .int (σ.2.2 7), .int (σ.2.2 8), .ref (ad 26), .ref (ad 27), .ref (ad 28), .int (σ.2.2 9), .ref (ad 29), .int (σ.2.2 10), .int (σ.2.2 11), .int (σ.2.2 12)])),
  (ad 5, .inr (5, [.ref (ad 30), .ref (ad 31), .ref (ad 32), .int (σ.2.2 13), .ref (ad 33), .int (σ.2.2 14), .ref (ad 34), .ref (ad 35), .int (σ.2.2 15), .ref (ad 36), .ref (ad 37), .ref (ad 38), .int (σ.2.2 16), .ref (ad 39), .ref (ad 40), .ref (ad 41), .int (σ.2.2 17), .int (σ.2.2 18), .ref (ad 42), .ref (ad 43), .ref (ad 44), .ref (ad 45), .int (σ.2.2 19), .ref (ad 46), .ref (ad 47)])),
  (ad 6, .inl (cI, 80, .inl (σ.1 0))),
  (ad 7, .inl (cI, 80, .inl (σ.1 1))),
  (ad 8, .inl (cI, 80, .inl (σ.1 2))),
  (ad 9, .inl (cL, 1280, .inr (.inl (σ.2.1 0)))),
  (ad 10, .inl (cI, 10, .inl (σ.1 3))),
  (ad 11, .inl (cL, 160, .inr (.inl (σ.2.1 1)))),
  (ad 12, .inl (cI, 1024, .inl (σ.1 4))),
  (ad 13, .inl (cI, 4, .inl (σ.1 5))),
  (ad 14, .inl (cI, 4, .inl (σ.1 6))),
  (ad 15, .inl (cI, 30, .inl (σ.1 7))),
  (ad 16, .inl (cI, 30, .inl (σ.1 8))),
  (ad 17, .inl (cI, 4, .inl (σ.1 9))),
  (ad 18, .inl (cI, 4, .inl (σ.1 10))),
  (ad 19, .inl (cL, 16, .inr (.inl (σ.2.1 2)))),
  (ad 20, .inl (cL, 16, .inr (.inl (σ.2.1 3)))),
  (ad 21, .inl (cI, 1024, .inl (σ.1 11))),
  (ad 22, .inl (cI, 1024, .inl (σ.1 12))),
  (ad 23, .inl (cL, 80, .inr (.inl (σ.2.1 4)))),
  (ad 24, .inl (cI, 25, .inl (σ.1 13))),
  (ad 25, .inl (cI, 25, .inl (σ.1 14))),
  (ad 26, .inl (cL, 400, .inr (.inl (σ.2.1 5)))),
  (ad 27, .inl (cI, 4096, .inl (σ.1 15))),
  (ad 28, .inl (cL, 16, .inr (.inl (σ.2.1 6)))),
  (ad 29, .inl (cI, 5, .inl (σ.1 16))),
  (ad 30, .inl (cI, 80, .inl (σ.1 17))),
  (ad 31, .inl (cI, 80, .inl (σ.1 18))),
  (ad 32, .inl (cI, 80, .inl (σ.1 19))),
  (ad 33, .inl (cI, 10, .inl (σ.1 20))),
  (ad 34, .inl (cI, 30, .inl (σ.1 21))),
  (ad 35, .inl (cI, 30, .inl (σ.1 22))),
  (ad 36, .inl (cZ, 16, .inl (σ.1 23))),
  (ad 37, .inl (cI, 40, .inl (σ.1 24))),
  (ad 38, .inl (cI, 40, .inl (σ.1 25))),
  (ad 39, .inl (cI, 40, .inl (σ.1 26))),
  (ad 40, .inl (cI, 40, .inl (σ.1 27))),
  (ad 41, .inl (cI, 40, .inl (σ.1 28))),
  (ad 42, .inl (cZ, 81920, .inl (σ.1 29))),
  (ad 43, .inl (cI, 1024, .inl (σ.1 30))),
  (ad 44, .inl (cI, 1024, .inl (σ.1 31))),
  (ad 45, .inl (cZ, 16, .inl (σ.1 32))),
  (ad 46, .inl (cZ, 30720, .inl (σ.1 33))),
  (ad 47, .inl (cI, 5, .inl (σ.1 34)))]
theorem ws_f0 (cI cL cZ : ClassId) (ad : Nat → Nat) (σ : tq_S) (x : Int32) : (wo cI cL cZ ad σ).set 1 (ad 1, .inr (1, List.set [.ref (ad 6), .ref (ad 7), .ref (ad 8), .ref (ad 9), .ref (ad 10), .ref (ad 11), .ref (ad 12), .int (σ.2.2 0), .int (σ.2.2 1)] 7 (.int x))) = wo cI cL cZ ad (fput σ 0 x) := rfl
theorem ws_f1 (cI cL cZ : ClassId) (ad : Nat → Nat) (σ : tq_S) (x : Int32) : (wo cI cL cZ ad σ).set 1 (ad 1, .inr (1, List.set [.ref (ad 6), .ref (ad 7), .ref (ad 8), .ref (ad 9), .ref (ad 10), .ref (ad 11), .ref (ad 12), .int (σ.2.2 0), .int (σ.2.2 1)] 8 (.int x))) = wo cI cL cZ ad (fput σ 1 x) := rfl
theorem ws_f2 (cI cL cZ : ClassId) (ad : Nat → Nat) (σ : tq_S) (x : Int32) : (wo cI cL cZ ad σ).set 3 (ad 3, .inr (3, List.set [.ref (ad 1), .ref (ad 2), .ref (ad 15), .ref (ad 16), .int (σ.2.2 2), .ref (ad 17), .ref (ad 18), .ref (ad 19), .ref (ad 20), .ref (ad 21), .ref (ad 22), .int (σ.2.2 3), .int (σ.2.2 4), .int (σ.2.2 5), .int (σ.2.2 6)] 4 (.int x))) = wo cI cL cZ ad (fput σ 2 x) := rfl
theorem ws_f3 (cI cL cZ : ClassId) (ad : Nat → Nat) (σ : tq_S) (x : Int32) : (wo cI cL cZ ad σ).set 3 (ad 3, .inr (3, List.set [.ref (ad 1), .ref (ad 2), .ref (ad 15), .ref (ad 16), .int (σ.2.2 2), .ref (ad 17), .ref (ad 18), .ref (ad 19), .ref (ad 20), .ref (ad 21), .ref (ad 22), .int (σ.2.2 3), .int (σ.2.2 4), .int (σ.2.2 5), .int (σ.2.2 6)] 11 (.int x))) = wo cI cL cZ ad (fput σ 3 x) := rfl
theorem ws_f4 (cI cL cZ : ClassId) (ad : Nat → Nat) (σ : tq_S) (x : Int32) : (wo cI cL cZ ad σ).set 3 (ad 3, .inr (3, List.set [.ref (ad 1), .ref (ad 2), .ref (ad 15), .ref (ad 16), .int (σ.2.2 2), .ref (ad 17), .ref (ad 18), .ref (ad 19), .ref (ad 20), .ref (ad 21), .ref (ad 22), .int (σ.2.2 3), .int (σ.2.2 4), .int (σ.2.2 5), .int (σ.2.2 6)] 12 (.int x))) = wo cI cL cZ ad (fput σ 4 x) := rfl
theorem ws_f5 (cI cL cZ : ClassId) (ad : Nat → Nat) (σ : tq_S) (x : Int32) : (wo cI cL cZ ad σ).set 3 (ad 3, .inr (3, List.set [.ref (ad 1), .ref (ad 2), .ref (ad 15), .ref (ad 16), .int (σ.2.2 2), .ref (ad 17), .ref (ad 18), .ref (ad 19), .ref (ad 20), .ref (ad 21), .ref (ad 22), .int (σ.2.2 3), .int (σ.2.2 4), .int (σ.2.2 5), .int (σ.2.2 6)] 13 (.int x))) = wo cI cL cZ ad (fput σ 5 x) := rfl
theorem ws_f6 (cI cL cZ : ClassId) (ad : Nat → Nat) (σ : tq_S) (x : Int32) : (wo cI cL cZ ad σ).set 3 (ad 3, .inr (3, List.set [.ref (ad 1), .ref (ad 2), .ref (ad 15), .ref (ad 16), .int (σ.2.2 2), .ref (ad 17), .ref (ad 18), .ref (ad 19), .ref (ad 20), .ref (ad 21), .ref (ad 22), .int (σ.2.2 3), .int (σ.2.2 4), .int (σ.2.2 5), .int (σ.2.2 6)] 14 (.int x))) = wo cI cL cZ ad (fput σ 6 x) := rfl
theorem ws_f7 (cI cL cZ : ClassId) (ad : Nat → Nat) (σ : tq_S) (x : Int32) : (wo cI cL cZ ad σ).set 4 (ad 4, .inr (4, List.set [.ref (ad 1), .ref (ad 3), .ref (ad 23), .ref (ad 24), .ref (ad 25), .int (σ.2.2 7), .int (σ.2.2 8), .ref (ad 26), .ref (ad 27), .ref (ad 28), .int (σ.2.2 9), .ref (ad 29), .int (σ.2.2 10), .int (σ.2.2 11), .int (σ.2.2 12)] 5 (.int x))) = wo cI cL cZ ad (fput σ 7 x) := rfl
theorem ws_f8 (cI cL cZ : ClassId) (ad : Nat → Nat) (σ : tq_S) (x : Int32) : (wo cI cL cZ ad σ).set 4 (ad 4, .inr (4, List.set [.ref (ad 1), .ref (ad 3), .ref (ad 23), .ref (ad 24), .ref (ad 25), .int (σ.2.2 7), .int (σ.2.2 8), .ref (ad 26), .ref (ad 27), .ref (ad 28), .int (σ.2.2 9), .ref (ad 29), .int (σ.2.2 10), .int (σ.2.2 11), .int (σ.2.2 12)] 6 (.int x))) = wo cI cL cZ ad (fput σ 8 x) := rfl
theorem ws_f9 (cI cL cZ : ClassId) (ad : Nat → Nat) (σ : tq_S) (x : Int32) : (wo cI cL cZ ad σ).set 4 (ad 4, .inr (4, List.set [.ref (ad 1), .ref (ad 3), .ref (ad 23), .ref (ad 24), .ref (ad 25), .int (σ.2.2 7), .int (σ.2.2 8), .ref (ad 26), .ref (ad 27), .ref (ad 28), .int (σ.2.2 9), .ref (ad 29), .int (σ.2.2 10), .int (σ.2.2 11), .int (σ.2.2 12)] 10 (.int x))) = wo cI cL cZ ad (fput σ 9 x) := rfl
theorem ws_f10 (cI cL cZ : ClassId) (ad : Nat → Nat) (σ : tq_S) (x : Int32) : (wo cI cL cZ ad σ).set 4 (ad 4, .inr (4, List.set [.ref (ad 1), .ref (ad 3), .ref (ad 23), .ref (ad 24), .ref (ad 25), .int (σ.2.2 7), .int (σ.2.2 8), .ref (ad 26), .ref (ad 27), .ref (ad 28), .int (σ.2.2 9), .ref (ad 29), .int (σ.2.2 10), .int (σ.2.2 11), .int (σ.2.2 12)] 12 (.int x))) = wo cI cL cZ ad (fput σ 10 x) := rfl
theorem ws_f11 (cI cL cZ : ClassId) (ad : Nat → Nat) (σ : tq_S) (x : Int32) : (wo cI cL cZ ad σ).set 4 (ad 4, .inr (4, List.set [.ref (ad 1), .ref (ad 3), .ref (ad 23), .ref (ad 24), .ref (ad 25), .int (σ.2.2 7), .int (σ.2.2 8), .ref (ad 26), .ref (ad 27), .ref (ad 28), .int (σ.2.2 9), .ref (ad 29), .int (σ.2.2 10), .int (σ.2.2 11), .int (σ.2.2 12)] 13 (.int x))) = wo cI cL cZ ad (fput σ 11 x) := rfl
theorem ws_f12 (cI cL cZ : ClassId) (ad : Nat → Nat) (σ : tq_S) (x : Int32) : (wo cI cL cZ ad σ).set 4 (ad 4, .inr (4, List.set [.ref (ad 1), .ref (ad 3), .ref (ad 23), .ref (ad 24), .ref (ad 25), .int (σ.2.2 7), .int (σ.2.2 8), .ref (ad 26), .ref (ad 27), .ref (ad 28), .int (σ.2.2 9), .ref (ad 29), .int (σ.2.2 10), .int (σ.2.2 11), .int (σ.2.2 12)] 14 (.int x))) = wo cI cL cZ ad (fput σ 12 x) := rfl
theorem ws_f13 (cI cL cZ : ClassId) (ad : Nat → Nat) (σ : tq_S) (x : Int32) : (wo cI cL cZ ad σ).set 5 (ad 5, .inr (5, List.set [.ref (ad 30), .ref (ad 31), .ref (ad 32), .int (σ.2.2 13), .ref (ad 33), .int (σ.2.2 14), .ref (ad 34), .ref (ad 35), .int (σ.2.2 15), .ref (ad 36), .ref (ad 37), .ref (ad 38), .int (σ.2.2 16), .ref (ad 39), .ref (ad 40), .ref (ad 41), .int (σ.2.2 17), .int (σ.2.2 18), .ref (ad 42), .ref (ad 43), .ref (ad 44), .ref (ad 45), .int (σ.2.2 19), .ref (ad 46), .ref (ad 47)] 3 (.int x))) = wo cI cL cZ ad (fput σ 13 x) := rfl
theorem ws_f14 (cI cL cZ : ClassId) (ad : Nat → Nat) (σ : tq_S) (x : Int32) : (wo cI cL cZ ad σ).set 5 (ad 5, .inr (5, List.set [.ref (ad 30), .ref (ad 31), .ref (ad 32), .int (σ.2.2 13), .ref (ad 33), .int (σ.2.2 14), .ref (ad 34), .ref (ad 35), .int (σ.2.2 15), .ref (ad 36), .ref (ad 37), .ref (ad 38), .int (σ.2.2 16), .ref (ad 39), .ref (ad 40), .ref (ad 41), .int (σ.2.2 17), .int (σ.2.2 18), .ref (ad 42), .ref (ad 43), .ref (ad 44), .ref (ad 45), .int (σ.2.2 19), .ref (ad 46), .ref (ad 47)] 5 (.int x))) = wo cI cL cZ ad (fput σ 14 x) := rfl
theorem ws_f15 (cI cL cZ : ClassId) (ad : Nat → Nat) (σ : tq_S) (x : Int32) : (wo cI cL cZ ad σ).set 5 (ad 5, .inr (5, List.set [.ref (ad 30), .ref (ad 31), .ref (ad 32), .int (σ.2.2 13), .ref (ad 33), .int (σ.2.2 14), .ref (ad 34), .ref (ad 35), .int (σ.2.2 15), .ref (ad 36), .ref (ad 37), .ref (ad 38), .int (σ.2.2 16), .ref (ad 39), .ref (ad 40), .ref (ad 41), .int (σ.2.2 17), .int (σ.2.2 18), .ref (ad 42), .ref (ad 43), .ref (ad 44), .ref (ad 45), .int (σ.2.2 19), .ref (ad 46), .ref (ad 47)] 8 (.int x))) = wo cI cL cZ ad (fput σ 15 x) := rfl
theorem ws_f16 (cI cL cZ : ClassId) (ad : Nat → Nat) (σ : tq_S) (x : Int32) : (wo cI cL cZ ad σ).set 5 (ad 5, .inr (5, List.set [.ref (ad 30), .ref (ad 31), .ref (ad 32), .int (σ.2.2 13), .ref (ad 33), .int (σ.2.2 14), .ref (ad 34), .ref (ad 35), .int (σ.2.2 15), .ref (ad 36), .ref (ad 37), .ref (ad 38), .int (σ.2.2 16), .ref (ad 39), .ref (ad 40), .ref (ad 41), .int (σ.2.2 17), .int (σ.2.2 18), .ref (ad 42), .ref (ad 43), .ref (ad 44), .ref (ad 45), .int (σ.2.2 19), .ref (ad 46), .ref (ad 47)] 12 (.int x))) = wo cI cL cZ ad (fput σ 16 x) := rfl
theorem ws_f17 (cI cL cZ : ClassId) (ad : Nat → Nat) (σ : tq_S) (x : Int32) : (wo cI cL cZ ad σ).set 5 (ad 5, .inr (5, List.set [.ref (ad 30), .ref (ad 31), .ref (ad 32), .int (σ.2.2 13), .ref (ad 33), .int (σ.2.2 14), .ref (ad 34), .ref (ad 35), .int (σ.2.2 15), .ref (ad 36), .ref (ad 37), .ref (ad 38), .int (σ.2.2 16), .ref (ad 39), .ref (ad 40), .ref (ad 41), .int (σ.2.2 17), .int (σ.2.2 18), .ref (ad 42), .ref (ad 43), .ref (ad 44), .ref (ad 45), .int (σ.2.2 19), .ref (ad 46), .ref (ad 47)] 16 (.int x))) = wo cI cL cZ ad (fput σ 17 x) := rfl
theorem ws_f18 (cI cL cZ : ClassId) (ad : Nat → Nat) (σ : tq_S) (x : Int32) : (wo cI cL cZ ad σ).set 5 (ad 5, .inr (5, List.set [.ref (ad 30), .ref (ad 31), .ref (ad 32), .int (σ.2.2 13), .ref (ad 33), .int (σ.2.2 14), .ref (ad 34), .ref (ad 35), .int (σ.2.2 15), .ref (ad 36), .ref (ad 37), .ref (ad 38), .int (σ.2.2 16), .ref (ad 39), .ref (ad 40), .ref (ad 41), .int (σ.2.2 17), .int (σ.2.2 18), .ref (ad 42), .ref (ad 43), .ref (ad 44), .ref (ad 45), .int (σ.2.2 19), .ref (ad 46), .ref (ad 47)] 17 (.int x))) = wo cI cL cZ ad (fput σ 18 x) := rfl
theorem ws_f19 (cI cL cZ : ClassId) (ad : Nat → Nat) (σ : tq_S) (x : Int32) : (wo cI cL cZ ad σ).set 5 (ad 5, .inr (5, List.set [.ref (ad 30), .ref (ad 31), .ref (ad 32), .int (σ.2.2 13), .ref (ad 33), .int (σ.2.2 14), .ref (ad 34), .ref (ad 35), .int (σ.2.2 15), .ref (ad 36), .ref (ad 37), .ref (ad 38), .int (σ.2.2 16), .ref (ad 39), .ref (ad 40), .ref (ad 41), .int (σ.2.2 17), .int (σ.2.2 18), .ref (ad 42), .ref (ad 43), .ref (ad 44), .ref (ad 45), .int (σ.2.2 19), .ref (ad 46), .ref (ad 47)] 22 (.int x))) = wo cI cL cZ ad (fput σ 19 x) := rfl
theorem ws_i0 (cI cL cZ : ClassId) (ad : Nat → Nat) (σ : tq_S) (i : Nat) (x : Int32) : (wo cI cL cZ ad σ).set 6 (ad 6, .inl (cI, 80, .inl (upd (σ.1 0) i x))) = wo cI cL cZ ad (iput σ 0 i x) := rfl
theorem ws_i1 (cI cL cZ : ClassId) (ad : Nat → Nat) (σ : tq_S) (i : Nat) (x : Int32) : (wo cI cL cZ ad σ).set 7 (ad 7, .inl (cI, 80, .inl (upd (σ.1 1) i x))) = wo cI cL cZ ad (iput σ 1 i x) := rfl
theorem ws_i2 (cI cL cZ : ClassId) (ad : Nat → Nat) (σ : tq_S) (i : Nat) (x : Int32) : (wo cI cL cZ ad σ).set 8 (ad 8, .inl (cI, 80, .inl (upd (σ.1 2) i x))) = wo cI cL cZ ad (iput σ 2 i x) := rfl
theorem ws_l0 (cI cL cZ : ClassId) (ad : Nat → Nat) (σ : tq_S) (i : Nat) (x : Int64) : (wo cI cL cZ ad σ).set 9 (ad 9, .inl (cL, 1280, .inr (.inl (vp_updL (σ.2.1 0) i x)))) = wo cI cL cZ ad (lput σ 0 i x) := rfl
theorem ws_i3 (cI cL cZ : ClassId) (ad : Nat → Nat) (σ : tq_S) (i : Nat) (x : Int32) : (wo cI cL cZ ad σ).set 10 (ad 10, .inl (cI, 10, .inl (upd (σ.1 3) i x))) = wo cI cL cZ ad (iput σ 3 i x) := rfl
theorem ws_l1 (cI cL cZ : ClassId) (ad : Nat → Nat) (σ : tq_S) (i : Nat) (x : Int64) : (wo cI cL cZ ad σ).set 11 (ad 11, .inl (cL, 160, .inr (.inl (vp_updL (σ.2.1 1) i x)))) = wo cI cL cZ ad (lput σ 1 i x) := rfl
theorem ws_i4 (cI cL cZ : ClassId) (ad : Nat → Nat) (σ : tq_S) (i : Nat) (x : Int32) : (wo cI cL cZ ad σ).set 12 (ad 12, .inl (cI, 1024, .inl (upd (σ.1 4) i x))) = wo cI cL cZ ad (iput σ 4 i x) := rfl
theorem ws_i5 (cI cL cZ : ClassId) (ad : Nat → Nat) (σ : tq_S) (i : Nat) (x : Int32) : (wo cI cL cZ ad σ).set 13 (ad 13, .inl (cI, 4, .inl (upd (σ.1 5) i x))) = wo cI cL cZ ad (iput σ 5 i x) := rfl
theorem ws_i6 (cI cL cZ : ClassId) (ad : Nat → Nat) (σ : tq_S) (i : Nat) (x : Int32) : (wo cI cL cZ ad σ).set 14 (ad 14, .inl (cI, 4, .inl (upd (σ.1 6) i x))) = wo cI cL cZ ad (iput σ 6 i x) := rfl
theorem ws_i7 (cI cL cZ : ClassId) (ad : Nat → Nat) (σ : tq_S) (i : Nat) (x : Int32) : (wo cI cL cZ ad σ).set 15 (ad 15, .inl (cI, 30, .inl (upd (σ.1 7) i x))) = wo cI cL cZ ad (iput σ 7 i x) := rfl
theorem ws_i8 (cI cL cZ : ClassId) (ad : Nat → Nat) (σ : tq_S) (i : Nat) (x : Int32) : (wo cI cL cZ ad σ).set 16 (ad 16, .inl (cI, 30, .inl (upd (σ.1 8) i x))) = wo cI cL cZ ad (iput σ 8 i x) := rfl
theorem ws_i9 (cI cL cZ : ClassId) (ad : Nat → Nat) (σ : tq_S) (i : Nat) (x : Int32) : (wo cI cL cZ ad σ).set 17 (ad 17, .inl (cI, 4, .inl (upd (σ.1 9) i x))) = wo cI cL cZ ad (iput σ 9 i x) := rfl
theorem ws_i10 (cI cL cZ : ClassId) (ad : Nat → Nat) (σ : tq_S) (i : Nat) (x : Int32) : (wo cI cL cZ ad σ).set 18 (ad 18, .inl (cI, 4, .inl (upd (σ.1 10) i x))) = wo cI cL cZ ad (iput σ 10 i x) := rfl
theorem ws_l2 (cI cL cZ : ClassId) (ad : Nat → Nat) (σ : tq_S) (i : Nat) (x : Int64) : (wo cI cL cZ ad σ).set 19 (ad 19, .inl (cL, 16, .inr (.inl (vp_updL (σ.2.1 2) i x)))) = wo cI cL cZ ad (lput σ 2 i x) := rfl
theorem ws_l3 (cI cL cZ : ClassId) (ad : Nat → Nat) (σ : tq_S) (i : Nat) (x : Int64) : (wo cI cL cZ ad σ).set 20 (ad 20, .inl (cL, 16, .inr (.inl (vp_updL (σ.2.1 3) i x)))) = wo cI cL cZ ad (lput σ 3 i x) := rfl
theorem ws_i11 (cI cL cZ : ClassId) (ad : Nat → Nat) (σ : tq_S) (i : Nat) (x : Int32) : (wo cI cL cZ ad σ).set 21 (ad 21, .inl (cI, 1024, .inl (upd (σ.1 11) i x))) = wo cI cL cZ ad (iput σ 11 i x) := rfl
theorem ws_i12 (cI cL cZ : ClassId) (ad : Nat → Nat) (σ : tq_S) (i : Nat) (x : Int32) : (wo cI cL cZ ad σ).set 22 (ad 22, .inl (cI, 1024, .inl (upd (σ.1 12) i x))) = wo cI cL cZ ad (iput σ 12 i x) := rfl
theorem ws_l4 (cI cL cZ : ClassId) (ad : Nat → Nat) (σ : tq_S) (i : Nat) (x : Int64) : (wo cI cL cZ ad σ).set 23 (ad 23, .inl (cL, 80, .inr (.inl (vp_updL (σ.2.1 4) i x)))) = wo cI cL cZ ad (lput σ 4 i x) := rfl
theorem ws_i13 (cI cL cZ : ClassId) (ad : Nat → Nat) (σ : tq_S) (i : Nat) (x : Int32) : (wo cI cL cZ ad σ).set 24 (ad 24, .inl (cI, 25, .inl (upd (σ.1 13) i x))) = wo cI cL cZ ad (iput σ 13 i x) := rfl
theorem ws_i14 (cI cL cZ : ClassId) (ad : Nat → Nat) (σ : tq_S) (i : Nat) (x : Int32) : (wo cI cL cZ ad σ).set 25 (ad 25, .inl (cI, 25, .inl (upd (σ.1 14) i x))) = wo cI cL cZ ad (iput σ 14 i x) := rfl
theorem ws_l5 (cI cL cZ : ClassId) (ad : Nat → Nat) (σ : tq_S) (i : Nat) (x : Int64) : (wo cI cL cZ ad σ).set 26 (ad 26, .inl (cL, 400, .inr (.inl (vp_updL (σ.2.1 5) i x)))) = wo cI cL cZ ad (lput σ 5 i x) := rfl
theorem ws_i15 (cI cL cZ : ClassId) (ad : Nat → Nat) (σ : tq_S) (i : Nat) (x : Int32) : (wo cI cL cZ ad σ).set 27 (ad 27, .inl (cI, 4096, .inl (upd (σ.1 15) i x))) = wo cI cL cZ ad (iput σ 15 i x) := rfl
theorem ws_l6 (cI cL cZ : ClassId) (ad : Nat → Nat) (σ : tq_S) (i : Nat) (x : Int64) : (wo cI cL cZ ad σ).set 28 (ad 28, .inl (cL, 16, .inr (.inl (vp_updL (σ.2.1 6) i x)))) = wo cI cL cZ ad (lput σ 6 i x) := rfl
theorem ws_i16 (cI cL cZ : ClassId) (ad : Nat → Nat) (σ : tq_S) (i : Nat) (x : Int32) : (wo cI cL cZ ad σ).set 29 (ad 29, .inl (cI, 5, .inl (upd (σ.1 16) i x))) = wo cI cL cZ ad (iput σ 16 i x) := rfl
theorem ws_i17 (cI cL cZ : ClassId) (ad : Nat → Nat) (σ : tq_S) (i : Nat) (x : Int32) : (wo cI cL cZ ad σ).set 30 (ad 30, .inl (cI, 80, .inl (upd (σ.1 17) i x))) = wo cI cL cZ ad (iput σ 17 i x) := rfl
theorem ws_i18 (cI cL cZ : ClassId) (ad : Nat → Nat) (σ : tq_S) (i : Nat) (x : Int32) : (wo cI cL cZ ad σ).set 31 (ad 31, .inl (cI, 80, .inl (upd (σ.1 18) i x))) = wo cI cL cZ ad (iput σ 18 i x) := rfl
theorem ws_i19 (cI cL cZ : ClassId) (ad : Nat → Nat) (σ : tq_S) (i : Nat) (x : Int32) : (wo cI cL cZ ad σ).set 32 (ad 32, .inl (cI, 80, .inl (upd (σ.1 19) i x))) = wo cI cL cZ ad (iput σ 19 i x) := rfl
theorem ws_i20 (cI cL cZ : ClassId) (ad : Nat → Nat) (σ : tq_S) (i : Nat) (x : Int32) : (wo cI cL cZ ad σ).set 33 (ad 33, .inl (cI, 10, .inl (upd (σ.1 20) i x))) = wo cI cL cZ ad (iput σ 20 i x) := rfl
theorem ws_i21 (cI cL cZ : ClassId) (ad : Nat → Nat) (σ : tq_S) (i : Nat) (x : Int32) : (wo cI cL cZ ad σ).set 34 (ad 34, .inl (cI, 30, .inl (upd (σ.1 21) i x))) = wo cI cL cZ ad (iput σ 21 i x) := rfl
theorem ws_i22 (cI cL cZ : ClassId) (ad : Nat → Nat) (σ : tq_S) (i : Nat) (x : Int32) : (wo cI cL cZ ad σ).set 35 (ad 35, .inl (cI, 30, .inl (upd (σ.1 22) i x))) = wo cI cL cZ ad (iput σ 22 i x) := rfl
theorem ws_i23 (cI cL cZ : ClassId) (ad : Nat → Nat) (σ : tq_S) (i : Nat) (x : Int32) : (wo cI cL cZ ad σ).set 36 (ad 36, .inl (cZ, 16, .inl (upd (σ.1 23) i x))) = wo cI cL cZ ad (iput σ 23 i x) := rfl
theorem ws_i24 (cI cL cZ : ClassId) (ad : Nat → Nat) (σ : tq_S) (i : Nat) (x : Int32) : (wo cI cL cZ ad σ).set 37 (ad 37, .inl (cI, 40, .inl (upd (σ.1 24) i x))) = wo cI cL cZ ad (iput σ 24 i x) := rfl
theorem ws_i25 (cI cL cZ : ClassId) (ad : Nat → Nat) (σ : tq_S) (i : Nat) (x : Int32) : (wo cI cL cZ ad σ).set 38 (ad 38, .inl (cI, 40, .inl (upd (σ.1 25) i x))) = wo cI cL cZ ad (iput σ 25 i x) := rfl
theorem ws_i26 (cI cL cZ : ClassId) (ad : Nat → Nat) (σ : tq_S) (i : Nat) (x : Int32) : (wo cI cL cZ ad σ).set 39 (ad 39, .inl (cI, 40, .inl (upd (σ.1 26) i x))) = wo cI cL cZ ad (iput σ 26 i x) := rfl
theorem ws_i27 (cI cL cZ : ClassId) (ad : Nat → Nat) (σ : tq_S) (i : Nat) (x : Int32) : (wo cI cL cZ ad σ).set 40 (ad 40, .inl (cI, 40, .inl (upd (σ.1 27) i x))) = wo cI cL cZ ad (iput σ 27 i x) := rfl
theorem ws_i28 (cI cL cZ : ClassId) (ad : Nat → Nat) (σ : tq_S) (i : Nat) (x : Int32) : (wo cI cL cZ ad σ).set 41 (ad 41, .inl (cI, 40, .inl (upd (σ.1 28) i x))) = wo cI cL cZ ad (iput σ 28 i x) := rfl
theorem ws_i29 (cI cL cZ : ClassId) (ad : Nat → Nat) (σ : tq_S) (i : Nat) (x : Int32) : (wo cI cL cZ ad σ).set 42 (ad 42, .inl (cZ, 81920, .inl (upd (σ.1 29) i x))) = wo cI cL cZ ad (iput σ 29 i x) := rfl
theorem ws_i30 (cI cL cZ : ClassId) (ad : Nat → Nat) (σ : tq_S) (i : Nat) (x : Int32) : (wo cI cL cZ ad σ).set 43 (ad 43, .inl (cI, 1024, .inl (upd (σ.1 30) i x))) = wo cI cL cZ ad (iput σ 30 i x) := rfl
theorem ws_i31 (cI cL cZ : ClassId) (ad : Nat → Nat) (σ : tq_S) (i : Nat) (x : Int32) : (wo cI cL cZ ad σ).set 44 (ad 44, .inl (cI, 1024, .inl (upd (σ.1 31) i x))) = wo cI cL cZ ad (iput σ 31 i x) := rfl
theorem ws_i32 (cI cL cZ : ClassId) (ad : Nat → Nat) (σ : tq_S) (i : Nat) (x : Int32) : (wo cI cL cZ ad σ).set 45 (ad 45, .inl (cZ, 16, .inl (upd (σ.1 32) i x))) = wo cI cL cZ ad (iput σ 32 i x) := rfl
theorem ws_i33 (cI cL cZ : ClassId) (ad : Nat → Nat) (σ : tq_S) (i : Nat) (x : Int32) : (wo cI cL cZ ad σ).set 46 (ad 46, .inl (cZ, 30720, .inl (upd (σ.1 33) i x))) = wo cI cL cZ ad (iput σ 33 i x) := rfl
theorem ws_i34 (cI cL cZ : ClassId) (ad : Nat → Nat) (σ : tq_S) (i : Nat) (x : Int32) : (wo cI cL cZ ad σ).set 47 (ad 47, .inl (cI, 5, .inl (upd (σ.1 34) i x))) = wo cI cL cZ ad (iput σ 34 i x) := rfl
def woC (cI cL cZ : ClassId) (ad : Nat → Nat) (σ : tq_S) : va_W := [
  (ad 1, .inr (1, [.ref (ad 6), .ref (ad 7), .ref (ad 8), .ref (ad 9), .ref (ad 10), .ref (ad 11), .ref (ad 12), .int (σ.2.2 0), .int (σ.2.2 1)])),
  (ad 6, .inl (cI, 80, .inl (σ.1 0))),
  (ad 7, .inl (cI, 80, .inl (σ.1 1))),
  (ad 8, .inl (cI, 80, .inl (σ.1 2))),
  (ad 9, .inl (cL, 1280, .inr (.inl (σ.2.1 0)))),
  (ad 10, .inl (cI, 10, .inl (σ.1 3))),
  (ad 11, .inl (cL, 160, .inr (.inl (σ.2.1 1)))),
  (ad 12, .inl (cI, 1024, .inl (σ.1 4)))]
theorem wsC_f0 (cI cL cZ : ClassId) (ad : Nat → Nat) (σ : tq_S) (x : Int32) : (woC cI cL cZ ad σ).set 0 (ad 1, .inr (1, List.set [.ref (ad 6), .ref (ad 7), .ref (ad 8), .ref (ad 9), .ref (ad 10), .ref (ad 11), .ref (ad 12), .int (σ.2.2 0), .int (σ.2.2 1)] 7 (.int x))) = woC cI cL cZ ad (fput σ 0 x) := rfl
theorem wsC_f1 (cI cL cZ : ClassId) (ad : Nat → Nat) (σ : tq_S) (x : Int32) : (woC cI cL cZ ad σ).set 0 (ad 1, .inr (1, List.set [.ref (ad 6), .ref (ad 7), .ref (ad 8), .ref (ad 9), .ref (ad 10), .ref (ad 11), .ref (ad 12), .int (σ.2.2 0), .int (σ.2.2 1)] 8 (.int x))) = woC cI cL cZ ad (fput σ 1 x) := rfl
theorem wsC_i0 (cI cL cZ : ClassId) (ad : Nat → Nat) (σ : tq_S) (i : Nat) (x : Int32) : (woC cI cL cZ ad σ).set 1 (ad 6, .inl (cI, 80, .inl (upd (σ.1 0) i x))) = woC cI cL cZ ad (iput σ 0 i x) := rfl
theorem wsC_i1 (cI cL cZ : ClassId) (ad : Nat → Nat) (σ : tq_S) (i : Nat) (x : Int32) : (woC cI cL cZ ad σ).set 2 (ad 7, .inl (cI, 80, .inl (upd (σ.1 1) i x))) = woC cI cL cZ ad (iput σ 1 i x) := rfl
theorem wsC_i2 (cI cL cZ : ClassId) (ad : Nat → Nat) (σ : tq_S) (i : Nat) (x : Int32) : (woC cI cL cZ ad σ).set 3 (ad 8, .inl (cI, 80, .inl (upd (σ.1 2) i x))) = woC cI cL cZ ad (iput σ 2 i x) := rfl
theorem wsC_l0 (cI cL cZ : ClassId) (ad : Nat → Nat) (σ : tq_S) (i : Nat) (x : Int64) : (woC cI cL cZ ad σ).set 4 (ad 9, .inl (cL, 1280, .inr (.inl (vp_updL (σ.2.1 0) i x)))) = woC cI cL cZ ad (lput σ 0 i x) := rfl
theorem wsC_i3 (cI cL cZ : ClassId) (ad : Nat → Nat) (σ : tq_S) (i : Nat) (x : Int32) : (woC cI cL cZ ad σ).set 5 (ad 10, .inl (cI, 10, .inl (upd (σ.1 3) i x))) = woC cI cL cZ ad (iput σ 3 i x) := rfl
theorem wsC_l1 (cI cL cZ : ClassId) (ad : Nat → Nat) (σ : tq_S) (i : Nat) (x : Int64) : (woC cI cL cZ ad σ).set 6 (ad 11, .inl (cL, 160, .inr (.inl (vp_updL (σ.2.1 1) i x)))) = woC cI cL cZ ad (lput σ 1 i x) := rfl
theorem wsC_i4 (cI cL cZ : ClassId) (ad : Nat → Nat) (σ : tq_S) (i : Nat) (x : Int32) : (woC cI cL cZ ad σ).set 7 (ad 12, .inl (cI, 1024, .inl (upd (σ.1 4) i x))) = woC cI cL cZ ad (iput σ 4 i x) := rfl
def woR (cI cL cZ : ClassId) (ad : Nat → Nat) (σ : tq_S) : va_W := [
  (ad 2, .inr (2, [.ref (ad 13), .ref (ad 14)])),
  (ad 13, .inl (cI, 4, .inl (σ.1 5))),
  (ad 14, .inl (cI, 4, .inl (σ.1 6)))]
theorem wsR_i5 (cI cL cZ : ClassId) (ad : Nat → Nat) (σ : tq_S) (i : Nat) (x : Int32) : (woR cI cL cZ ad σ).set 1 (ad 13, .inl (cI, 4, .inl (upd (σ.1 5) i x))) = woR cI cL cZ ad (iput σ 5 i x) := rfl
theorem wsR_i6 (cI cL cZ : ClassId) (ad : Nat → Nat) (σ : tq_S) (i : Nat) (x : Int32) : (woR cI cL cZ ad σ).set 2 (ad 14, .inl (cI, 4, .inl (upd (σ.1 6) i x))) = woR cI cL cZ ad (iput σ 6 i x) := rfl
def woH (cI cL cZ : ClassId) (ad : Nat → Nat) (σ : tq_S) : va_W := [
  (ad 4, .inr (4, [.ref (ad 1), .ref (ad 3), .ref (ad 23), .ref (ad 24), .ref (ad 25), .int (σ.2.2 7), .int (σ.2.2 8), .ref (ad 26), .ref (ad 27), .ref (ad 28), .int (σ.2.2 9), .ref (ad 29), .int (σ.2.2 10), .int (σ.2.2 11), .int (σ.2.2 12)])),
  (ad 23, .inl (cL, 80, .inr (.inl (σ.2.1 4)))),
  (ad 24, .inl (cI, 25, .inl (σ.1 13))),
  (ad 25, .inl (cI, 25, .inl (σ.1 14))),
  (ad 26, .inl (cL, 400, .inr (.inl (σ.2.1 5)))),
  (ad 27, .inl (cI, 4096, .inl (σ.1 15))),
  (ad 28, .inl (cL, 16, .inr (.inl (σ.2.1 6)))),
  (ad 29, .inl (cI, 5, .inl (σ.1 16)))]
theorem wsH_f7 (cI cL cZ : ClassId) (ad : Nat → Nat) (σ : tq_S) (x : Int32) : (woH cI cL cZ ad σ).set 0 (ad 4, .inr (4, List.set [.ref (ad 1), .ref (ad 3), .ref (ad 23), .ref (ad 24), .ref (ad 25), .int (σ.2.2 7), .int (σ.2.2 8), .ref (ad 26), .ref (ad 27), .ref (ad 28), .int (σ.2.2 9), .ref (ad 29), .int (σ.2.2 10), .int (σ.2.2 11), .int (σ.2.2 12)] 5 (.int x))) = woH cI cL cZ ad (fput σ 7 x) := rfl
theorem wsH_f8 (cI cL cZ : ClassId) (ad : Nat → Nat) (σ : tq_S) (x : Int32) : (woH cI cL cZ ad σ).set 0 (ad 4, .inr (4, List.set [.ref (ad 1), .ref (ad 3), .ref (ad 23), .ref (ad 24), .ref (ad 25), .int (σ.2.2 7), .int (σ.2.2 8), .ref (ad 26), .ref (ad 27), .ref (ad 28), .int (σ.2.2 9), .ref (ad 29), .int (σ.2.2 10), .int (σ.2.2 11), .int (σ.2.2 12)] 6 (.int x))) = woH cI cL cZ ad (fput σ 8 x) := rfl
theorem wsH_f9 (cI cL cZ : ClassId) (ad : Nat → Nat) (σ : tq_S) (x : Int32) : (woH cI cL cZ ad σ).set 0 (ad 4, .inr (4, List.set [.ref (ad 1), .ref (ad 3), .ref (ad 23), .ref (ad 24), .ref (ad 25), .int (σ.2.2 7), .int (σ.2.2 8), .ref (ad 26), .ref (ad 27), .ref (ad 28), .int (σ.2.2 9), .ref (ad 29), .int (σ.2.2 10), .int (σ.2.2 11), .int (σ.2.2 12)] 10 (.int x))) = woH cI cL cZ ad (fput σ 9 x) := rfl
theorem wsH_f10 (cI cL cZ : ClassId) (ad : Nat → Nat) (σ : tq_S) (x : Int32) : (woH cI cL cZ ad σ).set 0 (ad 4, .inr (4, List.set [.ref (ad 1), .ref (ad 3), .ref (ad 23), .ref (ad 24), .ref (ad 25), .int (σ.2.2 7), .int (σ.2.2 8), .ref (ad 26), .ref (ad 27), .ref (ad 28), .int (σ.2.2 9), .ref (ad 29), .int (σ.2.2 10), .int (σ.2.2 11), .int (σ.2.2 12)] 12 (.int x))) = woH cI cL cZ ad (fput σ 10 x) := rfl
theorem wsH_f11 (cI cL cZ : ClassId) (ad : Nat → Nat) (σ : tq_S) (x : Int32) : (woH cI cL cZ ad σ).set 0 (ad 4, .inr (4, List.set [.ref (ad 1), .ref (ad 3), .ref (ad 23), .ref (ad 24), .ref (ad 25), .int (σ.2.2 7), .int (σ.2.2 8), .ref (ad 26), .ref (ad 27), .ref (ad 28), .int (σ.2.2 9), .ref (ad 29), .int (σ.2.2 10), .int (σ.2.2 11), .int (σ.2.2 12)] 13 (.int x))) = woH cI cL cZ ad (fput σ 11 x) := rfl
theorem wsH_f12 (cI cL cZ : ClassId) (ad : Nat → Nat) (σ : tq_S) (x : Int32) : (woH cI cL cZ ad σ).set 0 (ad 4, .inr (4, List.set [.ref (ad 1), .ref (ad 3), .ref (ad 23), .ref (ad 24), .ref (ad 25), .int (σ.2.2 7), .int (σ.2.2 8), .ref (ad 26), .ref (ad 27), .ref (ad 28), .int (σ.2.2 9), .ref (ad 29), .int (σ.2.2 10), .int (σ.2.2 11), .int (σ.2.2 12)] 14 (.int x))) = woH cI cL cZ ad (fput σ 12 x) := rfl
theorem wsH_l4 (cI cL cZ : ClassId) (ad : Nat → Nat) (σ : tq_S) (i : Nat) (x : Int64) : (woH cI cL cZ ad σ).set 1 (ad 23, .inl (cL, 80, .inr (.inl (vp_updL (σ.2.1 4) i x)))) = woH cI cL cZ ad (lput σ 4 i x) := rfl
theorem wsH_i13 (cI cL cZ : ClassId) (ad : Nat → Nat) (σ : tq_S) (i : Nat) (x : Int32) : (woH cI cL cZ ad σ).set 2 (ad 24, .inl (cI, 25, .inl (upd (σ.1 13) i x))) = woH cI cL cZ ad (iput σ 13 i x) := rfl
theorem wsH_i14 (cI cL cZ : ClassId) (ad : Nat → Nat) (σ : tq_S) (i : Nat) (x : Int32) : (woH cI cL cZ ad σ).set 3 (ad 25, .inl (cI, 25, .inl (upd (σ.1 14) i x))) = woH cI cL cZ ad (iput σ 14 i x) := rfl
theorem wsH_l5 (cI cL cZ : ClassId) (ad : Nat → Nat) (σ : tq_S) (i : Nat) (x : Int64) : (woH cI cL cZ ad σ).set 4 (ad 26, .inl (cL, 400, .inr (.inl (vp_updL (σ.2.1 5) i x)))) = woH cI cL cZ ad (lput σ 5 i x) := rfl
theorem wsH_i15 (cI cL cZ : ClassId) (ad : Nat → Nat) (σ : tq_S) (i : Nat) (x : Int32) : (woH cI cL cZ ad σ).set 5 (ad 27, .inl (cI, 4096, .inl (upd (σ.1 15) i x))) = woH cI cL cZ ad (iput σ 15 i x) := rfl
theorem wsH_l6 (cI cL cZ : ClassId) (ad : Nat → Nat) (σ : tq_S) (i : Nat) (x : Int64) : (woH cI cL cZ ad σ).set 6 (ad 28, .inl (cL, 16, .inr (.inl (vp_updL (σ.2.1 6) i x)))) = woH cI cL cZ ad (lput σ 6 i x) := rfl
theorem wsH_i16 (cI cL cZ : ClassId) (ad : Nat → Nat) (σ : tq_S) (i : Nat) (x : Int32) : (woH cI cL cZ ad σ).set 7 (ad 29, .inl (cI, 5, .inl (upd (σ.1 16) i x))) = woH cI cL cZ ad (iput σ 16 i x) := rfl
/-! the small table of the class, a static array of six longs, as the start has it -/
def tq_lowA : Nat → Int64 := fun k => match k with
  | 0 => -6148914691236517206
  | 1 => -3689348814741910324
  | 2 => -1085102592571150096
  | 3 => -71777214294589696
  | 4 => -281470681808896
  | _ => -4294967296
def tq_Z (tt : Nat) (A : Nat → Prop) (U : State) (H : Heap) : Prop := va_Z "TableauNodes$Concepts" "LOW_ATOM_WORDS" "[J" (.ref tt) A U H ∧ va_T .long tt 6 (fun j => .long (tq_lowA j)) A U H
theorem tq_Z.go {tt : Nat} {A B : Nat → Prop} {s U : State} {H H1 : Heap} (h : tq_Z tt A s H) (hq : ∀ a : Nat, a < H.size → ¬ A a → H1[a]? = H[a]?) (hAB : ∀ q, B q → A q) (hvm : s.vm.Alike U.vm) : tq_Z tt B U H1 :=
  ⟨((h.1.kept hq).narrow hAB).moved hvm, ((h.2.kept hq).narrow hAB).moved hvm⟩
/-! the words by which nest mates are called -/
def tq_N (U : State) : Prop := ∀ q ∈ tq_nest, va_Nw (.methodLinkNest q.1 q.2.1 q.2.2 "TableauNodes") U
theorem tq_N.go {s U : State} (hW : s.WarmedH U.vm) (h : tq_N s) : tq_N U := fun q hq => va_Nw.warmM hW (h q hq)
abbrev tq_ty (cI cL cZ : ClassId) : List (ClassId × FieldType) := [(cI, .int), (cL, .long), (cZ, .boolean)]
/-- what a method finds -/
def tq_B (dC : Nat → ClassId) (dI : Nat → Nat → Nat) (cI cL cZ : ClassId) (tt : Nat) (ws : va_W) (sz : Nat) (U : State) : Prop := U.heap.size = sz ∧ va_P (dC, dI) tq_cl ws U.heap ∧ va_K (dC, dI) tq_cl (tq_ty cI cL cZ) U ∧ va_D (fun _ => True) ws ∧ tq_Z tt (va_A ws sz) U U.heap ∧ tq_N U
/-- what it leaves -/
def tq_E (dC : Nat → ClassId) (dI : Nat → Nat → Nat) (cI cL cZ : ClassId) (wf : tq_S → va_W) (A : Nat → Prop) (u : tq_S) (t : State) : Prop := va_P (dC, dI) tq_cl (wf u) t.heap ∧ va_K (dC, dI) tq_cl (tq_ty cI cL cZ) t ∧ va_D A (wf u)
theorem tq_bl {dC : Nat → ClassId} {dI : Nat → Nat → Nat} {cI cL cZ : ClassId} {tt : Nat} {ws : va_W} {sz : Nat} {av : List Value} : FrameBlind (va_Pc av (tq_B dC dI cI cL cZ tt ws sz)) := by
  intro a U g mk q
  obtain ⟨q0, q1, qP, qK, qD, qZ, qN⟩ := q
  refine ⟨q0, q1, qP, va_K.moved (u := U) (U := U.calling g mk a) (Vm.Alike.refl U.vm) qK, qD, ?_, fun w hw => va_Nw.same (u := U) rfl rfl (qN w hw)⟩
  exact ⟨va_Z.moved (u := U) (U := U.calling g mk a) (Vm.Alike.refl U.vm) qZ.1, va_T.moved (u := U) (U := U.calling g mk a) (Vm.Alike.refl U.vm) qZ.2⟩
theorem tq_fr {A : Nat → Prop} {ws : va_W} {H0 H : Heap} {locs : List Loc} (hD : va_D A ws) (hS : va_S A H0 H locs) (hA : ∀ q, H0.size ≤ q → A q) : ∀ q, va_A ws H.size q → A q := by
  intro q h
  rcases h with ⟨k, e, hk⟩ | h
  · exact hD.2 k (q, e) hk
  · exact hA q (Nat.le_trans hS.1 h)
theorem tq_pr {dC : Nat → ClassId} {dI : Nat → Nat → Nat} {cI cL cZ : ClassId} {tt : Nat} {ws : va_W} {av : List Value} {A : Nat → Prop} {s : State} {H : Heap} {locs : List Loc} (hP : va_P (dC, dI) tq_cl ws H) (hK : va_K (dC, dI) tq_cl (tq_ty cI cL cZ) s) (hD : va_D A ws) (hS : va_S A s.heap H locs) (hA : ∀ q, s.heap.size ≤ q → A q) (hZ : tq_Z tt A s s.heap) (hN : tq_N s) :
    ∀ U : State, U.heap = H → s.WarmedH U.vm → va_Pc av (tq_B dC dI cI cL cZ tt ws H.size) av.toArray U := by
  intro U hU hW
  refine ⟨rfl, by rw [hU], by rw [hU]; exact hP, va_K.moved hW.alike hK, hD.weaken (fun _ _ _ _ => trivial), ?_, hN.go hW⟩
  rw [hU]
  exact hZ.go hS.2.1 (tq_fr hD hS hA) hW.alike
section tqCalls
variable {p : Program} {l : Launch} {e : Env} {R : Room} {s : State} {m : MethodId} {args : Array Value} {below : List Frame} {meth : Method} {c : Code} {H : Heap} {locs : List Loc} {cells slots : Nat} {Q : State → Prop}
variable {pc : Nat} {ls : Array Slot} {rest st0 : List Value}
variable {dC : Nat → ClassId} {dI : Nat → Nat → Nat} {cI cL cZ : ClassId} {A : Nat → Prop} {wf : tq_S → va_W} {ws : va_W} {σ' : tq_S} {av : Array Value}
theorem tq_nmi {x y : Int32} (h : y = x) (k : W p l e R s m args below meth c H locs cells slots Q (F0 m pc ls (.int y :: rest))) : W p l e R s m args below meth c H locs cells slots Q (F0 m pc ls (.int x :: rest)) := h ▸ k
theorem tq_nml {x y : Int64} (h : y = x) (k : W p l e R s m args below meth c H locs cells slots Q (F0 m pc ls (.long y :: rest))) : W p l e R s m args below meth c H locs cells slots Q (F0 m pc ls (.long x :: rest)) := h ▸ k
theorem tq_aI {r : Int32} (hr : va_Run p l e R s m args below meth c H locs cells slots 0 0 (F0 m pc ls st0) rest (va_Qi (fun (r' : Int32) (u : tq_S) => r' = r ∧ u = σ') (tq_E dC dI cI cL cZ wf (va_A ws H.size)) (va_A ws H.size) av) (va_A ws H.size))
    (hD : va_D A ws) (hS : va_S A s.heap H locs) (hA : ∀ q, s.heap.size ≤ q → A q)
    (kk : ∀ (H : Heap) (locs : List Loc), va_P (dC, dI) tq_cl (wf σ') H → va_D A (wf σ') → va_S A s.heap H locs → W p l e R s m args below meth c H locs cells slots Q (F0 m (pc + 3) ls (.int r :: rest))) : W p l e R s m args below meth c H locs cells slots Q (F0 m pc ls st0) := by
  have hF := tq_fr hD hS hA
  refine va_calli hr hS (fun q _ h => hF q h) hF (fun r' u t H1 locs1 ht hvm hw hB _ _ hS1 => ?_)
  obtain ⟨rfl, rfl⟩ := hw
  obtain ⟨hP1, _, hD1⟩ := hB
  exact kk H1 locs1 (by rw [← ht]; exact hP1) (hD1.weaken (fun _ _ _ h => hF _ h)) hS1
theorem tq_aL {r : Int64} (hr : va_Run p l e R s m args below meth c H locs cells slots 0 0 (F0 m pc ls st0) rest (va_Ql (fun (r' : Int64) (u : tq_S) => r' = r ∧ u = σ') (tq_E dC dI cI cL cZ wf (va_A ws H.size)) (va_A ws H.size) av) (va_A ws H.size))
    (hD : va_D A ws) (hS : va_S A s.heap H locs) (hA : ∀ q, s.heap.size ≤ q → A q)
    (kk : ∀ (H : Heap) (locs : List Loc), va_P (dC, dI) tq_cl (wf σ') H → va_D A (wf σ') → va_S A s.heap H locs → W p l e R s m args below meth c H locs cells slots Q (F0 m (pc + 3) ls (.long r :: rest))) : W p l e R s m args below meth c H locs cells slots Q (F0 m pc ls st0) := by
  have hF := tq_fr hD hS hA
  refine va_calll hr hS (fun q _ h => hF q h) hF (fun r' u t H1 locs1 ht hvm hw hB _ _ hS1 => ?_)
  obtain ⟨rfl, rfl⟩ := hw
  obtain ⟨hP1, _, hD1⟩ := hB
  exact kk H1 locs1 (by rw [← ht]; exact hP1) (hD1.weaken (fun _ _ _ h => hF _ h)) hS1
theorem tq_aV (hr : va_Run p l e R s m args below meth c H locs cells slots 0 0 (F0 m pc ls st0) rest (va_Qv (fun (u : tq_S) => u = σ') (tq_E dC dI cI cL cZ wf (va_A ws H.size)) (va_A ws H.size) av) (va_A ws H.size))
    (hD : va_D A ws) (hS : va_S A s.heap H locs) (hA : ∀ q, s.heap.size ≤ q → A q)
    (kk : ∀ (H : Heap) (locs : List Loc), va_P (dC, dI) tq_cl (wf σ') H → va_D A (wf σ') → va_S A s.heap H locs → W p l e R s m args below meth c H locs cells slots Q (F0 m (pc + 3) ls rest)) : W p l e R s m args below meth c H locs cells slots Q (F0 m pc ls st0) := by
  have hF := tq_fr hD hS hA
  refine va_callv hr hS (fun q _ h => hF q h) hF (fun u t H1 locs1 ht hvm hw hB _ _ hS1 => ?_)
  obtain rfl := hw
  obtain ⟨hP1, _, hD1⟩ := hB
  exact kk H1 locs1 (by rw [← ht]; exact hP1) (hD1.weaken (fun _ _ _ h => hF _ h)) hS1
end tqCalls
theorem tq_gV {own C : String} {idx : Nat} {y : MethodName} {cw : Cond} (h1 : Cond.methodLink own idx y ∈ tq_T) (h2 : Cond.instanceMethod y ∈ tq_T) (h3 : Cond.selects C y y ∈ tq_T) (h4 : Cond.initialized C ∈ tq_T) (h5 : cw ∈ tq_T) : GoodIn tq_T (wsV own idx C y (cw :: tq_T)) := by
  intro w hw
  have hm : w ∈ tq_T := by
    simp only [wsV, List.cons_append, List.nil_append, List.mem_cons] at hw
    rcases hw with rfl | rfl | rfl | rfl | rfl | h
    · exact h1
    · exact h2
    · exact h3
    · exact h4
    · exact h5
    · exact h
  exact ⟨hm, good_of_word (tq_gw w hm)⟩
theorem tq_gS {own : String} {idx : Nat} {y : MethodName} {cw : Cond} (h1 : Cond.methodLink own idx y ∈ tq_T) (h2 : Cond.static y ∈ tq_T) (h4 : Cond.initialized y.cls ∈ tq_T) (h5 : cw ∈ tq_T) : GoodIn tq_T (va_wsS own idx y (cw :: tq_T)) := by
  intro w hw
  have hm : w ∈ tq_T := by
    simp only [va_wsS, List.cons_append, List.nil_append, List.mem_cons] at hw
    rcases hw with rfl | rfl | rfl | rfl | h
    · exact h1
    · exact h2
    · exact h4
    · exact h5
    · exact h
  exact ⟨hm, good_of_word (tq_gw w hm)⟩
theorem tq_gC {cw : Cond} (h5 : cw ∈ tq_T) : GoodIn tq_T (cw :: tq_T) := by
  intro w hw
  have hm : w ∈ tq_T := by
    rcases List.mem_cons.mp hw with rfl | h
    · exact h5
    · exact h
  exact ⟨hm, good_of_word (tq_gw w hm)⟩
theorem tq_nb {y : Int32} (h : y = 0 ∨ y = 1) : narrow .boolean (.int y) = .int y := by
  rcases h with rfl | rfl <;> rfl
theorem tq_fb {y : Int32} (h : y = 0 ∨ y = 1) : fits .boolean (.int y) = true := by
  rcases h with rfl | rfl <;> rfl
theorem tq_ni {x k : Int32} {a : Int} (h : ¬ x = k) (hk : k.toInt = a) : x.toInt ≠ a := fun e => h (Int32.toInt_inj.mp (by rw [e, hk]))
theorem tq_grI {st : tq_C → Option tq_C} {n : Nat} {r v : Int32} {σ' σ : tq_S} {c' : tq_C} (hg : some (tq_rt, [v], [], σ) = some c') (hn : tq_go st n c' = some (tq_rt, [r], [], σ')) : v = r ∧ σ = σ' := by
  have h := tq_gr hg hn
  simp only [Prod.mk.injEq, List.cons.injEq, and_true, true_and] at h
  exact ⟨h.1.symm, h.2.symm⟩
theorem tq_grL {st : tq_C → Option tq_C} {n : Nat} {r v : Int64} {σ' σ : tq_S} {c' : tq_C} (hg : some (tq_rt, [], [v], σ) = some c') (hn : tq_go st n c' = some (tq_rt, [], [r], σ')) : v = r ∧ σ = σ' := by
  have h := tq_gr hg hn
  simp only [Prod.mk.injEq, List.cons.injEq, and_true, true_and] at h
  exact ⟨h.1.symm, h.2.symm⟩
theorem tq_grV {st : tq_C → Option tq_C} {n : Nat} {σ' σ : tq_S} {c' : tq_C} (hg : some (tq_rt, [], [], σ) = some c') (hn : tq_go st n c' = some (tq_rt, [], [], σ')) : σ = σ' := by
  have h := tq_gr hg hn
  simp only [Prod.mk.injEq, true_and] at h
  exact h.symm
