/-! the tables' words, by their places -/
theorem zin_l (ws : List Cond) (ps : List Nat) (hp : ws = ps.filterMap (fun i => tables_1[i]?)) (h : ws.all goodWord = true) : ∀ w ∈ ws, w ∈ zW := by
  intro w hw
  have h1 := List.all_eq_true.mp h w hw
  rw [hp] at hw
  obtain ⟨i, -, hi⟩ := List.mem_filterMap.mp hw
  exact zin_t i hi h1
def zb0 : List Cond := [Cond.initialized "WordRation", Cond.initialized "WordRation$Text", Cond.initialized "WordRation$Town", Cond.initialized "WordRation$State", Cond.initialized "WordRation$Past", Cond.initialized "WordRation$Plan", Cond.initialized "WordRation$Knots", Cond.initialized "WordRation$Book", Cond.initialized "WordRation$Image", Cond.initialized "WordRationModel", Cond.initialized "java/lang/Math", Cond.initialized "java/lang/System", Cond.initialized "java/lang/Integer", Cond.classLink "WordRationLaw" 7 "WordRation", Cond.instantiable "WordRation" 13, Cond.methodLink "WordRationLaw" 9 (⟨"WordRation", "<init>", "()V"⟩ : MethodName), Cond.instanceMethod (⟨"WordRation", "<init>", "()V"⟩ : MethodName), Cond.methodLink "WordRation" 1 (⟨"java/lang/Object", "<init>", "()V"⟩ : MethodName), Cond.instanceMethod (⟨"java/lang/Object", "<init>", "()V"⟩ : MethodName), Cond.classLink "WordRation" 7 "WordRation$Text", Cond.instantiable "WordRation$Text" 6, Cond.instanceMethod (⟨"WordRation$Text", "<init>", "()V"⟩ : MethodName), Cond.methodLink "WordRation$Text" 3 (⟨"java/lang/Object", "<init>", "()V"⟩ : MethodName), Cond.fieldLink "WordRation$Text" 9 "WordRation$Text" "letters" "[I", Cond.fieldLink "WordRation$Text" 19 "WordRation$Text" "length" "I", Cond.fieldLink "WordRation" 88 "WordRation$Text" "length" "I", Cond.fieldLink "WordRation" 99 "WordRation$Text" "fault" "I", Cond.fieldLink "WordRation$Text" 27 "WordRation$Text" "fault" "I", Cond.fieldLink "WordRation$Text" 15 "WordRation$Text" "place" "I", Cond.fieldLink "WordRation" 119 "WordRation$Text" "place" "I", Cond.fieldLink "WordRation$Text" 30 "WordRation$Text" "at" "I", Cond.fieldLink "WordRation$Text" 94 "WordRation$Text" "numberAt" "I", Cond.arrayClass .int, Cond.classLink "WordRation" 16 "WordRation$Town", Cond.instantiable "WordRation$Town" 15, Cond.instanceMethod (⟨"WordRation$Town", "<init>", "()V"⟩ : MethodName), Cond.methodLink "WordRation$Town" 3 (⟨"java/lang/Object", "<init>", "()V"⟩ : MethodName), Cond.fieldLink "WordRation$Town" 36 "WordRation$Town" "days" "I", Cond.fieldLink "WordRation" 122 "WordRation$Town" "days" "I", Cond.fieldLink "WordRation$Text" 56 "WordRation$Town" "days" "I"]
set_option maxRecDepth 100000 in
theorem zb0_in : ∀ w ∈ zb0, w ∈ zW := zin_l _ [1, 2, 3, 4, 5, 6, 7, 8, 9, 10, 11, 12, 13, 14, 15, 16, 17, 19, 20, 22, 23, 25, 27, 28, 29, 30, 31, 32, 33, 34, 35, 36, 50, 51, 52, 54, 56, 57, 58, 59] (by decide +kernel) (by decide +kernel)
theorem zu0 {w : Cond} (i : Nat) (h : zb0[i]? = some w) : w ∈ zW := zb0_in _ (List.mem_of_getElem? h)
def zb1 : List Cond := [Cond.fieldLink "WordRation$Town" 40 "WordRation$Town" "words" "I", Cond.fieldLink "WordRation$State" 40 "WordRation$Town" "words" "I", Cond.fieldLink "WordRation" 116 "WordRation$Town" "words" "I", Cond.fieldLink "WordRation$Text" 75 "WordRation$Town" "words" "I", Cond.fieldLink "WordRation$Town" 43 "WordRation$Town" "ways" "I", Cond.fieldLink "WordRation" 125 "WordRation$Town" "ways" "I", Cond.fieldLink "WordRation$Text" 78 "WordRation$Town" "ways" "I", Cond.fieldLink "WordRation$Town" 46 "WordRation$Town" "persons" "I", Cond.fieldLink "WordRation$Knots" 26 "WordRation$Town" "persons" "I", Cond.fieldLink "WordRation" 128 "WordRation$Town" "persons" "I", Cond.fieldLink "WordRation$Text" 81 "WordRation$Town" "persons" "I", Cond.fieldLink "WordRation$Town" 49 "WordRation$Town" "needs" "I", Cond.fieldLink "WordRation$Plan" 62 "WordRation$Town" "needs" "I", Cond.fieldLink "WordRation" 131 "WordRation$Town" "needs" "I", Cond.fieldLink "WordRation$Text" 84 "WordRation$Town" "needs" "I", Cond.fieldLink "WordRation$State" 84 "WordRation$Town" "needs" "I", Cond.fieldLink "WordRation$Town" 52 "WordRation$Town" "pointable" "I", Cond.fieldLink "WordRation$Text" 104 "WordRation$Town" "pointable" "I", Cond.fieldLink "WordRation$Town" 55 "WordRation$Town" "honest" "I", Cond.fieldLink "WordRation$Town" 9 "WordRation$Town" "limit" "[I", Cond.fieldLink "WordRation$State" 45 "WordRation$Town" "limit" "[I", Cond.fieldLink "WordRation$Town" 15 "WordRation$Town" "cost" "[I", Cond.fieldLink "WordRation" 167 "WordRation$Town" "cost" "[I", Cond.fieldLink "WordRation$Town" 18 "WordRation$Town" "rhyme" "[I", Cond.fieldLink "WordRation" 170 "WordRation$Town" "rhyme" "[I", Cond.fieldLink "WordRation$Town" 21 "WordRation$Town" "round" "[I", Cond.fieldLink "WordRation$Town" 24 "WordRation$Town" "needPerson" "[I", Cond.fieldLink "WordRation" 199 "WordRation$Town" "needPerson" "[I", Cond.fieldLink "WordRation$State" 94 "WordRation$Town" "needPerson" "[I", Cond.fieldLink "WordRation$Town" 27 "WordRation$Town" "needWord" "[I", Cond.fieldLink "WordRation$Plan" 80 "WordRation$Town" "needWord" "[I", Cond.fieldLink "WordRation" 202 "WordRation$Town" "needWord" "[I", Cond.fieldLink "WordRation$State" 97 "WordRation$Town" "needWord" "[I", Cond.fieldLink "WordRation$Town" 30 "WordRation$Town" "needDay" "[I", Cond.fieldLink "WordRation" 205 "WordRation$Town" "needDay" "[I", Cond.fieldLink "WordRation$State" 87 "WordRation$Town" "needDay" "[I", Cond.fieldLink "WordRation$Town" 33 "WordRation$Town" "needWorth" "[I", Cond.fieldLink "WordRation$Plan" 77 "WordRation$Town" "needWorth" "[I", Cond.fieldLink "WordRation" 208 "WordRation$Town" "needWorth" "[I", Cond.fieldLink "WordRation$State" 104 "WordRation$Town" "needWorth" "[I"]
set_option maxRecDepth 100000 in
theorem zb1_in : ∀ w ∈ zb1, w ∈ zW := zin_l _ [60, 61, 62, 63, 64, 65, 66, 67, 68, 69, 70, 71, 72, 73, 74, 75, 76, 77, 78, 79, 80, 81, 82, 83, 84, 85, 86, 87, 88, 89, 90, 91, 92, 93, 94, 95, 96, 97, 98, 99] (by decide +kernel) (by decide +kernel)
theorem zu1 {w : Cond} (i : Nat) (h : zb1[i]? = some w) : w ∈ zW := zb1_in _ (List.mem_of_getElem? h)
def zb2 : List Cond := [Cond.classLink "WordRation" 26 "WordRation$State", Cond.instantiable "WordRation$State" 9, Cond.instanceMethod (⟨"WordRation$State", "<init>", "()V"⟩ : MethodName), Cond.methodLink "WordRation$State" 3 (⟨"java/lang/Object", "<init>", "()V"⟩ : MethodName), Cond.fieldLink "WordRation$State" 9 "WordRation$State" "limit" "[I", Cond.fieldLink "WordRation" 164 "WordRation$State" "limit" "[I", Cond.fieldLink "WordRation$State" 15 "WordRation$State" "left" "[I", Cond.fieldLink "WordRation$Book" 22 "WordRation$State" "left" "[I", Cond.fieldLink "WordRation" 173 "WordRation$State" "left" "[I", Cond.fieldLink "WordRation$State" 18 "WordRation$State" "said" "[I", Cond.fieldLink "WordRation" 180 "WordRation$State" "said" "[I", Cond.fieldLink "WordRation$State" 21 "WordRation$State" "hoards" "[I", Cond.fieldLink "WordRation$State" 24 "WordRation$State" "days" "I", Cond.fieldLink "WordRation$Plan" 67 "WordRation$State" "days" "I", Cond.fieldLink "WordRation" 134 "WordRation$State" "days" "I", Cond.fieldLink "WordRation$State" 28 "WordRation$State" "met" "I", Cond.fieldLink "WordRation" 139 "WordRation$State" "met" "I", Cond.fieldLink "WordRation$State" 31 "WordRation$State" "lost" "I", Cond.fieldLink "WordRation" 142 "WordRation$State" "lost" "I", Cond.fieldLink "WordRation$State" 34 "WordRation$State" "lostWorth" "I", Cond.fieldLink "WordRation" 145 "WordRation$State" "lostWorth" "I", Cond.fieldLink "WordRation$State" 37 "WordRation$State" "pointed" "I", Cond.fieldLink "WordRation" 148 "WordRation$State" "pointed" "I", Cond.classLink "WordRation" 36 "WordRation$Past", Cond.instantiable "WordRation$Past" 3, Cond.methodLink "WordRation" 38 (⟨"WordRation$Past", "<init>", "()V"⟩ : MethodName), Cond.instanceMethod (⟨"WordRation$Past", "<init>", "()V"⟩ : MethodName), Cond.methodLink "WordRation$Past" 3 (⟨"java/lang/Object", "<init>", "()V"⟩ : MethodName), Cond.classLink "WordRation$Past" 9 "WordRation$State", Cond.fieldLink "WordRation$Past" 11 "WordRation$Past" "ring" "[LWordRation$State;", Cond.fieldLink "WordRation$Past" 22 "WordRation$Past" "next" "I", Cond.fieldLink "WordRation$Past" 18 "WordRation$Past" "count" "I", Cond.fieldLink "WordRation" 158 "WordRation$Past" "count" "I", Cond.classLink "WordRation" 43 "WordRation$Image", Cond.classLink "WordRation" 49 "WordRation$Plan", Cond.instantiable "WordRation$Plan" 10, Cond.instanceMethod (⟨"WordRation$Plan", "<init>", "()V"⟩ : MethodName), Cond.methodLink "WordRation$Plan" 3 (⟨"java/lang/Object", "<init>", "()V"⟩ : MethodName), Cond.fieldLink "WordRation$Plan" 9 "WordRation$Plan" "supply" "[I", Cond.fieldLink "WordRation$Plan" 15 "WordRation$Plan" "place" "[I"]
set_option maxRecDepth 100000 in
theorem zb2_in : ∀ w ∈ zb2, w ∈ zW := zin_l _ [131, 132, 134, 136, 137, 138, 139, 140, 141, 142, 143, 144, 145, 146, 147, 148, 149, 150, 151, 152, 153, 154, 155, 175, 176, 177, 178, 180, 181, 184, 185, 186, 187, 195, 197, 198, 200, 202, 203, 204] (by decide +kernel) (by decide +kernel)
theorem zu2 {w : Cond} (i : Nat) (h : zb2[i]? = some w) : w ∈ zW := zb2_in _ (List.mem_of_getElem? h)
def zb3 : List Cond := [Cond.fieldLink "WordRation$Plan" 18 "WordRation$Plan" "worths" "[I", Cond.fieldLink "WordRation$Plan" 21 "WordRation$Plan" "uses" "[I", Cond.fieldLink "WordRation$Plan" 24 "WordRation$Plan" "worthBehind" "[I", Cond.fieldLink "WordRation$Plan" 27 "WordRation$Plan" "tried" "[I", Cond.fieldLink "WordRation$Plan" 30 "WordRation$Plan" "best" "[I", Cond.fieldLink "WordRation$Plan" 59 "WordRation$Plan" "count" "I", Cond.fieldLink "WordRation$Plan" 37 "WordRation$Plan" "bestWorth" "I", Cond.fieldLink "WordRation" 274 "WordRation$Plan" "bestWorth" "I", Cond.fieldLink "WordRation$Plan" 41 "WordRation$Plan" "bestWords" "I", Cond.fieldLink "WordRation" 271 "WordRation$Plan" "bestWords" "I", Cond.classLink "WordRation" 56 "WordRation$Knots", Cond.instantiable "WordRation$Knots" 4, Cond.instanceMethod (⟨"WordRation$Knots", "<init>", "()V"⟩ : MethodName), Cond.methodLink "WordRation$Knots" 3 (⟨"java/lang/Object", "<init>", "()V"⟩ : MethodName), Cond.fieldLink "WordRation$Knots" 9 "WordRation$Knots" "words" "[I", Cond.fieldLink "WordRation$Knots" 15 "WordRation$Knots" "days" "[I", Cond.fieldLink "WordRation$Knots" 18 "WordRation$Knots" "said" "[Z", Cond.fieldLink "WordRation$Knots" 22 "WordRation$Knots" "count" "I", Cond.fieldLink "WordRation" 154 "WordRation$Knots" "count" "I", Cond.arrayClass .boolean, Cond.classLink "WordRation" 63 "WordRation$Book", Cond.instantiable "WordRation$Book" 3, Cond.instanceMethod (⟨"WordRation$Book", "<init>", "()V"⟩ : MethodName), Cond.methodLink "WordRation$Book" 3 (⟨"java/lang/Object", "<init>", "()V"⟩ : MethodName), Cond.fieldLink "WordRation$Book" 9 "WordRation$Book" "words" "[I", Cond.fieldLink "WordRation$Book" 15 "WordRation$Book" "lefts" "[I", Cond.fieldLink "WordRation$Book" 18 "WordRation$Book" "count" "I", Cond.fieldLink "WordRation" 157 "WordRation$Book" "count" "I", Cond.instantiable "WordRation$Image" 3, Cond.instanceMethod (⟨"WordRation$Image", "<init>", "()V"⟩ : MethodName), Cond.methodLink "WordRation$Image" 1 (⟨"java/lang/Object", "<init>", "()V"⟩ : MethodName), Cond.classLink "WordRation$Image" 7 "WordRation$State", Cond.fieldLink "WordRation$Image" 10 "WordRation$Image" "state" "LWordRation$State;", Cond.fieldLink "WordRation" 335 "WordRation$Image" "state" "LWordRation$State;", Cond.fieldLink "WordRation" 338 "WordRation$Image" "seed" "I", Cond.fieldLink "WordRation" 112 "WordRation$Image" "kept" "Z", Cond.fieldLink "WordRation" 10 "WordRation" "text" "LWordRation$Text;", Cond.fieldLink "WordRation" 19 "WordRation" "town" "LWordRation$Town;", Cond.fieldLink "WordRation" 23 "WordRation" "draft" "LWordRation$Town;", Cond.fieldLink "WordRation" 29 "WordRation" "now" "LWordRation$State;"]
set_option maxRecDepth 100000 in
theorem zb3_in : ∀ w ∈ zb3, w ∈ zW := zin_l _ [205, 206, 207, 208, 209, 210, 211, 212, 213, 214, 236, 237, 239, 241, 242, 243, 244, 245, 246, 256, 257, 258, 260, 262, 263, 264, 265, 266, 274, 276, 278, 279, 281, 282, 283, 284, 292, 293, 294, 295] (by decide +kernel) (by decide +kernel)
theorem zu3 {w : Cond} (i : Nat) (h : zb3[i]? = some w) : w ∈ zW := zb3_in _ (List.mem_of_getElem? h)
def zb4 : List Cond := [Cond.fieldLink "WordRation" 33 "WordRation" "trial" "LWordRation$State;", Cond.fieldLink "WordRation" 39 "WordRation" "past" "LWordRation$Past;", Cond.fieldLink "WordRation" 45 "WordRation" "images" "[LWordRation$Image;", Cond.fieldLink "WordRation" 52 "WordRation" "plan" "LWordRation$Plan;", Cond.fieldLink "WordRation" 59 "WordRation" "knots" "LWordRation$Knots;", Cond.fieldLink "WordRation" 66 "WordRation" "book" "LWordRation$Book;", Cond.fieldLink "WordRation" 70 "WordRation" "cheap" "[I", Cond.fieldLink "WordRation" 74 "WordRation" "byWords" "[I", Cond.fieldLink "WordRation" 332 "WordRation" "seed" "I", Cond.methodLink "WordRationLaw" 13 (⟨"WordRation", "feed", "(I)I"⟩ : MethodName), Cond.instanceMethod (⟨"WordRation", "feed", "(I)I"⟩ : MethodName), Cond.selects "WordRation" (⟨"WordRation", "feed", "(I)I"⟩ : MethodName) (⟨"WordRation", "feed", "(I)I"⟩ : MethodName), Cond.constant "WordRation" 78 (-1000000002), Cond.methodLink "WordRation" 79 (⟨"WordRation$Text", "isFull", "()Z"⟩ : MethodName), Cond.instanceMethod (⟨"WordRation$Text", "isFull", "()Z"⟩ : MethodName), Cond.selects "WordRation$Text" (⟨"WordRation$Text", "isFull", "()Z"⟩ : MethodName) (⟨"WordRation$Text", "isFull", "()Z"⟩ : MethodName), Cond.constant "WordRation" 83 (-1000000004), Cond.methodLink "WordRation" 84 (⟨"WordRation$Text", "add", "(I)V"⟩ : MethodName), Cond.instanceMethod (⟨"WordRation$Text", "add", "(I)V"⟩ : MethodName), Cond.selects "WordRation$Text" (⟨"WordRation$Text", "add", "(I)V"⟩ : MethodName) (⟨"WordRation$Text", "add", "(I)V"⟩ : MethodName), Cond.methodLink "WordRationLaw" 18 (⟨"WordRation", "town", "()I"⟩ : MethodName), Cond.instanceMethod (⟨"WordRation", "town", "()I"⟩ : MethodName), Cond.selects "WordRation" (⟨"WordRation", "town", "()I"⟩ : MethodName) (⟨"WordRation", "town", "()I"⟩ : MethodName), Cond.methodLink "WordRation" 92 (⟨"WordRation$Text", "readInto", "(LWordRation$Town;)V"⟩ : MethodName), Cond.instanceMethod (⟨"WordRation$Text", "readInto", "(LWordRation$Town;)V"⟩ : MethodName), Cond.selects "WordRation$Text" (⟨"WordRation$Text", "readInto", "(LWordRation$Town;)V"⟩ : MethodName) (⟨"WordRation$Text", "readInto", "(LWordRation$Town;)V"⟩ : MethodName), Cond.methodLink "WordRation$Text" 22 (⟨"WordRation$Town", "clear", "()V"⟩ : MethodName), Cond.instanceMethod (⟨"WordRation$Town", "clear", "()V"⟩ : MethodName), Cond.selects "WordRation$Town" (⟨"WordRation$Town", "clear", "()V"⟩ : MethodName) (⟨"WordRation$Town", "clear", "()V"⟩ : MethodName), Cond.methodLink "WordRation$Text" 33 (⟨"WordRation$Text", "skipBlanks", "()V"⟩ : MethodName), Cond.instanceMethod (⟨"WordRation$Text", "skipBlanks", "()V"⟩ : MethodName), Cond.methodLink "WordRation$Text" 36 (⟨"WordRation$Text", "readClause", "(LWordRation$Town;)V"⟩ : MethodName), Cond.instanceMethod (⟨"WordRation$Text", "readClause", "(LWordRation$Town;)V"⟩ : MethodName), Cond.methodLink "WordRation$Text" 40 (⟨"WordRation$Text", "letterHere", "()I"⟩ : MethodName), Cond.instanceMethod (⟨"WordRation$Text", "letterHere", "()I"⟩ : MethodName), Cond.methodLink "WordRation$Text" 44 (⟨"WordRation$Text", "faultOfName", "(LWordRation$Town;I)I"⟩ : MethodName), Cond.instanceMethod (⟨"WordRation$Text", "faultOfName", "(LWordRation$Town;I)I"⟩ : MethodName), Cond.methodLink "WordRation$Text" 48 (⟨"WordRation$Text", "blame", "(II)V"⟩ : MethodName), Cond.instanceMethod (⟨"WordRation$Text", "blame", "(II)V"⟩ : MethodName), Cond.methodLink "WordRation$Text" 52 (⟨"WordRation$Text", "readNumber", "(II)I"⟩ : MethodName)]
set_option maxRecDepth 100000 in
theorem zb4_in : ∀ w ∈ zb4, w ∈ zW := zin_l _ [296, 297, 298, 299, 300, 301, 302, 303, 304, 332, 333, 334, 336, 337, 338, 339, 341, 342, 343, 344, 346, 347, 348, 350, 351, 352, 354, 355, 356, 358, 360, 362, 364, 366, 368, 370, 372, 374, 376, 378] (by decide +kernel) (by decide +kernel)
theorem zu4 {w : Cond} (i : Nat) (h : zb4[i]? = some w) : w ∈ zW := zb4_in _ (List.mem_of_getElem? h)
def zb5 : List Cond := [Cond.instanceMethod (⟨"WordRation$Text", "readNumber", "(II)I"⟩ : MethodName), Cond.methodLink "WordRation$Text" 111 (⟨"java/lang/Math", "min", "(II)I"⟩ : MethodName), Cond.static (⟨"java/lang/Math", "min", "(II)I"⟩ : MethodName), Cond.methodLink "WordRation$Text" 59 (⟨"WordRation$Text", "readWord", "(LWordRation$Town;)V"⟩ : MethodName), Cond.instanceMethod (⟨"WordRation$Text", "readWord", "(LWordRation$Town;)V"⟩ : MethodName), Cond.methodLink "WordRation$Text" 87 (⟨"WordRation$Town", "addWord", "(III)V"⟩ : MethodName), Cond.instanceMethod (⟨"WordRation$Town", "addWord", "(III)V"⟩ : MethodName), Cond.selects "WordRation$Town" (⟨"WordRation$Town", "addWord", "(III)V"⟩ : MethodName) (⟨"WordRation$Town", "addWord", "(III)V"⟩ : MethodName), Cond.methodLink "WordRation$Text" 62 (⟨"WordRation$Text", "readWay", "(LWordRation$Town;)V"⟩ : MethodName), Cond.instanceMethod (⟨"WordRation$Text", "readWay", "(LWordRation$Town;)V"⟩ : MethodName), Cond.methodLink "WordRation$Text" 91 (⟨"WordRation$Town", "wayRound", "(II)I"⟩ : MethodName), Cond.instanceMethod (⟨"WordRation$Town", "wayRound", "(II)I"⟩ : MethodName), Cond.selects "WordRation$Town" (⟨"WordRation$Town", "wayRound", "(II)I"⟩ : MethodName) (⟨"WordRation$Town", "wayRound", "(II)I"⟩ : MethodName), Cond.methodLink "WordRation$Text" 97 (⟨"WordRation$Town", "addWay", "(II)V"⟩ : MethodName), Cond.instanceMethod (⟨"WordRation$Town", "addWay", "(II)V"⟩ : MethodName), Cond.selects "WordRation$Town" (⟨"WordRation$Town", "addWay", "(II)V"⟩ : MethodName) (⟨"WordRation$Town", "addWay", "(II)V"⟩ : MethodName), Cond.methodLink "WordRation$Text" 65 (⟨"WordRation$Text", "readPointing", "(LWordRation$Town;)V"⟩ : MethodName), Cond.instanceMethod (⟨"WordRation$Text", "readPointing", "(LWordRation$Town;)V"⟩ : MethodName), Cond.methodLink "WordRation$Text" 100 (⟨"WordRation$Town", "canPoint", "(I)Z"⟩ : MethodName), Cond.instanceMethod (⟨"WordRation$Town", "canPoint", "(I)Z"⟩ : MethodName), Cond.selects "WordRation$Town" (⟨"WordRation$Town", "canPoint", "(I)Z"⟩ : MethodName) (⟨"WordRation$Town", "canPoint", "(I)Z"⟩ : MethodName), Cond.methodLink "WordRation$Text" 68 (⟨"WordRation$Town", "addPerson", "(Z)V"⟩ : MethodName), Cond.instanceMethod (⟨"WordRation$Town", "addPerson", "(Z)V"⟩ : MethodName), Cond.selects "WordRation$Town" (⟨"WordRation$Town", "addPerson", "(Z)V"⟩ : MethodName) (⟨"WordRation$Town", "addPerson", "(Z)V"⟩ : MethodName), Cond.methodLink "WordRation$Text" 72 (⟨"WordRation$Text", "readNeed", "(LWordRation$Town;)V"⟩ : MethodName), Cond.instanceMethod (⟨"WordRation$Text", "readNeed", "(LWordRation$Town;)V"⟩ : MethodName), Cond.methodLink "WordRation$Text" 107 (⟨"WordRation$Town", "addNeed", "(IIII)V"⟩ : MethodName), Cond.instanceMethod (⟨"WordRation$Town", "addNeed", "(IIII)V"⟩ : MethodName), Cond.selects "WordRation$Town" (⟨"WordRation$Town", "addNeed", "(IIII)V"⟩ : MethodName) (⟨"WordRation$Town", "addNeed", "(IIII)V"⟩ : MethodName), Cond.methodLink "WordRation" 96 (⟨"WordRation$Text", "empty", "()V"⟩ : MethodName), Cond.instanceMethod (⟨"WordRation$Text", "empty", "()V"⟩ : MethodName), Cond.selects "WordRation$Text" (⟨"WordRation$Text", "empty", "()V"⟩ : MethodName) (⟨"WordRation$Text", "empty", "()V"⟩ : MethodName), Cond.methodLink "WordRation" 102 (⟨"WordRation$State", "begin", "(LWordRation$Town;)V"⟩ : MethodName), Cond.instanceMethod (⟨"WordRation$State", "begin", "(LWordRation$Town;)V"⟩ : MethodName), Cond.selects "WordRation$State" (⟨"WordRation$State", "begin", "(LWordRation$Town;)V"⟩ : MethodName) (⟨"WordRation$State", "begin", "(LWordRation$Town;)V"⟩ : MethodName), Cond.methodLink "WordRation$State" 46 (⟨"WordRation$State", "beginYear", "()V"⟩ : MethodName), Cond.instanceMethod (⟨"WordRation$State", "beginYear", "()V"⟩ : MethodName), Cond.methodLink "WordRation" 105 (⟨"WordRation$Past", "forget", "()V"⟩ : MethodName), Cond.instanceMethod (⟨"WordRation$Past", "forget", "()V"⟩ : MethodName), Cond.selects "WordRation$Past" (⟨"WordRation$Past", "forget", "()V"⟩ : MethodName) (⟨"WordRation$Past", "forget", "()V"⟩ : MethodName)]
set_option maxRecDepth 100000 in
theorem zb5_in : ∀ w ∈ zb5, w ∈ zW := zin_l _ [380, 382, 383, 385, 387, 389, 390, 391, 393, 395, 397, 398, 399, 401, 402, 403, 405, 407, 409, 410, 411, 413, 414, 415, 417, 419, 421, 422, 423, 425, 426, 427, 429, 430, 431, 433, 435, 437, 438, 439] (by decide +kernel) (by decide +kernel)
theorem zu5 {w : Cond} (i : Nat) (h : zb5[i]? = some w) : w ∈ zW := zb5_in _ (List.mem_of_getElem? h)
def zb6 : List Cond := [Cond.methodLink "WordRation" 108 (⟨"WordRation$Knots", "clear", "()V"⟩ : MethodName), Cond.instanceMethod (⟨"WordRation$Knots", "clear", "()V"⟩ : MethodName), Cond.selects "WordRation$Knots" (⟨"WordRation$Knots", "clear", "()V"⟩ : MethodName) (⟨"WordRation$Knots", "clear", "()V"⟩ : MethodName), Cond.methodLink "WordRation" 111 (⟨"WordRation$Book", "clear", "()V"⟩ : MethodName), Cond.instanceMethod (⟨"WordRation$Book", "clear", "()V"⟩ : MethodName), Cond.selects "WordRation$Book" (⟨"WordRation$Book", "clear", "()V"⟩ : MethodName) (⟨"WordRation$Book", "clear", "()V"⟩ : MethodName), Cond.methodLink "WordRationLaw" 23 (⟨"WordRation", "fault", "()I"⟩ : MethodName), Cond.instanceMethod (⟨"WordRation", "fault", "()I"⟩ : MethodName), Cond.selects "WordRation" (⟨"WordRation", "fault", "()I"⟩ : MethodName) (⟨"WordRation", "fault", "()I"⟩ : MethodName), Cond.methodLink "WordRationLaw" 27 (⟨"WordRation", "told", "(I)I"⟩ : MethodName), Cond.instanceMethod (⟨"WordRation", "told", "(I)I"⟩ : MethodName), Cond.selects "WordRation" (⟨"WordRation", "told", "(I)I"⟩ : MethodName) (⟨"WordRation", "told", "(I)I"⟩ : MethodName), Cond.methodLink "WordRation" 135 (⟨"WordRation", "today", "()I"⟩ : MethodName), Cond.instanceMethod (⟨"WordRation", "today", "()I"⟩ : MethodName), Cond.methodLink "WordRation" 339 (⟨"WordRation$Town", "dayOfYear", "(I)I"⟩ : MethodName), Cond.instanceMethod (⟨"WordRation$Town", "dayOfYear", "(I)I"⟩ : MethodName), Cond.selects "WordRation$Town" (⟨"WordRation$Town", "dayOfYear", "(I)I"⟩ : MethodName) (⟨"WordRation$Town", "dayOfYear", "(I)I"⟩ : MethodName), Cond.methodLink "WordRation" 151 (⟨"WordRation", "neverSaid", "()I"⟩ : MethodName), Cond.instanceMethod (⟨"WordRation", "neverSaid", "()I"⟩ : MethodName), Cond.methodLink "WordRationLaw" 31 (⟨"WordRation", "word", "(II)I"⟩ : MethodName), Cond.instanceMethod (⟨"WordRation", "word", "(II)I"⟩ : MethodName), Cond.selects "WordRation" (⟨"WordRation", "word", "(II)I"⟩ : MethodName) (⟨"WordRation", "word", "(II)I"⟩ : MethodName), Cond.methodLink "WordRation" 159 (⟨"WordRation", "isWord", "(I)Z"⟩ : MethodName), Cond.instanceMethod (⟨"WordRation", "isWord", "(I)Z"⟩ : MethodName), Cond.constant "WordRation" 163 (-1000000001), Cond.methodLink "WordRation" 176 (⟨"WordRation$State", "hoardedByAll", "(I)I"⟩ : MethodName), Cond.instanceMethod (⟨"WordRation$State", "hoardedByAll", "(I)I"⟩ : MethodName), Cond.selects "WordRation$State" (⟨"WordRation$State", "hoardedByAll", "(I)I"⟩ : MethodName) (⟨"WordRation$State", "hoardedByAll", "(I)I"⟩ : MethodName), Cond.methodLink "WordRation$State" 55 (⟨"WordRation$State", "hoardedBy", "(II)I"⟩ : MethodName), Cond.instanceMethod (⟨"WordRation$State", "hoardedBy", "(II)I"⟩ : MethodName), Cond.selects "WordRation$State" (⟨"WordRation$State", "hoardedBy", "(II)I"⟩ : MethodName) (⟨"WordRation$State", "hoardedBy", "(II)I"⟩ : MethodName), Cond.methodLink "WordRation" 183 (⟨"WordRation$Town", "wayRound", "(II)I"⟩ : MethodName), Cond.methodLink "WordRation" 187 (⟨"WordRation$Town", "canPoint", "(I)Z"⟩ : MethodName), Cond.methodLink "WordRationLaw" 36 (⟨"WordRation", "hoarded", "(II)I"⟩ : MethodName), Cond.instanceMethod (⟨"WordRation", "hoarded", "(II)I"⟩ : MethodName), Cond.selects "WordRation" (⟨"WordRation", "hoarded", "(II)I"⟩ : MethodName) (⟨"WordRation", "hoarded", "(II)I"⟩ : MethodName), Cond.methodLink "WordRation" 190 (⟨"WordRation", "isPerson", "(I)Z"⟩ : MethodName), Cond.instanceMethod (⟨"WordRation", "isPerson", "(I)Z"⟩ : MethodName), Cond.methodLink "WordRation" 193 (⟨"WordRation$State", "hoardedBy", "(II)I"⟩ : MethodName), Cond.methodLink "WordRationLaw" 40 (⟨"WordRation", "need", "(II)I"⟩ : MethodName)]
set_option maxRecDepth 100000 in
theorem zb6_in : ∀ w ∈ zb6, w ∈ zW := zin_l _ [441, 442, 443, 445, 446, 447, 449, 450, 451, 453, 454, 455, 457, 459, 461, 462, 463, 465, 467, 469, 470, 471, 473, 475, 477, 478, 479, 480, 482, 483, 484, 486, 487, 488, 489, 490, 492, 494, 496, 497] (by decide +kernel) (by decide +kernel)
theorem zu6 {w : Cond} (i : Nat) (h : zb6[i]? = some w) : w ∈ zW := zb6_in _ (List.mem_of_getElem? h)
def zb7 : List Cond := [Cond.instanceMethod (⟨"WordRation", "need", "(II)I"⟩ : MethodName), Cond.selects "WordRation" (⟨"WordRation", "need", "(II)I"⟩ : MethodName) (⟨"WordRation", "need", "(II)I"⟩ : MethodName), Cond.methodLink "WordRation" 196 (⟨"WordRation", "isNeed", "(I)Z"⟩ : MethodName), Cond.instanceMethod (⟨"WordRation", "isNeed", "(I)Z"⟩ : MethodName), Cond.methodLink "WordRation" 211 (⟨"WordRation$Town", "isToCome", "(II)Z"⟩ : MethodName), Cond.instanceMethod (⟨"WordRation$Town", "isToCome", "(II)Z"⟩ : MethodName), Cond.selects "WordRation$Town" (⟨"WordRation$Town", "isToCome", "(II)Z"⟩ : MethodName) (⟨"WordRation$Town", "isToCome", "(II)Z"⟩ : MethodName), Cond.methodLink "WordRationLaw" 44 (⟨"WordRation", "day", "(I)I"⟩ : MethodName), Cond.instanceMethod (⟨"WordRation", "day", "(I)I"⟩ : MethodName), Cond.selects "WordRation" (⟨"WordRation", "day", "(I)I"⟩ : MethodName) (⟨"WordRation", "day", "(I)I"⟩ : MethodName), Cond.methodLink "WordRation" 215 (⟨"WordRation", "refusalOfDays", "(I)I"⟩ : MethodName), Cond.instanceMethod (⟨"WordRation", "refusalOfDays", "(I)I"⟩ : MethodName), Cond.constant "WordRation" 228 (-1000000003), Cond.methodLink "WordRation" 218 (⟨"WordRation$Past", "remember", "(LWordRation$State;)V"⟩ : MethodName), Cond.instanceMethod (⟨"WordRation$Past", "remember", "(LWordRation$State;)V"⟩ : MethodName), Cond.selects "WordRation$Past" (⟨"WordRation$Past", "remember", "(LWordRation$State;)V"⟩ : MethodName) (⟨"WordRation$Past", "remember", "(LWordRation$State;)V"⟩ : MethodName), Cond.methodLink "WordRation$Past" 25 (⟨"WordRation$State", "copy", "(LWordRation$State;)V"⟩ : MethodName), Cond.instanceMethod (⟨"WordRation$State", "copy", "(LWordRation$State;)V"⟩ : MethodName), Cond.selects "WordRation$State" (⟨"WordRation$State", "copy", "(LWordRation$State;)V"⟩ : MethodName) (⟨"WordRation$State", "copy", "(LWordRation$State;)V"⟩ : MethodName), Cond.methodLink "WordRation$State" 49 (⟨"java/lang/System", "arraycopy", "(Ljava/lang/Object;ILjava/lang/Object;II)V"⟩ : MethodName), Cond.static (⟨"java/lang/System", "arraycopy", "(Ljava/lang/Object;ILjava/lang/Object;II)V"⟩ : MethodName), Cond.native (⟨"java/lang/System", "arraycopy", "(Ljava/lang/Object;ILjava/lang/Object;II)V"⟩ : MethodName), Cond.methodLink "WordRation$Past" 29 (⟨"java/lang/Math", "min", "(II)I"⟩ : MethodName), Cond.methodLink "WordRation" 222 (⟨"WordRation$State", "passDay", "(LWordRation$Town;)V"⟩ : MethodName), Cond.instanceMethod (⟨"WordRation$State", "passDay", "(LWordRation$Town;)V"⟩ : MethodName), Cond.selects "WordRation$State" (⟨"WordRation$State", "passDay", "(LWordRation$Town;)V"⟩ : MethodName) (⟨"WordRation$State", "passDay", "(LWordRation$Town;)V"⟩ : MethodName), Cond.methodLink "WordRation$State" 81 (⟨"WordRation$Town", "dayOfYear", "(I)I"⟩ : MethodName), Cond.methodLink "WordRation$State" 90 (⟨"WordRation$State", "meetOrLose", "(LWordRation$Town;I)V"⟩ : MethodName), Cond.instanceMethod (⟨"WordRation$State", "meetOrLose", "(LWordRation$Town;I)V"⟩ : MethodName), Cond.methodLink "WordRation$State" 100 (⟨"WordRation$State", "meets", "(LWordRation$Town;II)Z"⟩ : MethodName), Cond.instanceMethod (⟨"WordRation$State", "meets", "(LWordRation$Town;II)Z"⟩ : MethodName), Cond.methodLink "WordRation$State" 73 (⟨"WordRation$State", "canSay", "(II)Z"⟩ : MethodName), Cond.instanceMethod (⟨"WordRation$State", "canSay", "(II)Z"⟩ : MethodName), Cond.selects "WordRation$State" (⟨"WordRation$State", "canSay", "(II)Z"⟩ : MethodName) (⟨"WordRation$State", "canSay", "(II)Z"⟩ : MethodName), Cond.methodLink "WordRation$State" 63 (⟨"WordRation$State", "sayable", "(II)I"⟩ : MethodName), Cond.instanceMethod (⟨"WordRation$State", "sayable", "(II)I"⟩ : MethodName), Cond.selects "WordRation$State" (⟨"WordRation$State", "sayable", "(II)I"⟩ : MethodName) (⟨"WordRation$State", "sayable", "(II)I"⟩ : MethodName), Cond.methodLink "WordRation$State" 77 (⟨"WordRation$State", "speak", "(II)V"⟩ : MethodName), Cond.instanceMethod (⟨"WordRation$State", "speak", "(II)V"⟩ : MethodName), Cond.selects "WordRation$State" (⟨"WordRation$State", "speak", "(II)V"⟩ : MethodName) (⟨"WordRation$State", "speak", "(II)V"⟩ : MethodName)]
set_option maxRecDepth 100000 in
theorem zb7_in : ∀ w ∈ zb7, w ∈ zW := zin_l _ [498, 499, 501, 503, 505, 506, 507, 509, 510, 511, 513, 515, 517, 518, 519, 520, 522, 523, 524, 526, 527, 528, 529, 530, 531, 532, 534, 535, 537, 539, 541, 543, 544, 545, 547, 548, 549, 551, 552, 553] (by decide +kernel) (by decide +kernel)
theorem zu7 {w : Cond} (i : Nat) (h : zb7[i]? = some w) : w ∈ zW := zb7_in _ (List.mem_of_getElem? h)
def zb8 : List Cond := [Cond.methodLink "WordRation$State" 66 (⟨"WordRation$State", "addHoarded", "(III)V"⟩ : MethodName), Cond.instanceMethod (⟨"WordRation$State", "addHoarded", "(III)V"⟩ : MethodName), Cond.selects "WordRation$State" (⟨"WordRation$State", "addHoarded", "(III)V"⟩ : MethodName) (⟨"WordRation$State", "addHoarded", "(III)V"⟩ : MethodName), Cond.methodLink "WordRation$State" 70 (⟨"WordRation$State", "counted", "(II)I"⟩ : MethodName), Cond.static (⟨"WordRation$State", "counted", "(II)I"⟩ : MethodName), Cond.constant "WordRation$State" 123 999999, Cond.methodLink "WordRation$State" 124 (⟨"java/lang/Math", "min", "(II)I"⟩ : MethodName), Cond.methodLink "WordRation$State" 107 (⟨"WordRation$Town", "wayRound", "(II)I"⟩ : MethodName), Cond.methodLink "WordRation$State" 110 (⟨"WordRation$State", "canGo", "(II)Z"⟩ : MethodName), Cond.instanceMethod (⟨"WordRation$State", "canGo", "(II)Z"⟩ : MethodName), Cond.selects "WordRation$State" (⟨"WordRation$State", "canGo", "(II)Z"⟩ : MethodName) (⟨"WordRation$State", "canGo", "(II)Z"⟩ : MethodName), Cond.methodLink "WordRation$State" 113 (⟨"WordRation$State", "go", "(II)V"⟩ : MethodName), Cond.instanceMethod (⟨"WordRation$State", "go", "(II)V"⟩ : MethodName), Cond.selects "WordRation$State" (⟨"WordRation$State", "go", "(II)V"⟩ : MethodName) (⟨"WordRation$State", "go", "(II)V"⟩ : MethodName), Cond.methodLink "WordRation$State" 116 (⟨"WordRation$Town", "canPoint", "(I)Z"⟩ : MethodName), Cond.methodLink "WordRation$State" 120 (⟨"WordRation$State", "gesture", "()V"⟩ : MethodName), Cond.instanceMethod (⟨"WordRation$State", "gesture", "()V"⟩ : MethodName), Cond.selects "WordRation$State" (⟨"WordRation$State", "gesture", "()V"⟩ : MethodName) (⟨"WordRation$State", "gesture", "()V"⟩ : MethodName), Cond.methodLink "WordRationLaw" 48 (⟨"WordRation", "say", "(II)I"⟩ : MethodName), Cond.instanceMethod (⟨"WordRation", "say", "(II)I"⟩ : MethodName), Cond.selects "WordRation" (⟨"WordRation", "say", "(II)I"⟩ : MethodName) (⟨"WordRation", "say", "(II)I"⟩ : MethodName), Cond.methodLink "WordRation" 225 (⟨"WordRation$State", "canSay", "(II)Z"⟩ : MethodName), Cond.methodLink "WordRation" 229 (⟨"WordRation$State", "speak", "(II)V"⟩ : MethodName), Cond.methodLink "WordRation" 233 (⟨"WordRation$State", "sayable", "(II)I"⟩ : MethodName), Cond.methodLink "WordRationLaw" 52 (⟨"WordRation", "around", "(III)I"⟩ : MethodName), Cond.instanceMethod (⟨"WordRation", "around", "(III)I"⟩ : MethodName), Cond.selects "WordRation" (⟨"WordRation", "around", "(III)I"⟩ : MethodName) (⟨"WordRation", "around", "(III)I"⟩ : MethodName), Cond.methodLink "WordRation" 236 (⟨"WordRation$State", "canGo", "(II)Z"⟩ : MethodName), Cond.methodLink "WordRation" 239 (⟨"WordRation$State", "go", "(II)V"⟩ : MethodName), Cond.methodLink "WordRationLaw" 57 (⟨"WordRation", "point", "(I)I"⟩ : MethodName), Cond.instanceMethod (⟨"WordRation", "point", "(I)I"⟩ : MethodName), Cond.selects "WordRation" (⟨"WordRation", "point", "(I)I"⟩ : MethodName) (⟨"WordRation", "point", "(I)I"⟩ : MethodName), Cond.methodLink "WordRation" 242 (⟨"WordRation$State", "gesture", "()V"⟩ : MethodName), Cond.methodLink "WordRationLaw" 61 (⟨"WordRation", "hoard", "(III)I"⟩ : MethodName), Cond.instanceMethod (⟨"WordRation", "hoard", "(III)I"⟩ : MethodName), Cond.selects "WordRation" (⟨"WordRation", "hoard", "(III)I"⟩ : MethodName) (⟨"WordRation", "hoard", "(III)I"⟩ : MethodName), Cond.methodLink "WordRation" 245 (⟨"WordRation$State", "store", "(III)V"⟩ : MethodName), Cond.instanceMethod (⟨"WordRation$State", "store", "(III)V"⟩ : MethodName), Cond.selects "WordRation$State" (⟨"WordRation$State", "store", "(III)V"⟩ : MethodName) (⟨"WordRation$State", "store", "(III)V"⟩ : MethodName), Cond.methodLink "WordRationLaw" 65 (⟨"WordRation", "sell", "(IIII)I"⟩ : MethodName)]
set_option maxRecDepth 100000 in
theorem zb8_in : ∀ w ∈ zb8, w ∈ zW := zin_l _ [555, 556, 557, 559, 560, 562, 563, 564, 565, 566, 567, 569, 570, 571, 573, 574, 575, 576, 578, 579, 580, 582, 583, 584, 585, 586, 587, 589, 590, 591, 592, 593, 595, 596, 597, 598, 600, 601, 602, 604] (by decide +kernel) (by decide +kernel)
theorem zu8 {w : Cond} (i : Nat) (h : zb8[i]? = some w) : w ∈ zW := zb8_in _ (List.mem_of_getElem? h)
def zb9 : List Cond := [Cond.instanceMethod (⟨"WordRation", "sell", "(IIII)I"⟩ : MethodName), Cond.selects "WordRation" (⟨"WordRation", "sell", "(IIII)I"⟩ : MethodName) (⟨"WordRation", "sell", "(IIII)I"⟩ : MethodName), Cond.methodLink "WordRation" 249 (⟨"WordRation$State", "addHoarded", "(III)V"⟩ : MethodName), Cond.methodLink "WordRationLaw" 70 (⟨"WordRation", "raise", "(II)I"⟩ : MethodName), Cond.instanceMethod (⟨"WordRation", "raise", "(II)I"⟩ : MethodName), Cond.selects "WordRation" (⟨"WordRation", "raise", "(II)I"⟩ : MethodName) (⟨"WordRation", "raise", "(II)I"⟩ : MethodName), Cond.methodLink "WordRationLaw" 74 (⟨"WordRation", "drift", "(I)I"⟩ : MethodName), Cond.instanceMethod (⟨"WordRation", "drift", "(I)I"⟩ : MethodName), Cond.selects "WordRation" (⟨"WordRation", "drift", "(I)I"⟩ : MethodName) (⟨"WordRation", "drift", "(I)I"⟩ : MethodName), Cond.methodLink "WordRation" 252 (⟨"WordRation", "doByDraws", "()V"⟩ : MethodName), Cond.instanceMethod (⟨"WordRation", "doByDraws", "()V"⟩ : MethodName), Cond.methodLink "WordRation" 349 (⟨"WordRation", "drawOf", "(I)I"⟩ : MethodName), Cond.instanceMethod (⟨"WordRation", "drawOf", "(I)I"⟩ : MethodName), Cond.constantLong "WordRation" 342 1103515245, Cond.constantLong "WordRation" 344 12345, Cond.constantLong "WordRation" 346 2147483647, Cond.constant "WordRation" 348 65536, Cond.methodLink "WordRationLaw" 78 (⟨"WordRation", "undo", "()I"⟩ : MethodName), Cond.instanceMethod (⟨"WordRation", "undo", "()I"⟩ : MethodName), Cond.selects "WordRation" (⟨"WordRation", "undo", "()I"⟩ : MethodName) (⟨"WordRation", "undo", "()I"⟩ : MethodName), Cond.methodLink "WordRation" 255 (⟨"WordRation$Past", "returnTo", "(LWordRation$State;)V"⟩ : MethodName), Cond.instanceMethod (⟨"WordRation$Past", "returnTo", "(LWordRation$State;)V"⟩ : MethodName), Cond.selects "WordRation$Past" (⟨"WordRation$Past", "returnTo", "(LWordRation$State;)V"⟩ : MethodName) (⟨"WordRation$Past", "returnTo", "(LWordRation$State;)V"⟩ : MethodName), Cond.methodLink "WordRationLaw" 82 (⟨"WordRation", "cheapest", "(III)I"⟩ : MethodName), Cond.instanceMethod (⟨"WordRation", "cheapest", "(III)I"⟩ : MethodName), Cond.selects "WordRation" (⟨"WordRation", "cheapest", "(III)I"⟩ : MethodName) (⟨"WordRation", "cheapest", "(III)I"⟩ : MethodName), Cond.methodLink "WordRation" 258 (⟨"WordRation", "workOutCheap", "(I)V"⟩ : MethodName), Cond.instanceMethod (⟨"WordRation", "workOutCheap", "(I)V"⟩ : MethodName), Cond.methodLink "WordRation" 352 (⟨"WordRation", "costBy", "(III)I"⟩ : MethodName), Cond.instanceMethod (⟨"WordRation", "costBy", "(III)I"⟩ : MethodName), Cond.methodLink "WordRation" 355 (⟨"WordRation", "cheapTogether", "(I)I"⟩ : MethodName), Cond.instanceMethod (⟨"WordRation", "cheapTogether", "(I)I"⟩ : MethodName), Cond.methodLink "WordRation" 261 (⟨"WordRation", "cheapestKind", "(II)I"⟩ : MethodName), Cond.instanceMethod (⟨"WordRation", "cheapestKind", "(II)I"⟩ : MethodName), Cond.methodLink "WordRationLaw" 86 (⟨"WordRation", "runsOut", "(I)I"⟩ : MethodName), Cond.instanceMethod (⟨"WordRation", "runsOut", "(I)I"⟩ : MethodName), Cond.selects "WordRation" (⟨"WordRation", "runsOut", "(I)I"⟩ : MethodName) (⟨"WordRation", "runsOut", "(I)I"⟩ : MethodName), Cond.methodLink "WordRation" 264 (⟨"WordRation$State", "copy", "(LWordRation$State;)V"⟩ : MethodName), Cond.methodLink "WordRationLaw" 90 (⟨"WordRation", "willBe", "(I)I"⟩ : MethodName), Cond.instanceMethod (⟨"WordRation", "willBe", "(I)I"⟩ : MethodName)]
set_option maxRecDepth 100000 in
theorem zb9_in : ∀ w ∈ zb9, w ∈ zW := zin_l _ [605, 606, 608, 609, 610, 611, 613, 614, 615, 617, 619, 621, 623, 625, 626, 627, 628, 629, 630, 631, 633, 634, 635, 637, 638, 639, 641, 643, 645, 647, 649, 651, 653, 655, 657, 658, 659, 661, 662, 663] (by decide +kernel) (by decide +kernel)
theorem zu9 {w : Cond} (i : Nat) (h : zb9[i]? = some w) : w ∈ zW := zb9_in _ (List.mem_of_getElem? h)
def zb10 : List Cond := [Cond.selects "WordRation" (⟨"WordRation", "willBe", "(I)I"⟩ : MethodName) (⟨"WordRation", "willBe", "(I)I"⟩ : MethodName), Cond.methodLink "WordRationLaw" 94 (⟨"WordRation", "plan", "(I)I"⟩ : MethodName), Cond.instanceMethod (⟨"WordRation", "plan", "(I)I"⟩ : MethodName), Cond.selects "WordRation" (⟨"WordRation", "plan", "(I)I"⟩ : MethodName) (⟨"WordRation", "plan", "(I)I"⟩ : MethodName), Cond.methodLink "WordRation" 267 (⟨"WordRation$Plan", "workOut", "(LWordRation$Town;LWordRation$State;)V"⟩ : MethodName), Cond.instanceMethod (⟨"WordRation$Plan", "workOut", "(LWordRation$Town;LWordRation$State;)V"⟩ : MethodName), Cond.selects "WordRation$Plan" (⟨"WordRation$Plan", "workOut", "(LWordRation$Town;LWordRation$State;)V"⟩ : MethodName) (⟨"WordRation$Plan", "workOut", "(LWordRation$Town;LWordRation$State;)V"⟩ : MethodName), Cond.methodLink "WordRation$Plan" 33 (⟨"WordRation$Plan", "gather", "(LWordRation$Town;LWordRation$State;)V"⟩ : MethodName), Cond.instanceMethod (⟨"WordRation$Plan", "gather", "(LWordRation$Town;LWordRation$State;)V"⟩ : MethodName), Cond.methodLink "WordRation$Plan" 54 (⟨"WordRation$State", "supply", "(I)I"⟩ : MethodName), Cond.instanceMethod (⟨"WordRation$State", "supply", "(I)I"⟩ : MethodName), Cond.selects "WordRation$State" (⟨"WordRation$State", "supply", "(I)I"⟩ : MethodName) (⟨"WordRation$State", "supply", "(I)I"⟩ : MethodName), Cond.methodLink "WordRation$State" 59 (⟨"WordRation$State", "hoardedByAll", "(I)I"⟩ : MethodName), Cond.methodLink "WordRation$Plan" 70 (⟨"WordRation$Town", "dayOfYear", "(I)I"⟩ : MethodName), Cond.methodLink "WordRation$Plan" 73 (⟨"WordRation$Town", "isToCome", "(II)Z"⟩ : MethodName), Cond.methodLink "WordRation$Plan" 83 (⟨"WordRation$Plan", "gatherUses", "(LWordRation$Town;I)V"⟩ : MethodName), Cond.instanceMethod (⟨"WordRation$Plan", "gatherUses", "(LWordRation$Town;I)V"⟩ : MethodName), Cond.methodLink "WordRation$Plan" 87 (⟨"WordRation$Town", "wayRound", "(II)I"⟩ : MethodName), Cond.methodLink "WordRation$Plan" 91 (⟨"WordRation$Town", "canPoint", "(I)Z"⟩ : MethodName), Cond.methodLink "WordRation$Plan" 47 (⟨"WordRation$Plan", "search", "(LWordRation$Plan;[IIII)V"⟩ : MethodName), Cond.static (⟨"WordRation$Plan", "search", "(LWordRation$Plan;[IIII)V"⟩ : MethodName), Cond.methodLink "WordRation$Plan" 95 (⟨"WordRation$Plan", "mayBeBetter", "(II)Z"⟩ : MethodName), Cond.instanceMethod (⟨"WordRation$Plan", "mayBeBetter", "(II)Z"⟩ : MethodName), Cond.methodLink "WordRation$Plan" 98 (⟨"WordRation$Plan", "take", "(II)V"⟩ : MethodName), Cond.instanceMethod (⟨"WordRation$Plan", "take", "(II)V"⟩ : MethodName), Cond.methodLink "WordRation$Plan" 113 (⟨"java/lang/System", "arraycopy", "(Ljava/lang/Object;ILjava/lang/Object;II)V"⟩ : MethodName), Cond.methodLink "WordRation$Plan" 102 (⟨"WordRation$Plan", "affords", "(I)Z"⟩ : MethodName), Cond.instanceMethod (⟨"WordRation$Plan", "affords", "(I)Z"⟩ : MethodName), Cond.methodLink "WordRation$Plan" 105 (⟨"WordRation$Plan", "change", "(II)V"⟩ : MethodName), Cond.instanceMethod (⟨"WordRation$Plan", "change", "(II)V"⟩ : MethodName), Cond.methodLink "WordRation$Plan" 108 (⟨"java/lang/Integer", "bitCount", "(I)I"⟩ : MethodName), Cond.static (⟨"java/lang/Integer", "bitCount", "(I)I"⟩ : MethodName), Cond.constant "java/lang/Integer" 265 1431655765, Cond.constant "java/lang/Integer" 266 858993459, Cond.constant "java/lang/Integer" 267 252645135, Cond.methodLink "WordRation" 277 (⟨"WordRation$Plan", "howMet", "(I)I"⟩ : MethodName), Cond.instanceMethod (⟨"WordRation$Plan", "howMet", "(I)I"⟩ : MethodName), Cond.selects "WordRation$Plan" (⟨"WordRation$Plan", "howMet", "(I)I"⟩ : MethodName) (⟨"WordRation$Plan", "howMet", "(I)I"⟩ : MethodName), Cond.methodLink "WordRationLaw" 98 (⟨"WordRation", "price", "(I)I"⟩ : MethodName), Cond.instanceMethod (⟨"WordRation", "price", "(I)I"⟩ : MethodName)]
set_option maxRecDepth 100000 in
theorem zb10_in : ∀ w ∈ zb10, w ∈ zW := zin_l _ [664, 666, 667, 668, 670, 671, 672, 674, 676, 678, 679, 680, 682, 683, 684, 685, 687, 689, 690, 693, 694, 696, 698, 700, 702, 704, 705, 707, 709, 711, 713, 714, 716, 717, 718, 721, 722, 723, 725, 726] (by decide +kernel) (by decide +kernel)
theorem zu10 {w : Cond} (i : Nat) (h : zb10[i]? = some w) : w ∈ zW := zb10_in _ (List.mem_of_getElem? h)
def zb11 : List Cond := [Cond.selects "WordRation" (⟨"WordRation", "price", "(I)I"⟩ : MethodName) (⟨"WordRation", "price", "(I)I"⟩ : MethodName), Cond.methodLink "WordRation" 280 (⟨"WordRation$State", "supply", "(I)I"⟩ : MethodName), Cond.methodLink "WordRation" 283 (⟨"WordRation", "isToComeOf", "(II)Z"⟩ : MethodName), Cond.instanceMethod (⟨"WordRation", "isToComeOf", "(II)Z"⟩ : MethodName), Cond.methodLink "WordRation" 286 (⟨"WordRation", "rankByWorth", "(II)I"⟩ : MethodName), Cond.instanceMethod (⟨"WordRation", "rankByWorth", "(II)I"⟩ : MethodName), Cond.methodLink "WordRationLaw" 102 (⟨"WordRation", "sells", "(II)I"⟩ : MethodName), Cond.instanceMethod (⟨"WordRation", "sells", "(II)I"⟩ : MethodName), Cond.selects "WordRation" (⟨"WordRation", "sells", "(II)I"⟩ : MethodName) (⟨"WordRation", "sells", "(II)I"⟩ : MethodName), Cond.methodLink "WordRation" 289 (⟨"WordRation", "wouldSell", "(III)Z"⟩ : MethodName), Cond.instanceMethod (⟨"WordRation", "wouldSell", "(III)Z"⟩ : MethodName), Cond.methodLink "WordRation" 293 (⟨"WordRation", "needsToCome", "(II)I"⟩ : MethodName), Cond.instanceMethod (⟨"WordRation", "needsToCome", "(II)I"⟩ : MethodName), Cond.methodLink "WordRationLaw" 106 (⟨"WordRation", "share", "(II)I"⟩ : MethodName), Cond.instanceMethod (⟨"WordRation", "share", "(II)I"⟩ : MethodName), Cond.selects "WordRation" (⟨"WordRation", "share", "(II)I"⟩ : MethodName) (⟨"WordRation", "share", "(II)I"⟩ : MethodName), Cond.methodLink "WordRationLaw" 110 (⟨"WordRation", "more", "(I)I"⟩ : MethodName), Cond.instanceMethod (⟨"WordRation", "more", "(I)I"⟩ : MethodName), Cond.selects "WordRation" (⟨"WordRation", "more", "(I)I"⟩ : MethodName) (⟨"WordRation", "more", "(I)I"⟩ : MethodName), Cond.methodLink "WordRation" 296 (⟨"java/lang/Math", "max", "(II)I"⟩ : MethodName), Cond.static (⟨"java/lang/Math", "max", "(II)I"⟩ : MethodName), Cond.methodLink "WordRationLaw" 114 (⟨"WordRation", "fire", "(II)I"⟩ : MethodName), Cond.instanceMethod (⟨"WordRation", "fire", "(II)I"⟩ : MethodName), Cond.selects "WordRation" (⟨"WordRation", "fire", "(II)I"⟩ : MethodName) (⟨"WordRation", "fire", "(II)I"⟩ : MethodName), Cond.methodLink "WordRation" 301 (⟨"WordRation", "oneNightMore", "(II)I"⟩ : MethodName), Cond.static (⟨"WordRation", "oneNightMore", "(II)I"⟩ : MethodName), Cond.methodLink "WordRationLaw" 118 (⟨"WordRation", "rhymes", "(I)I"⟩ : MethodName), Cond.instanceMethod (⟨"WordRation", "rhymes", "(I)I"⟩ : MethodName), Cond.selects "WordRation" (⟨"WordRation", "rhymes", "(I)I"⟩ : MethodName) (⟨"WordRation", "rhymes", "(I)I"⟩ : MethodName), Cond.methodLink "WordRationLaw" 122 (⟨"WordRation", "silent", "(II)I"⟩ : MethodName), Cond.instanceMethod (⟨"WordRation", "silent", "(II)I"⟩ : MethodName), Cond.selects "WordRation" (⟨"WordRation", "silent", "(II)I"⟩ : MethodName) (⟨"WordRation", "silent", "(II)I"⟩ : MethodName), Cond.constantLong "WordRation" 304 1000000000, Cond.constantLong "WordRation" 306 100, Cond.methodLink "WordRationLaw" 126 (⟨"WordRation", "knot", "(IIZ)I"⟩ : MethodName), Cond.instanceMethod (⟨"WordRation", "knot", "(IIZ)I"⟩ : MethodName), Cond.selects "WordRation" (⟨"WordRation", "knot", "(IIZ)I"⟩ : MethodName) (⟨"WordRation", "knot", "(IIZ)I"⟩ : MethodName), Cond.methodLink "WordRation" 308 (⟨"WordRation$Knots", "tie", "(IIZ)V"⟩ : MethodName), Cond.instanceMethod (⟨"WordRation$Knots", "tie", "(IIZ)V"⟩ : MethodName), Cond.selects "WordRation$Knots" (⟨"WordRation$Knots", "tie", "(IIZ)V"⟩ : MethodName) (⟨"WordRation$Knots", "tie", "(IIZ)V"⟩ : MethodName)]
set_option maxRecDepth 100000 in
theorem zb11_in : ∀ w ∈ zb11, w ∈ zW := zin_l _ [727, 729, 730, 732, 734, 736, 738, 739, 740, 742, 744, 746, 748, 750, 751, 752, 754, 755, 756, 758, 759, 761, 762, 763, 765, 766, 768, 769, 770, 772, 773, 774, 776, 777, 778, 779, 780, 782, 783, 784] (by decide +kernel) (by decide +kernel)
theorem zu11 {w : Cond} (i : Nat) (h : zb11[i]? = some w) : w ∈ zW := zb11_in _ (List.mem_of_getElem? h)
def zb12 : List Cond := [Cond.methodLink "WordRationLaw" 131 (⟨"WordRation", "who", "()I"⟩ : MethodName), Cond.instanceMethod (⟨"WordRation", "who", "()I"⟩ : MethodName), Cond.selects "WordRation" (⟨"WordRation", "who", "()I"⟩ : MethodName) (⟨"WordRation", "who", "()I"⟩ : MethodName), Cond.methodLink "WordRation" 312 (⟨"WordRation$Knots", "fitting", "(LWordRation$Town;)I"⟩ : MethodName), Cond.instanceMethod (⟨"WordRation$Knots", "fitting", "(LWordRation$Town;)I"⟩ : MethodName), Cond.selects "WordRation$Knots" (⟨"WordRation$Knots", "fitting", "(LWordRation$Town;)I"⟩ : MethodName) (⟨"WordRation$Knots", "fitting", "(LWordRation$Town;)I"⟩ : MethodName), Cond.methodLink "WordRation$Knots" 31 (⟨"WordRation$Knots", "fits", "(LWordRation$Town;I)Z"⟩ : MethodName), Cond.instanceMethod (⟨"WordRation$Knots", "fits", "(LWordRation$Town;I)Z"⟩ : MethodName), Cond.methodLink "WordRation$Knots" 35 (⟨"WordRation$Town", "wouldHaveSaid", "(III)Z"⟩ : MethodName), Cond.instanceMethod (⟨"WordRation$Town", "wouldHaveSaid", "(III)Z"⟩ : MethodName), Cond.selects "WordRation$Town" (⟨"WordRation$Town", "wouldHaveSaid", "(III)Z"⟩ : MethodName) (⟨"WordRation$Town", "wouldHaveSaid", "(III)Z"⟩ : MethodName), Cond.methodLink "WordRationLaw" 135 (⟨"WordRation", "ask", "()I"⟩ : MethodName), Cond.instanceMethod (⟨"WordRation", "ask", "()I"⟩ : MethodName), Cond.selects "WordRation" (⟨"WordRation", "ask", "()I"⟩ : MethodName) (⟨"WordRation", "ask", "()I"⟩ : MethodName), Cond.methodLink "WordRation" 316 (⟨"java/lang/Integer", "bitCount", "(I)I"⟩ : MethodName), Cond.methodLink "WordRation" 321 (⟨"WordRation", "greatestPart", "(III)I"⟩ : MethodName), Cond.instanceMethod (⟨"WordRation", "greatestPart", "(III)I"⟩ : MethodName), Cond.methodLink "WordRation" 358 (⟨"WordRation$Town", "wouldHaveSaid", "(III)Z"⟩ : MethodName), Cond.methodLink "WordRationLaw" 139 (⟨"WordRation", "write", "(II)I"⟩ : MethodName), Cond.instanceMethod (⟨"WordRation", "write", "(II)I"⟩ : MethodName), Cond.selects "WordRation" (⟨"WordRation", "write", "(II)I"⟩ : MethodName) (⟨"WordRation", "write", "(II)I"⟩ : MethodName), Cond.methodLink "WordRation" 325 (⟨"WordRation$Book", "enter", "(II)V"⟩ : MethodName), Cond.instanceMethod (⟨"WordRation$Book", "enter", "(II)V"⟩ : MethodName), Cond.selects "WordRation$Book" (⟨"WordRation$Book", "enter", "(II)V"⟩ : MethodName) (⟨"WordRation$Book", "enter", "(II)V"⟩ : MethodName), Cond.methodLink "WordRationLaw" 143 (⟨"WordRation", "tear", "()I"⟩ : MethodName), Cond.instanceMethod (⟨"WordRation", "tear", "()I"⟩ : MethodName), Cond.selects "WordRation" (⟨"WordRation", "tear", "()I"⟩ : MethodName) (⟨"WordRation", "tear", "()I"⟩ : MethodName), Cond.methodLink "WordRationLaw" 147 (⟨"WordRation", "judge", "()I"⟩ : MethodName), Cond.instanceMethod (⟨"WordRation", "judge", "()I"⟩ : MethodName), Cond.selects "WordRation" (⟨"WordRation", "judge", "()I"⟩ : MethodName) (⟨"WordRation", "judge", "()I"⟩ : MethodName), Cond.methodLink "WordRation" 328 (⟨"WordRation$Book", "firstWrong", "(LWordRation$State;)I"⟩ : MethodName), Cond.instanceMethod (⟨"WordRation$Book", "firstWrong", "(LWordRation$State;)I"⟩ : MethodName), Cond.selects "WordRation$Book" (⟨"WordRation$Book", "firstWrong", "(LWordRation$State;)I"⟩ : MethodName) (⟨"WordRation$Book", "firstWrong", "(LWordRation$State;)I"⟩ : MethodName), Cond.methodLink "WordRationLaw" 151 (⟨"WordRation", "seed", "(I)I"⟩ : MethodName), Cond.instanceMethod (⟨"WordRation", "seed", "(I)I"⟩ : MethodName), Cond.selects "WordRation" (⟨"WordRation", "seed", "(I)I"⟩ : MethodName) (⟨"WordRation", "seed", "(I)I"⟩ : MethodName), Cond.methodLink "WordRationLaw" 155 (⟨"WordRation", "keep", "(I)I"⟩ : MethodName), Cond.instanceMethod (⟨"WordRation", "keep", "(I)I"⟩ : MethodName), Cond.selects "WordRation" (⟨"WordRation", "keep", "(I)I"⟩ : MethodName) (⟨"WordRation", "keep", "(I)I"⟩ : MethodName), Cond.methodLink "WordRationLaw" 159 (⟨"WordRation", "goBack", "(I)I"⟩ : MethodName)]
set_option maxRecDepth 100000 in
theorem zb12_in : ∀ w ∈ zb12, w ∈ zW := zin_l _ [786, 787, 788, 790, 791, 792, 794, 796, 798, 799, 800, 802, 803, 804, 806, 807, 809, 811, 812, 813, 814, 816, 817, 818, 820, 821, 822, 824, 825, 826, 828, 829, 830, 832, 833, 834, 836, 837, 838, 840] (by decide +kernel) (by decide +kernel)
theorem zu12 {w : Cond} (i : Nat) (h : zb12[i]? = some w) : w ∈ zW := zb12_in _ (List.mem_of_getElem? h)
def zb13 : List Cond := [Cond.instanceMethod (⟨"WordRation", "goBack", "(I)I"⟩ : MethodName), Cond.selects "WordRation" (⟨"WordRation", "goBack", "(I)I"⟩ : MethodName) (⟨"WordRation", "goBack", "(I)I"⟩ : MethodName), Cond.classLink "WordRationLaw" 10 "WordRationModel", Cond.instantiable "WordRationModel" 58, Cond.methodLink "WordRationLaw" 12 (⟨"WordRationModel", "<init>", "()V"⟩ : MethodName), Cond.instanceMethod (⟨"WordRationModel", "<init>", "()V"⟩ : MethodName), Cond.methodLink "WordRationModel" 1 (⟨"java/lang/Object", "<init>", "()V"⟩ : MethodName), Cond.fieldLink "WordRationModel" 7 "WordRationModel" "now" "[I", Cond.fieldLink "WordRationModel" 13 "WordRationModel" "tried" "[I", Cond.fieldLink "WordRationModel" 16 "WordRationModel" "was" "[I", Cond.fieldLink "WordRationModel" 219 "WordRationModel" "acts" "I", Cond.fieldLink "WordRationModel" 296 "WordRationModel" "seed" "I", Cond.fieldLink "WordRationModel" 216 "WordRationModel" "days" "I", Cond.fieldLink "WordRationModel" 117 "WordRationModel" "words" "I", Cond.fieldLink "WordRationModel" 124 "WordRationModel" "persons" "I", Cond.fieldLink "WordRationModel" 127 "WordRationModel" "needs" "I", Cond.fieldLink "WordRationModel" 19 "WordRationModel" "cost" "[I", Cond.fieldLink "WordRationModel" 22 "WordRationModel" "rhyme" "[I", Cond.fieldLink "WordRationModel" 25 "WordRationModel" "ways" "[I", Cond.fieldLink "WordRationModel" 28 "WordRationModel" "pointing" "[Z", Cond.fieldLink "WordRationModel" 32 "WordRationModel" "honest" "[Z", Cond.fieldLink "WordRationModel" 35 "WordRationModel" "needed" "[I", Cond.fieldLink "WordRationModel" 38 "WordRationModel" "text" "[I", Cond.fieldLink "WordRationModel" 134 "WordRationModel" "letters" "I", Cond.fieldLink "WordRationModel" 144 "WordRationModel" "at" "I", Cond.fieldLink "WordRationModel" 138 "WordRationModel" "wrong" "I", Cond.fieldLink "WordRationModel" 141 "WordRationModel" "wrongAt" "I", Cond.fieldLink "WordRationModel" 41 "WordRationModel" "faultAt" "I", Cond.fieldLink "WordRationModel" 188 "WordRationModel" "newDays" "I", Cond.fieldLink "WordRationModel" 162 "WordRationModel" "newWords" "I", Cond.fieldLink "WordRationModel" 182 "WordRationModel" "newPersons" "I", Cond.fieldLink "WordRationModel" 185 "WordRationModel" "newNeeds" "I", Cond.fieldLink "WordRationModel" 172 "WordRationModel" "newWays" "I", Cond.fieldLink "WordRationModel" 45 "WordRationModel" "newLimit" "[I", Cond.fieldLink "WordRationModel" 48 "WordRationModel" "newCost" "[I", Cond.fieldLink "WordRationModel" 51 "WordRationModel" "newRhyme" "[I", Cond.fieldLink "WordRationModel" 54 "WordRationModel" "newRound" "[I", Cond.fieldLink "WordRationModel" 57 "WordRationModel" "newPointing" "[Z", Cond.fieldLink "WordRationModel" 60 "WordRationModel" "newHonest" "[Z", Cond.fieldLink "WordRationModel" 63 "WordRationModel" "newNeeded" "[I"]
set_option maxRecDepth 100000 in
theorem zb13_in : ∀ w ∈ zb13, w ∈ zW := zin_l _ [841, 842, 844, 845, 846, 847, 849, 850, 851, 852, 853, 854, 855, 856, 857, 858, 859, 860, 861, 862, 863, 864, 865, 866, 867, 868, 869, 870, 871, 872, 873, 874, 875, 876, 877, 878, 879, 880, 881, 882] (by decide +kernel) (by decide +kernel)
theorem zu13 {w : Cond} (i : Nat) (h : zb13[i]? = some w) : w ∈ zW := zb13_in _ (List.mem_of_getElem? h)
def zb14 : List Cond := [Cond.fieldLink "WordRationModel" 159 "WordRationModel" "toldPlace" "I", Cond.fieldLink "WordRationModel" 66 "WordRationModel" "least" "[I", Cond.fieldLink "WordRationModel" 347 "WordRationModel" "coming" "I", Cond.fieldLink "WordRationModel" 69 "WordRationModel" "list" "[I", Cond.fieldLink "WordRationModel" 72 "WordRationModel" "rest" "[I", Cond.fieldLink "WordRationModel" 75 "WordRationModel" "pick" "[I", Cond.fieldLink "WordRationModel" 78 "WordRationModel" "used" "[I", Cond.fieldLink "WordRationModel" 81 "WordRationModel" "supply" "[I", Cond.fieldLink "WordRationModel" 331 "WordRationModel" "worth" "I", Cond.fieldLink "WordRationModel" 325 "WordRationModel" "count" "I", Cond.fieldLink "WordRationModel" 84 "WordRationModel" "best" "[I", Cond.fieldLink "WordRationModel" 341 "WordRationModel" "bestWorth" "I", Cond.fieldLink "WordRationModel" 344 "WordRationModel" "bestCount" "I", Cond.fieldLink "WordRationModel" 87 "WordRationModel" "fires" "[I", Cond.fieldLink "WordRationModel" 90 "WordRationModel" "later" "[I", Cond.fieldLink "WordRationModel" 222 "WordRationModel" "knots" "I", Cond.fieldLink "WordRationModel" 93 "WordRationModel" "knotWord" "[I", Cond.fieldLink "WordRationModel" 96 "WordRationModel" "knotDay" "[I", Cond.fieldLink "WordRationModel" 99 "WordRationModel" "knotSaid" "[Z", Cond.fieldLink "WordRationModel" 225 "WordRationModel" "entries" "I", Cond.fieldLink "WordRationModel" 102 "WordRationModel" "entryWord" "[I", Cond.fieldLink "WordRationModel" 105 "WordRationModel" "entryLeft" "[I", Cond.fieldLink "WordRationModel" 108 "WordRationModel" "isKept" "[Z", Cond.fieldLink "WordRationModel" 111 "WordRationModel" "kept" "[I", Cond.fieldLink "WordRationModel" 114 "WordRationModel" "keptSeed" "[I", Cond.methodLink "WordRationLaw" 17 (⟨"WordRationModel", "feed", "(I)I"⟩ : MethodName), Cond.instanceMethod (⟨"WordRationModel", "feed", "(I)I"⟩ : MethodName), Cond.selects "WordRationModel" (⟨"WordRationModel", "feed", "(I)I"⟩ : MethodName) (⟨"WordRationModel", "feed", "(I)I"⟩ : MethodName), Cond.constantLong "WordRationModel" 131 255, Cond.methodLink "WordRationModel" 120 (⟨"WordRationModel", "in", "(JJJ)Z"⟩ : MethodName), Cond.static (⟨"WordRationModel", "in", "(JJJ)Z"⟩ : MethodName), Cond.constant "WordRationModel" 133 (-1000000002), Cond.constant "WordRationModel" 137 (-1000000004), Cond.methodLink "WordRationLaw" 22 (⟨"WordRationModel", "town", "()I"⟩ : MethodName), Cond.instanceMethod (⟨"WordRationModel", "town", "()I"⟩ : MethodName), Cond.selects "WordRationModel" (⟨"WordRationModel", "town", "()I"⟩ : MethodName) (⟨"WordRationModel", "town", "()I"⟩ : MethodName), Cond.methodLink "WordRationModel" 213 (⟨"WordRationModel", "readAll", "()V"⟩ : MethodName), Cond.instanceMethod (⟨"WordRationModel", "readAll", "()V"⟩ : MethodName), Cond.methodLink "WordRationModel" 147 (⟨"WordRationModel", "letterNow", "()I"⟩ : MethodName), Cond.instanceMethod (⟨"WordRationModel", "letterNow", "()I"⟩ : MethodName)]
set_option maxRecDepth 100000 in
theorem zb14_in : ∀ w ∈ zb14, w ∈ zW := zin_l _ [883, 884, 885, 886, 887, 888, 889, 890, 891, 892, 893, 894, 895, 896, 897, 898, 899, 900, 901, 902, 903, 904, 905, 906, 907, 1025, 1026, 1027, 1029, 1030, 1031, 1033, 1034, 1035, 1036, 1037, 1039, 1041, 1043, 1045] (by decide +kernel) (by decide +kernel)
theorem zu14 {w : Cond} (i : Nat) (h : zb14[i]? = some w) : w ∈ zW := zb14_in _ (List.mem_of_getElem? h)
def zb15 : List Cond := [Cond.methodLink "WordRationModel" 209 (⟨"WordRationModel", "readClause", "(I)V"⟩ : MethodName), Cond.instanceMethod (⟨"WordRationModel", "readClause", "(I)V"⟩ : MethodName), Cond.methodLink "WordRationModel" 155 (⟨"WordRationModel", "bad", "(II)V"⟩ : MethodName), Cond.instanceMethod (⟨"WordRationModel", "bad", "(II)V"⟩ : MethodName), Cond.methodLink "WordRationModel" 191 (⟨"WordRationModel", "readYear", "()V"⟩ : MethodName), Cond.instanceMethod (⟨"WordRationModel", "readYear", "()V"⟩ : MethodName), Cond.methodLink "WordRationModel" 165 (⟨"WordRationModel", "number", "(II)I"⟩ : MethodName), Cond.instanceMethod (⟨"WordRationModel", "number", "(II)I"⟩ : MethodName), Cond.methodLink "WordRationModel" 151 (⟨"WordRationModel", "isFigure", "(I)Z"⟩ : MethodName), Cond.static (⟨"WordRationModel", "isFigure", "(I)Z"⟩ : MethodName), Cond.methodLink "WordRationModel" 169 (⟨"WordRationModel", "end", "()V"⟩ : MethodName), Cond.instanceMethod (⟨"WordRationModel", "end", "()V"⟩ : MethodName), Cond.methodLink "WordRationModel" 194 (⟨"WordRationModel", "readWord", "()V"⟩ : MethodName), Cond.instanceMethod (⟨"WordRationModel", "readWord", "()V"⟩ : MethodName), Cond.methodLink "WordRationModel" 197 (⟨"WordRationModel", "readWay", "()V"⟩ : MethodName), Cond.instanceMethod (⟨"WordRationModel", "readWay", "()V"⟩ : MethodName), Cond.methodLink "WordRationModel" 175 (⟨"WordRationModel", "wordTold", "()I"⟩ : MethodName), Cond.instanceMethod (⟨"WordRationModel", "wordTold", "()I"⟩ : MethodName), Cond.methodLink "WordRationModel" 178 (⟨"WordRationModel", "has", "(II)Z"⟩ : MethodName), Cond.static (⟨"WordRationModel", "has", "(II)Z"⟩ : MethodName), Cond.methodLink "WordRationModel" 200 (⟨"WordRationModel", "readPointing", "()V"⟩ : MethodName), Cond.instanceMethod (⟨"WordRationModel", "readPointing", "()V"⟩ : MethodName), Cond.methodLink "WordRationModel" 203 (⟨"WordRationModel", "readPerson", "()V"⟩ : MethodName), Cond.instanceMethod (⟨"WordRationModel", "readPerson", "()V"⟩ : MethodName), Cond.methodLink "WordRationModel" 206 (⟨"WordRationModel", "readNeed", "()V"⟩ : MethodName), Cond.instanceMethod (⟨"WordRationModel", "readNeed", "()V"⟩ : MethodName), Cond.methodLink "WordRationLaw" 26 (⟨"WordRationModel", "fault", "()I"⟩ : MethodName), Cond.instanceMethod (⟨"WordRationModel", "fault", "()I"⟩ : MethodName), Cond.selects "WordRationModel" (⟨"WordRationModel", "fault", "()I"⟩ : MethodName) (⟨"WordRationModel", "fault", "()I"⟩ : MethodName), Cond.methodLink "WordRationLaw" 30 (⟨"WordRationModel", "told", "(I)I"⟩ : MethodName), Cond.instanceMethod (⟨"WordRationModel", "told", "(I)I"⟩ : MethodName), Cond.selects "WordRationModel" (⟨"WordRationModel", "told", "(I)I"⟩ : MethodName) (⟨"WordRationModel", "told", "(I)I"⟩ : MethodName), Cond.methodLink "WordRationModel" 232 (⟨"WordRationModel", "dayNow", "()I"⟩ : MethodName), Cond.instanceMethod (⟨"WordRationModel", "dayNow", "()I"⟩ : MethodName), Cond.methodLink "WordRationLaw" 35 (⟨"WordRationModel", "word", "(II)I"⟩ : MethodName), Cond.instanceMethod (⟨"WordRationModel", "word", "(II)I"⟩ : MethodName), Cond.selects "WordRationModel" (⟨"WordRationModel", "word", "(II)I"⟩ : MethodName) (⟨"WordRationModel", "word", "(II)I"⟩ : MethodName), Cond.methodLink "WordRationModel" 235 (⟨"WordRationModel", "isWord", "(I)Z"⟩ : MethodName), Cond.instanceMethod (⟨"WordRationModel", "isWord", "(I)Z"⟩ : MethodName), Cond.constant "WordRationModel" 238 (-1000000001)]
set_option maxRecDepth 100000 in
theorem zb15_in : ∀ w ∈ zb15, w ∈ zW := zin_l _ [1047, 1049, 1051, 1053, 1055, 1057, 1059, 1061, 1063, 1064, 1066, 1068, 1070, 1072, 1074, 1076, 1078, 1080, 1082, 1083, 1085, 1087, 1089, 1091, 1093, 1095, 1097, 1098, 1099, 1101, 1102, 1103, 1105, 1107, 1109, 1110, 1111, 1113, 1115, 1117] (by decide +kernel) (by decide +kernel)
theorem zu15 {w : Cond} (i : Nat) (h : zb15[i]? = some w) : w ∈ zW := zb15_in _ (List.mem_of_getElem? h)
def zb16 : List Cond := [Cond.methodLink "WordRationModel" 239 (⟨"WordRationModel", "hoardedOf", "([II)I"⟩ : MethodName), Cond.instanceMethod (⟨"WordRationModel", "hoardedOf", "([II)I"⟩ : MethodName), Cond.methodLink "WordRationLaw" 39 (⟨"WordRationModel", "hoarded", "(II)I"⟩ : MethodName), Cond.instanceMethod (⟨"WordRationModel", "hoarded", "(II)I"⟩ : MethodName), Cond.selects "WordRationModel" (⟨"WordRationModel", "hoarded", "(II)I"⟩ : MethodName) (⟨"WordRationModel", "hoarded", "(II)I"⟩ : MethodName), Cond.methodLink "WordRationModel" 243 (⟨"WordRationModel", "isPerson", "(I)Z"⟩ : MethodName), Cond.instanceMethod (⟨"WordRationModel", "isPerson", "(I)Z"⟩ : MethodName), Cond.methodLink "WordRationLaw" 43 (⟨"WordRationModel", "need", "(II)I"⟩ : MethodName), Cond.instanceMethod (⟨"WordRationModel", "need", "(II)I"⟩ : MethodName), Cond.selects "WordRationModel" (⟨"WordRationModel", "need", "(II)I"⟩ : MethodName) (⟨"WordRationModel", "need", "(II)I"⟩ : MethodName), Cond.methodLink "WordRationModel" 246 (⟨"WordRationModel", "isNeed", "(I)Z"⟩ : MethodName), Cond.instanceMethod (⟨"WordRationModel", "isNeed", "(I)Z"⟩ : MethodName), Cond.constantLong "WordRationModel" 249 4, Cond.methodLink "WordRationModel" 251 (⟨"WordRationModel", "isToCome", "(I)Z"⟩ : MethodName), Cond.instanceMethod (⟨"WordRationModel", "isToCome", "(I)Z"⟩ : MethodName), Cond.methodLink "WordRationModel" 228 (⟨"WordRationModel", "dayOf", "(I)I"⟩ : MethodName), Cond.instanceMethod (⟨"WordRationModel", "dayOf", "(I)I"⟩ : MethodName), Cond.methodLink "WordRationLaw" 47 (⟨"WordRationModel", "day", "(I)I"⟩ : MethodName), Cond.instanceMethod (⟨"WordRationModel", "day", "(I)I"⟩ : MethodName), Cond.selects "WordRationModel" (⟨"WordRationModel", "day", "(I)I"⟩ : MethodName) (⟨"WordRationModel", "day", "(I)I"⟩ : MethodName), Cond.constantLong "WordRationModel" 284 60, Cond.constant "WordRationModel" 286 (-1000000003), Cond.methodLink "WordRationModel" 287 (⟨"WordRationModel", "keepAct", "()V"⟩ : MethodName), Cond.instanceMethod (⟨"WordRationModel", "keepAct", "()V"⟩ : MethodName), Cond.methodLink "WordRationModel" 290 (⟨"WordRationModel", "goOn", "([I)I"⟩ : MethodName), Cond.instanceMethod (⟨"WordRationModel", "goOn", "([I)I"⟩ : MethodName), Cond.methodLink "WordRationModel" 277 (⟨"WordRationModel", "meets", "([II)Z"⟩ : MethodName), Cond.instanceMethod (⟨"WordRationModel", "meets", "([II)Z"⟩ : MethodName), Cond.methodLink "WordRationModel" 265 (⟨"WordRationModel", "person", "(I)I"⟩ : MethodName), Cond.instanceMethod (⟨"WordRationModel", "person", "(I)I"⟩ : MethodName), Cond.methodLink "WordRationModel" 268 (⟨"WordRationModel", "wordOf", "(I)I"⟩ : MethodName), Cond.instanceMethod (⟨"WordRationModel", "wordOf", "(I)I"⟩ : MethodName), Cond.methodLink "WordRationModel" 257 (⟨"WordRationModel", "canSay", "([III)Z"⟩ : MethodName), Cond.static (⟨"WordRationModel", "canSay", "([III)Z"⟩ : MethodName), Cond.methodLink "WordRationModel" 261 (⟨"WordRationModel", "says", "([III)V"⟩ : MethodName), Cond.static (⟨"WordRationModel", "says", "([III)V"⟩ : MethodName), Cond.methodLink "WordRationModel" 254 (⟨"WordRationModel", "up", "(II)I"⟩ : MethodName), Cond.static (⟨"WordRationModel", "up", "(II)I"⟩ : MethodName), Cond.constant "WordRationModel" 130 999999, Cond.methodLink "WordRationModel" 271 (⟨"WordRationModel", "canGo", "([III)Z"⟩ : MethodName)]
set_option maxRecDepth 100000 in
theorem zb16_in : ∀ w ∈ zb16, w ∈ zW := zin_l _ [1118, 1120, 1122, 1123, 1124, 1126, 1128, 1130, 1131, 1132, 1134, 1136, 1138, 1139, 1141, 1143, 1145, 1147, 1148, 1149, 1151, 1152, 1153, 1155, 1157, 1159, 1161, 1163, 1165, 1167, 1169, 1171, 1173, 1174, 1176, 1177, 1179, 1180, 1182, 1183] (by decide +kernel) (by decide +kernel)
theorem zu16 {w : Cond} (i : Nat) (h : zb16[i]? = some w) : w ∈ zW := zb16_in _ (List.mem_of_getElem? h)
def zb17 : List Cond := [Cond.static (⟨"WordRationModel", "canGo", "([III)Z"⟩ : MethodName), Cond.methodLink "WordRationModel" 274 (⟨"WordRationModel", "goes", "([III)V"⟩ : MethodName), Cond.static (⟨"WordRationModel", "goes", "([III)V"⟩ : MethodName), Cond.methodLink "WordRationModel" 281 (⟨"WordRationModel", "worthOf", "(I)I"⟩ : MethodName), Cond.instanceMethod (⟨"WordRationModel", "worthOf", "(I)I"⟩ : MethodName), Cond.methodLink "WordRationLaw" 51 (⟨"WordRationModel", "say", "(II)I"⟩ : MethodName), Cond.instanceMethod (⟨"WordRationModel", "say", "(II)I"⟩ : MethodName), Cond.selects "WordRationModel" (⟨"WordRationModel", "say", "(II)I"⟩ : MethodName) (⟨"WordRationModel", "say", "(II)I"⟩ : MethodName), Cond.methodLink "WordRationLaw" 56 (⟨"WordRationModel", "around", "(III)I"⟩ : MethodName), Cond.instanceMethod (⟨"WordRationModel", "around", "(III)I"⟩ : MethodName), Cond.selects "WordRationModel" (⟨"WordRationModel", "around", "(III)I"⟩ : MethodName) (⟨"WordRationModel", "around", "(III)I"⟩ : MethodName), Cond.methodLink "WordRationLaw" 60 (⟨"WordRationModel", "point", "(I)I"⟩ : MethodName), Cond.instanceMethod (⟨"WordRationModel", "point", "(I)I"⟩ : MethodName), Cond.selects "WordRationModel" (⟨"WordRationModel", "point", "(I)I"⟩ : MethodName) (⟨"WordRationModel", "point", "(I)I"⟩ : MethodName), Cond.methodLink "WordRationLaw" 64 (⟨"WordRationModel", "hoard", "(III)I"⟩ : MethodName), Cond.instanceMethod (⟨"WordRationModel", "hoard", "(III)I"⟩ : MethodName), Cond.selects "WordRationModel" (⟨"WordRationModel", "hoard", "(III)I"⟩ : MethodName) (⟨"WordRationModel", "hoard", "(III)I"⟩ : MethodName), Cond.constantLong "WordRationModel" 294 99, Cond.methodLink "WordRationLaw" 69 (⟨"WordRationModel", "sell", "(IIII)I"⟩ : MethodName), Cond.instanceMethod (⟨"WordRationModel", "sell", "(IIII)I"⟩ : MethodName), Cond.selects "WordRationModel" (⟨"WordRationModel", "sell", "(IIII)I"⟩ : MethodName) (⟨"WordRationModel", "sell", "(IIII)I"⟩ : MethodName), Cond.methodLink "WordRationLaw" 73 (⟨"WordRationModel", "raise", "(II)I"⟩ : MethodName), Cond.instanceMethod (⟨"WordRationModel", "raise", "(II)I"⟩ : MethodName), Cond.selects "WordRationModel" (⟨"WordRationModel", "raise", "(II)I"⟩ : MethodName) (⟨"WordRationModel", "raise", "(II)I"⟩ : MethodName), Cond.methodLink "WordRationLaw" 77 (⟨"WordRationModel", "drift", "(I)I"⟩ : MethodName), Cond.instanceMethod (⟨"WordRationModel", "drift", "(I)I"⟩ : MethodName), Cond.selects "WordRationModel" (⟨"WordRationModel", "drift", "(I)I"⟩ : MethodName) (⟨"WordRationModel", "drift", "(I)I"⟩ : MethodName), Cond.methodLink "WordRationModel" 309 (⟨"WordRationModel", "drawn", "()V"⟩ : MethodName), Cond.instanceMethod (⟨"WordRationModel", "drawn", "()V"⟩ : MethodName), Cond.methodLink "WordRationModel" 306 (⟨"WordRationModel", "draw", "(I)I"⟩ : MethodName), Cond.instanceMethod (⟨"WordRationModel", "draw", "(I)I"⟩ : MethodName), Cond.constantLong "WordRationModel" 299 1103515245, Cond.constantLong "WordRationModel" 301 12345, Cond.constantLong "WordRationModel" 303 2147483647, Cond.constant "WordRationModel" 305 65536, Cond.methodLink "WordRationLaw" 81 (⟨"WordRationModel", "undo", "()I"⟩ : MethodName), Cond.instanceMethod (⟨"WordRationModel", "undo", "()I"⟩ : MethodName), Cond.selects "WordRationModel" (⟨"WordRationModel", "undo", "()I"⟩ : MethodName) (⟨"WordRationModel", "undo", "()I"⟩ : MethodName), Cond.methodLink "WordRationLaw" 85 (⟨"WordRationModel", "cheapest", "(III)I"⟩ : MethodName), Cond.instanceMethod (⟨"WordRationModel", "cheapest", "(III)I"⟩ : MethodName)]
set_option maxRecDepth 100000 in
theorem zb17_in : ∀ w ∈ zb17, w ∈ zW := zin_l _ [1184, 1186, 1187, 1189, 1191, 1193, 1194, 1195, 1197, 1198, 1199, 1201, 1202, 1203, 1205, 1206, 1207, 1209, 1210, 1211, 1212, 1214, 1215, 1216, 1218, 1219, 1220, 1222, 1224, 1226, 1228, 1230, 1231, 1232, 1233, 1234, 1235, 1236, 1238, 1239] (by decide +kernel) (by decide +kernel)
theorem zu17 {w : Cond} (i : Nat) (h : zb17[i]? = some w) : w ∈ zW := zb17_in _ (List.mem_of_getElem? h)
def zb18 : List Cond := [Cond.selects "WordRationModel" (⟨"WordRationModel", "cheapest", "(III)I"⟩ : MethodName) (⟨"WordRationModel", "cheapest", "(III)I"⟩ : MethodName), Cond.methodLink "WordRationModel" 315 (⟨"WordRationModel", "costBy", "(III)I"⟩ : MethodName), Cond.instanceMethod (⟨"WordRationModel", "costBy", "(III)I"⟩ : MethodName), Cond.methodLink "WordRationModel" 312 (⟨"WordRationModel", "costOfWay", "(I)I"⟩ : MethodName), Cond.instanceMethod (⟨"WordRationModel", "costOfWay", "(I)I"⟩ : MethodName), Cond.methodLink "WordRationLaw" 89 (⟨"WordRationModel", "runsOut", "(I)I"⟩ : MethodName), Cond.instanceMethod (⟨"WordRationModel", "runsOut", "(I)I"⟩ : MethodName), Cond.selects "WordRationModel" (⟨"WordRationModel", "runsOut", "(I)I"⟩ : MethodName) (⟨"WordRationModel", "runsOut", "(I)I"⟩ : MethodName), Cond.methodLink "WordRationModel" 319 (⟨"WordRationModel", "layTried", "()V"⟩ : MethodName), Cond.instanceMethod (⟨"WordRationModel", "layTried", "()V"⟩ : MethodName), Cond.methodLink "WordRationLaw" 93 (⟨"WordRationModel", "willBe", "(I)I"⟩ : MethodName), Cond.instanceMethod (⟨"WordRationModel", "willBe", "(I)I"⟩ : MethodName), Cond.selects "WordRationModel" (⟨"WordRationModel", "willBe", "(I)I"⟩ : MethodName) (⟨"WordRationModel", "willBe", "(I)I"⟩ : MethodName), Cond.methodLink "WordRationLaw" 97 (⟨"WordRationModel", "plan", "(I)I"⟩ : MethodName), Cond.instanceMethod (⟨"WordRationModel", "plan", "(I)I"⟩ : MethodName), Cond.selects "WordRationModel" (⟨"WordRationModel", "plan", "(I)I"⟩ : MethodName) (⟨"WordRationModel", "plan", "(I)I"⟩ : MethodName), Cond.methodLink "WordRationModel" 356 (⟨"WordRationModel", "findPlan", "()V"⟩ : MethodName), Cond.instanceMethod (⟨"WordRationModel", "findPlan", "()V"⟩ : MethodName), Cond.methodLink "WordRationModel" 350 (⟨"WordRationModel", "comparePlan", "()V"⟩ : MethodName), Cond.instanceMethod (⟨"WordRationModel", "comparePlan", "()V"⟩ : MethodName), Cond.methodLink "WordRationModel" 337 (⟨"WordRationModel", "use", "(III)V"⟩ : MethodName), Cond.instanceMethod (⟨"WordRationModel", "use", "(III)V"⟩ : MethodName), Cond.methodLink "WordRationModel" 322 (⟨"WordRationModel", "wordsBy", "(II)I"⟩ : MethodName), Cond.instanceMethod (⟨"WordRationModel", "wordsBy", "(II)I"⟩ : MethodName), Cond.methodLink "WordRationModel" 328 (⟨"WordRationModel", "bits", "(I)I"⟩ : MethodName), Cond.static (⟨"WordRationModel", "bits", "(I)I"⟩ : MethodName), Cond.methodLink "WordRationModel" 353 (⟨"WordRationModel", "nextPick", "(I)I"⟩ : MethodName), Cond.instanceMethod (⟨"WordRationModel", "nextPick", "(I)I"⟩ : MethodName), Cond.methodLink "WordRationModel" 334 (⟨"WordRationModel", "fits", "(II)Z"⟩ : MethodName), Cond.instanceMethod (⟨"WordRationModel", "fits", "(II)Z"⟩ : MethodName), Cond.methodLink "WordRationLaw" 101 (⟨"WordRationModel", "price", "(I)I"⟩ : MethodName), Cond.instanceMethod (⟨"WordRationModel", "price", "(I)I"⟩ : MethodName), Cond.selects "WordRationModel" (⟨"WordRationModel", "price", "(I)I"⟩ : MethodName) (⟨"WordRationModel", "price", "(I)I"⟩ : MethodName), Cond.methodLink "WordRationModel" 359 (⟨"WordRationModel", "isOf", "(II)Z"⟩ : MethodName), Cond.instanceMethod (⟨"WordRationModel", "isOf", "(II)Z"⟩ : MethodName), Cond.methodLink "WordRationLaw" 105 (⟨"WordRationModel", "sells", "(II)I"⟩ : MethodName), Cond.instanceMethod (⟨"WordRationModel", "sells", "(II)I"⟩ : MethodName), Cond.selects "WordRationModel" (⟨"WordRationModel", "sells", "(II)I"⟩ : MethodName) (⟨"WordRationModel", "sells", "(II)I"⟩ : MethodName), Cond.methodLink "WordRationModel" 365 (⟨"WordRationModel", "doSell", "(III)Z"⟩ : MethodName), Cond.instanceMethod (⟨"WordRationModel", "doSell", "(III)Z"⟩ : MethodName)]
set_option maxRecDepth 100000 in
theorem zb18_in : ∀ w ∈ zb18, w ∈ zW := zin_l _ [1240, 1242, 1244, 1246, 1248, 1250, 1251, 1252, 1254, 1256, 1258, 1259, 1260, 1262, 1263, 1264, 1266, 1268, 1270, 1272, 1274, 1276, 1278, 1280, 1282, 1283, 1285, 1287, 1289, 1291, 1293, 1294, 1295, 1297, 1299, 1301, 1302, 1303, 1305, 1307] (by decide +kernel) (by decide +kernel)
theorem zu18 {w : Cond} (i : Nat) (h : zb18[i]? = some w) : w ∈ zW := zb18_in _ (List.mem_of_getElem? h)
def zb19 : List Cond := [Cond.methodLink "WordRationModel" 362 (⟨"WordRationModel", "needsOf", "(II)I"⟩ : MethodName), Cond.instanceMethod (⟨"WordRationModel", "needsOf", "(II)I"⟩ : MethodName), Cond.methodLink "WordRationLaw" 109 (⟨"WordRationModel", "share", "(II)I"⟩ : MethodName), Cond.instanceMethod (⟨"WordRationModel", "share", "(II)I"⟩ : MethodName), Cond.selects "WordRationModel" (⟨"WordRationModel", "share", "(II)I"⟩ : MethodName) (⟨"WordRationModel", "share", "(II)I"⟩ : MethodName), Cond.methodLink "WordRationLaw" 113 (⟨"WordRationModel", "more", "(I)I"⟩ : MethodName), Cond.instanceMethod (⟨"WordRationModel", "more", "(I)I"⟩ : MethodName), Cond.selects "WordRationModel" (⟨"WordRationModel", "more", "(I)I"⟩ : MethodName) (⟨"WordRationModel", "more", "(I)I"⟩ : MethodName), Cond.methodLink "WordRationLaw" 117 (⟨"WordRationModel", "fire", "(II)I"⟩ : MethodName), Cond.instanceMethod (⟨"WordRationModel", "fire", "(II)I"⟩ : MethodName), Cond.selects "WordRationModel" (⟨"WordRationModel", "fire", "(II)I"⟩ : MethodName) (⟨"WordRationModel", "fire", "(II)I"⟩ : MethodName), Cond.constantLong "WordRationModel" 369 9, Cond.constantLong "WordRationModel" 371 20, Cond.methodLink "WordRationLaw" 121 (⟨"WordRationModel", "rhymes", "(I)I"⟩ : MethodName), Cond.instanceMethod (⟨"WordRationModel", "rhymes", "(I)I"⟩ : MethodName), Cond.selects "WordRationModel" (⟨"WordRationModel", "rhymes", "(I)I"⟩ : MethodName) (⟨"WordRationModel", "rhymes", "(I)I"⟩ : MethodName), Cond.methodLink "WordRationLaw" 125 (⟨"WordRationModel", "silent", "(II)I"⟩ : MethodName), Cond.instanceMethod (⟨"WordRationModel", "silent", "(II)I"⟩ : MethodName), Cond.selects "WordRationModel" (⟨"WordRationModel", "silent", "(II)I"⟩ : MethodName) (⟨"WordRationModel", "silent", "(II)I"⟩ : MethodName), Cond.constantLong "WordRationModel" 373 100, Cond.constantLong "WordRationModel" 375 1000000000, Cond.methodLink "WordRationLaw" 130 (⟨"WordRationModel", "knot", "(IIZ)I"⟩ : MethodName), Cond.instanceMethod (⟨"WordRationModel", "knot", "(IIZ)I"⟩ : MethodName), Cond.selects "WordRationModel" (⟨"WordRationModel", "knot", "(IIZ)I"⟩ : MethodName) (⟨"WordRationModel", "knot", "(IIZ)I"⟩ : MethodName), Cond.constantLong "WordRationModel" 377 98, Cond.methodLink "WordRationLaw" 134 (⟨"WordRationModel", "who", "()I"⟩ : MethodName), Cond.instanceMethod (⟨"WordRationModel", "who", "()I"⟩ : MethodName), Cond.selects "WordRationModel" (⟨"WordRationModel", "who", "()I"⟩ : MethodName) (⟨"WordRationModel", "who", "()I"⟩ : MethodName), Cond.methodLink "WordRationModel" 382 (⟨"WordRationModel", "whoSaid", "()I"⟩ : MethodName), Cond.instanceMethod (⟨"WordRationModel", "whoSaid", "()I"⟩ : MethodName), Cond.methodLink "WordRationModel" 379 (⟨"WordRationModel", "wouldSay", "(III)Z"⟩ : MethodName), Cond.instanceMethod (⟨"WordRationModel", "wouldSay", "(III)Z"⟩ : MethodName), Cond.methodLink "WordRationLaw" 138 (⟨"WordRationModel", "ask", "()I"⟩ : MethodName), Cond.instanceMethod (⟨"WordRationModel", "ask", "()I"⟩ : MethodName), Cond.selects "WordRationModel" (⟨"WordRationModel", "ask", "()I"⟩ : MethodName) (⟨"WordRationModel", "ask", "()I"⟩ : MethodName), Cond.methodLink "WordRationLaw" 142 (⟨"WordRationModel", "write", "(II)I"⟩ : MethodName), Cond.instanceMethod (⟨"WordRationModel", "write", "(II)I"⟩ : MethodName), Cond.selects "WordRationModel" (⟨"WordRationModel", "write", "(II)I"⟩ : MethodName) (⟨"WordRationModel", "write", "(II)I"⟩ : MethodName), Cond.methodLink "WordRationLaw" 146 (⟨"WordRationModel", "tear", "()I"⟩ : MethodName), Cond.instanceMethod (⟨"WordRationModel", "tear", "()I"⟩ : MethodName)]
set_option maxRecDepth 100000 in
theorem zb19_in : ∀ w ∈ zb19, w ∈ zW := zin_l _ [1309, 1311, 1313, 1314, 1315, 1317, 1318, 1319, 1321, 1322, 1323, 1325, 1326, 1327, 1328, 1329, 1331, 1332, 1333, 1335, 1336, 1337, 1338, 1339, 1341, 1342, 1343, 1344, 1346, 1348, 1350, 1352, 1354, 1355, 1356, 1358, 1359, 1360, 1362, 1363] (by decide +kernel) (by decide +kernel)
theorem zu19 {w : Cond} (i : Nat) (h : zb19[i]? = some w) : w ∈ zW := zb19_in _ (List.mem_of_getElem? h)
def zb20 : List Cond := [Cond.selects "WordRationModel" (⟨"WordRationModel", "tear", "()I"⟩ : MethodName) (⟨"WordRationModel", "tear", "()I"⟩ : MethodName), Cond.methodLink "WordRationLaw" 150 (⟨"WordRationModel", "judge", "()I"⟩ : MethodName), Cond.instanceMethod (⟨"WordRationModel", "judge", "()I"⟩ : MethodName), Cond.selects "WordRationModel" (⟨"WordRationModel", "judge", "()I"⟩ : MethodName) (⟨"WordRationModel", "judge", "()I"⟩ : MethodName), Cond.methodLink "WordRationLaw" 154 (⟨"WordRationModel", "seed", "(I)I"⟩ : MethodName), Cond.instanceMethod (⟨"WordRationModel", "seed", "(I)I"⟩ : MethodName), Cond.selects "WordRationModel" (⟨"WordRationModel", "seed", "(I)I"⟩ : MethodName) (⟨"WordRationModel", "seed", "(I)I"⟩ : MethodName), Cond.methodLink "WordRationLaw" 158 (⟨"WordRationModel", "keep", "(I)I"⟩ : MethodName), Cond.instanceMethod (⟨"WordRationModel", "keep", "(I)I"⟩ : MethodName), Cond.selects "WordRationModel" (⟨"WordRationModel", "keep", "(I)I"⟩ : MethodName) (⟨"WordRationModel", "keep", "(I)I"⟩ : MethodName), Cond.methodLink "WordRationLaw" 162 (⟨"WordRationModel", "goBack", "(I)I"⟩ : MethodName), Cond.instanceMethod (⟨"WordRationModel", "goBack", "(I)I"⟩ : MethodName), Cond.selects "WordRationModel" (⟨"WordRationModel", "goBack", "(I)I"⟩ : MethodName) (⟨"WordRationModel", "goBack", "(I)I"⟩ : MethodName), Cond.code (⟨"WordRation", "<init>", "()V"⟩ : MethodName) prog_1_method_1_code 2 (Option.none : Option FieldType), Cond.code (⟨"java/lang/Object", "<init>", "()V"⟩ : MethodName) object_method_1_code 1 (Option.none : Option FieldType), Cond.code (⟨"WordRation$Text", "<init>", "()V"⟩ : MethodName) prog_8_method_1_code 1 (Option.none : Option FieldType), Cond.code (⟨"WordRation$Town", "<init>", "()V"⟩ : MethodName) prog_9_method_1_code 1 (Option.none : Option FieldType), Cond.code (⟨"WordRation$State", "<init>", "()V"⟩ : MethodName) prog_7_method_1_code 1 (Option.none : Option FieldType), Cond.code (⟨"WordRation$Past", "<init>", "()V"⟩ : MethodName) prog_5_method_1_code 2 (Option.none : Option FieldType), Cond.code (⟨"WordRation$Plan", "<init>", "()V"⟩ : MethodName) prog_6_method_1_code 1 (Option.none : Option FieldType), Cond.code (⟨"WordRation$Knots", "<init>", "()V"⟩ : MethodName) prog_4_method_1_code 1 (Option.none : Option FieldType), Cond.code (⟨"WordRation$Book", "<init>", "()V"⟩ : MethodName) prog_2_method_1_code 1 (Option.none : Option FieldType), Cond.code (⟨"WordRation$Image", "<init>", "()V"⟩ : MethodName) prog_3_method_1_code 1 (Option.none : Option FieldType), Cond.code (⟨"WordRation", "feed", "(I)I"⟩ : MethodName) prog_1_method_2_code 2 (Option.some .int), Cond.code (⟨"WordRation$Text", "isFull", "()Z"⟩ : MethodName) prog_8_method_2_code 1 (Option.some .boolean), Cond.code (⟨"WordRation$Text", "add", "(I)V"⟩ : MethodName) prog_8_method_3_code 2 (Option.none : Option FieldType), Cond.code (⟨"WordRation", "town", "()I"⟩ : MethodName) prog_1_method_3_code 3 (Option.some .int), Cond.code (⟨"WordRation$Text", "readInto", "(LWordRation$Town;)V"⟩ : MethodName) prog_8_method_5_code 3 (Option.none : Option FieldType), Cond.code (⟨"WordRation$Town", "clear", "()V"⟩ : MethodName) prog_9_method_2_code 2 (Option.none : Option FieldType), Cond.code (⟨"WordRation$Text", "skipBlanks", "()V"⟩ : MethodName) prog_8_method_13_code 2 (Option.none : Option FieldType), Cond.code (⟨"WordRation$Text", "readClause", "(LWordRation$Town;)V"⟩ : MethodName) prog_8_method_6_code 4 (Option.none : Option FieldType), Cond.code (⟨"WordRation$Text", "letterHere", "()I"⟩ : MethodName) prog_8_method_14_code 1 (Option.some .int), Cond.code (⟨"WordRation$Text", "faultOfName", "(LWordRation$Town;I)I"⟩ : MethodName) prog_8_method_7_code 3 (Option.some .int), Cond.code (⟨"WordRation$Text", "blame", "(II)V"⟩ : MethodName) prog_8_method_15_code 3 (Option.none : Option FieldType), Cond.code (⟨"WordRation$Text", "readNumber", "(II)I"⟩ : MethodName) prog_8_method_12_code 5 (Option.some .int), Cond.code (⟨"java/lang/Math", "min", "(II)I"⟩ : MethodName) prog_13_method_69_code 2 (Option.some .int), Cond.code (⟨"WordRation$Text", "readWord", "(LWordRation$Town;)V"⟩ : MethodName) prog_8_method_8_code 5 (Option.none : Option FieldType), Cond.code (⟨"WordRation$Town", "addWord", "(III)V"⟩ : MethodName) prog_9_method_3_code 4 (Option.none : Option FieldType), Cond.code (⟨"WordRation$Text", "readWay", "(LWordRation$Town;)V"⟩ : MethodName) prog_8_method_9_code 4 (Option.none : Option FieldType), Cond.code (⟨"WordRation$Town", "wayRound", "(II)I"⟩ : MethodName) prog_9_method_7_code 4 (Option.some .int)]
set_option maxRecDepth 100000 in
theorem zb20_in : ∀ w ∈ zb20, w ∈ zW := zin_l _ [1364, 1366, 1367, 1368, 1370, 1371, 1372, 1374, 1375, 1376, 1378, 1379, 1380, 18, 21, 26, 55, 135, 179, 201, 240, 261, 277, 335, 340, 345, 349, 353, 357, 361, 365, 369, 373, 377, 381, 384, 388, 392, 396, 400] rfl (by decide +kernel)
theorem zu20 {w : Cond} (i : Nat) (h : zb20[i]? = some w) : w ∈ zW := zb20_in _ (List.mem_of_getElem? h)
def zb21 : List Cond := [Cond.code (⟨"WordRation$Town", "addWay", "(II)V"⟩ : MethodName) prog_9_method_4_code 5 (Option.none : Option FieldType), Cond.code (⟨"WordRation$Text", "readPointing", "(LWordRation$Town;)V"⟩ : MethodName) prog_8_method_10_code 3 (Option.none : Option FieldType), Cond.code (⟨"WordRation$Town", "canPoint", "(I)Z"⟩ : MethodName) prog_9_method_8_code 2 (Option.some .boolean), Cond.code (⟨"WordRation$Town", "addPerson", "(Z)V"⟩ : MethodName) prog_9_method_5_code 2 (Option.none : Option FieldType), Cond.code (⟨"WordRation$Text", "readNeed", "(LWordRation$Town;)V"⟩ : MethodName) prog_8_method_11_code 6 (Option.none : Option FieldType), Cond.code (⟨"WordRation$Town", "addNeed", "(IIII)V"⟩ : MethodName) prog_9_method_6_code 5 (Option.none : Option FieldType), Cond.code (⟨"WordRation$Text", "empty", "()V"⟩ : MethodName) prog_8_method_4_code 1 (Option.none : Option FieldType), Cond.code (⟨"WordRation$State", "begin", "(LWordRation$Town;)V"⟩ : MethodName) prog_7_method_2_code 3 (Option.none : Option FieldType), Cond.code (⟨"WordRation$State", "beginYear", "()V"⟩ : MethodName) prog_7_method_18_code 2 (Option.none : Option FieldType), Cond.code (⟨"WordRation$Past", "forget", "()V"⟩ : MethodName) prog_5_method_2_code 1 (Option.none : Option FieldType), Cond.code (⟨"WordRation$Knots", "clear", "()V"⟩ : MethodName) prog_4_method_2_code 1 (Option.none : Option FieldType), Cond.code (⟨"WordRation$Book", "clear", "()V"⟩ : MethodName) prog_2_method_2_code 1 (Option.none : Option FieldType), Cond.code (⟨"WordRation", "fault", "()I"⟩ : MethodName) prog_1_method_4_code 1 (Option.some .int), Cond.code (⟨"WordRation", "told", "(I)I"⟩ : MethodName) prog_1_method_5_code 2 (Option.some .int), Cond.code (⟨"WordRation", "today", "()I"⟩ : MethodName) prog_1_method_41_code 1 (Option.some .int), Cond.code (⟨"WordRation$Town", "dayOfYear", "(I)I"⟩ : MethodName) prog_9_method_9_code 2 (Option.some .int), Cond.code (⟨"WordRation", "neverSaid", "()I"⟩ : MethodName) prog_1_method_42_code 3 (Option.some .int), Cond.code (⟨"WordRation", "word", "(II)I"⟩ : MethodName) prog_1_method_6_code 3 (Option.some .int), Cond.code (⟨"WordRation", "isWord", "(I)Z"⟩ : MethodName) prog_1_method_38_code 2 (Option.some .boolean), Cond.code (⟨"WordRation$State", "hoardedByAll", "(I)I"⟩ : MethodName) prog_7_method_6_code 4 (Option.some .int), Cond.code (⟨"WordRation$State", "hoardedBy", "(II)I"⟩ : MethodName) prog_7_method_4_code 3 (Option.some .int), Cond.code (⟨"WordRation", "hoarded", "(II)I"⟩ : MethodName) prog_1_method_7_code 3 (Option.some .int), Cond.code (⟨"WordRation", "isPerson", "(I)Z"⟩ : MethodName) prog_1_method_39_code 2 (Option.some .boolean), Cond.code (⟨"WordRation", "need", "(II)I"⟩ : MethodName) prog_1_method_8_code 3 (Option.some .int), Cond.code (⟨"WordRation", "isNeed", "(I)Z"⟩ : MethodName) prog_1_method_40_code 2 (Option.some .boolean), Cond.code (⟨"WordRation$Town", "isToCome", "(II)Z"⟩ : MethodName) prog_9_method_10_code 3 (Option.some .boolean), Cond.code (⟨"WordRation", "day", "(I)I"⟩ : MethodName) prog_1_method_9_code 4 (Option.some .int), Cond.code (⟨"WordRation", "refusalOfDays", "(I)I"⟩ : MethodName) prog_1_method_43_code 2 (Option.some .int), Cond.code (⟨"WordRation$Past", "remember", "(LWordRation$State;)V"⟩ : MethodName) prog_5_method_3_code 2 (Option.none : Option FieldType), Cond.code (⟨"WordRation$State", "copy", "(LWordRation$State;)V"⟩ : MethodName) prog_7_method_3_code 2 (Option.none : Option FieldType), Cond.code (⟨"WordRation$State", "passDay", "(LWordRation$Town;)V"⟩ : MethodName) prog_7_method_15_code 4 (Option.none : Option FieldType), Cond.code (⟨"WordRation$State", "meetOrLose", "(LWordRation$Town;I)V"⟩ : MethodName) prog_7_method_16_code 3 (Option.none : Option FieldType), Cond.code (⟨"WordRation$State", "meets", "(LWordRation$Town;II)Z"⟩ : MethodName) prog_7_method_17_code 6 (Option.some .boolean), Cond.code (⟨"WordRation$State", "canSay", "(II)Z"⟩ : MethodName) prog_7_method_9_code 3 (Option.some .boolean), Cond.code (⟨"WordRation$State", "sayable", "(II)I"⟩ : MethodName) prog_7_method_8_code 3 (Option.some .int), Cond.code (⟨"WordRation$State", "speak", "(II)V"⟩ : MethodName) prog_7_method_10_code 3 (Option.none : Option FieldType), Cond.code (⟨"WordRation$State", "addHoarded", "(III)V"⟩ : MethodName) prog_7_method_5_code 4 (Option.none : Option FieldType), Cond.code (⟨"WordRation$State", "counted", "(II)I"⟩ : MethodName) prog_7_method_19_code 2 (Option.some .int), Cond.code (⟨"WordRation$State", "canGo", "(II)Z"⟩ : MethodName) prog_7_method_11_code 4 (Option.some .boolean), Cond.code (⟨"WordRation$State", "go", "(II)V"⟩ : MethodName) prog_7_method_12_code 4 (Option.none : Option FieldType)]
set_option maxRecDepth 100000 in
theorem zb21_in : ∀ w ∈ zb21, w ∈ zW := zin_l _ [404, 408, 412, 416, 420, 424, 428, 432, 436, 440, 444, 448, 452, 456, 460, 464, 468, 472, 476, 481, 485, 491, 495, 500, 504, 508, 512, 516, 521, 525, 533, 538, 542, 546, 550, 554, 558, 561, 568, 572] rfl (by decide +kernel)
theorem zu21 {w : Cond} (i : Nat) (h : zb21[i]? = some w) : w ∈ zW := zb21_in _ (List.mem_of_getElem? h)
def zb22 : List Cond := [Cond.code (⟨"WordRation$State", "gesture", "()V"⟩ : MethodName) prog_7_method_13_code 1 (Option.none : Option FieldType), Cond.code (⟨"WordRation", "say", "(II)I"⟩ : MethodName) prog_1_method_10_code 3 (Option.some .int), Cond.code (⟨"WordRation", "around", "(III)I"⟩ : MethodName) prog_1_method_11_code 5 (Option.some .int), Cond.code (⟨"WordRation", "point", "(I)I"⟩ : MethodName) prog_1_method_12_code 2 (Option.some .int), Cond.code (⟨"WordRation", "hoard", "(III)I"⟩ : MethodName) prog_1_method_13_code 4 (Option.some .int), Cond.code (⟨"WordRation$State", "store", "(III)V"⟩ : MethodName) prog_7_method_14_code 4 (Option.none : Option FieldType), Cond.code (⟨"WordRation", "sell", "(IIII)I"⟩ : MethodName) prog_1_method_14_code 5 (Option.some .int), Cond.code (⟨"WordRation", "raise", "(II)I"⟩ : MethodName) prog_1_method_15_code 3 (Option.some .int), Cond.code (⟨"WordRation", "drift", "(I)I"⟩ : MethodName) prog_1_method_16_code 4 (Option.some .int), Cond.code (⟨"WordRation", "doByDraws", "()V"⟩ : MethodName) prog_1_method_45_code 4 (Option.none : Option FieldType), Cond.code (⟨"WordRation", "drawOf", "(I)I"⟩ : MethodName) prog_1_method_44_code 4 (Option.some .int), Cond.code (⟨"WordRation", "undo", "()I"⟩ : MethodName) prog_1_method_17_code 1 (Option.some .int), Cond.code (⟨"WordRation$Past", "returnTo", "(LWordRation$State;)V"⟩ : MethodName) prog_5_method_4_code 2 (Option.none : Option FieldType), Cond.code (⟨"WordRation", "cheapest", "(III)I"⟩ : MethodName) prog_1_method_18_code 4 (Option.some .int), Cond.code (⟨"WordRation", "workOutCheap", "(I)V"⟩ : MethodName) prog_1_method_46_code 6 (Option.none : Option FieldType), Cond.code (⟨"WordRation", "costBy", "(III)I"⟩ : MethodName) prog_1_method_48_code 4 (Option.some .int), Cond.code (⟨"WordRation", "cheapTogether", "(I)I"⟩ : MethodName) prog_1_method_49_code 4 (Option.some .int), Cond.code (⟨"WordRation", "cheapestKind", "(II)I"⟩ : MethodName) prog_1_method_47_code 4 (Option.some .int), Cond.code (⟨"WordRation", "runsOut", "(I)I"⟩ : MethodName) prog_1_method_19_code 4 (Option.some .int), Cond.code (⟨"WordRation", "willBe", "(I)I"⟩ : MethodName) prog_1_method_20_code 3 (Option.some .int), Cond.code (⟨"WordRation", "plan", "(I)I"⟩ : MethodName) prog_1_method_21_code 2 (Option.some .int), Cond.code (⟨"WordRation$Plan", "workOut", "(LWordRation$Town;LWordRation$State;)V"⟩ : MethodName) prog_6_method_2_code 3 (Option.none : Option FieldType), Cond.code (⟨"WordRation$Plan", "gather", "(LWordRation$Town;LWordRation$State;)V"⟩ : MethodName) prog_6_method_4_code 4 (Option.none : Option FieldType), Cond.code (⟨"WordRation$State", "supply", "(I)I"⟩ : MethodName) prog_7_method_7_code 2 (Option.some .int), Cond.code (⟨"WordRation$Plan", "gatherUses", "(LWordRation$Town;I)V"⟩ : MethodName) prog_6_method_5_code 6 (Option.none : Option FieldType), Cond.code (⟨"WordRation$Plan", "search", "(LWordRation$Plan;[IIII)V"⟩ : MethodName) prog_6_method_6_code 11 (Option.none : Option FieldType), Cond.code (⟨"WordRation$Plan", "mayBeBetter", "(II)Z"⟩ : MethodName) prog_6_method_7_code 3 (Option.some .boolean), Cond.code (⟨"WordRation$Plan", "take", "(II)V"⟩ : MethodName) prog_6_method_8_code 3 (Option.none : Option FieldType), Cond.code (⟨"WordRation$Plan", "affords", "(I)Z"⟩ : MethodName) prog_6_method_9_code 3 (Option.some .boolean), Cond.code (⟨"WordRation$Plan", "change", "(II)V"⟩ : MethodName) prog_6_method_10_code 4 (Option.none : Option FieldType), Cond.code (⟨"java/lang/Integer", "bitCount", "(I)I"⟩ : MethodName) prog_12_method_49_code 1 (Option.some .int), Cond.code (⟨"WordRation$Plan", "howMet", "(I)I"⟩ : MethodName) prog_6_method_3_code 2 (Option.some .int), Cond.code (⟨"WordRation", "price", "(I)I"⟩ : MethodName) prog_1_method_22_code 4 (Option.some .int), Cond.code (⟨"WordRation", "isToComeOf", "(II)Z"⟩ : MethodName) prog_1_method_50_code 3 (Option.some .boolean), Cond.code (⟨"WordRation", "rankByWorth", "(II)I"⟩ : MethodName) prog_1_method_51_code 7 (Option.some .int), Cond.code (⟨"WordRation", "sells", "(II)I"⟩ : MethodName) prog_1_method_23_code 6 (Option.some .int), Cond.code (⟨"WordRation", "wouldSell", "(III)Z"⟩ : MethodName) prog_1_method_53_code 4 (Option.some .boolean), Cond.code (⟨"WordRation", "needsToCome", "(II)I"⟩ : MethodName) prog_1_method_52_code 5 (Option.some .int), Cond.code (⟨"WordRation", "share", "(II)I"⟩ : MethodName) prog_1_method_24_code 9 (Option.some .int), Cond.code (⟨"WordRation", "more", "(I)I"⟩ : MethodName) prog_1_method_25_code 4 (Option.some .int)]
set_option maxRecDepth 100000 in
theorem zb22_in : ∀ w ∈ zb22, w ∈ zW := zin_l _ [577, 581, 588, 594, 599, 603, 607, 612, 616, 620, 624, 632, 636, 640, 644, 648, 652, 656, 660, 665, 669, 673, 677, 681, 688, 695, 699, 703, 708, 712, 715, 724, 728, 733, 737, 741, 745, 749, 753, 757] rfl (by decide +kernel)
theorem zu22 {w : Cond} (i : Nat) (h : zb22[i]? = some w) : w ∈ zW := zb22_in _ (List.mem_of_getElem? h)
def zb23 : List Cond := [Cond.code (⟨"java/lang/Math", "max", "(II)I"⟩ : MethodName) prog_13_method_65_code 2 (Option.some .int), Cond.code (⟨"WordRation", "fire", "(II)I"⟩ : MethodName) prog_1_method_26_code 5 (Option.some .int), Cond.code (⟨"WordRation", "oneNightMore", "(II)I"⟩ : MethodName) prog_1_method_54_code 4 (Option.some .int), Cond.code (⟨"WordRation", "rhymes", "(I)I"⟩ : MethodName) prog_1_method_27_code 5 (Option.some .int), Cond.code (⟨"WordRation", "silent", "(II)I"⟩ : MethodName) prog_1_method_28_code 6 (Option.some .int), Cond.code (⟨"WordRation", "knot", "(IIZ)I"⟩ : MethodName) prog_1_method_29_code 4 (Option.some .int), Cond.code (⟨"WordRation$Knots", "tie", "(IIZ)V"⟩ : MethodName) prog_4_method_3_code 4 (Option.none : Option FieldType), Cond.code (⟨"WordRation", "who", "()I"⟩ : MethodName) prog_1_method_30_code 1 (Option.some .int), Cond.code (⟨"WordRation$Knots", "fitting", "(LWordRation$Town;)I"⟩ : MethodName) prog_4_method_4_code 4 (Option.some .int), Cond.code (⟨"WordRation$Knots", "fits", "(LWordRation$Town;I)Z"⟩ : MethodName) prog_4_method_5_code 4 (Option.some .boolean), Cond.code (⟨"WordRation$Town", "wouldHaveSaid", "(III)Z"⟩ : MethodName) prog_9_method_11_code 6 (Option.some .boolean), Cond.code (⟨"WordRation", "ask", "()I"⟩ : MethodName) prog_1_method_31_code 7 (Option.some .int), Cond.code (⟨"WordRation", "greatestPart", "(III)I"⟩ : MethodName) prog_1_method_55_code 7 (Option.some .int), Cond.code (⟨"WordRation", "write", "(II)I"⟩ : MethodName) prog_1_method_32_code 3 (Option.some .int), Cond.code (⟨"WordRation$Book", "enter", "(II)V"⟩ : MethodName) prog_2_method_3_code 3 (Option.none : Option FieldType), Cond.code (⟨"WordRation", "tear", "()I"⟩ : MethodName) prog_1_method_33_code 2 (Option.some .int), Cond.code (⟨"WordRation", "judge", "()I"⟩ : MethodName) prog_1_method_34_code 1 (Option.some .int), Cond.code (⟨"WordRation$Book", "firstWrong", "(LWordRation$State;)I"⟩ : MethodName) prog_2_method_4_code 3 (Option.some .int), Cond.code (⟨"WordRation", "seed", "(I)I"⟩ : MethodName) prog_1_method_35_code 3 (Option.some .int), Cond.code (⟨"WordRation", "keep", "(I)I"⟩ : MethodName) prog_1_method_36_code 3 (Option.some .int), Cond.code (⟨"WordRation", "goBack", "(I)I"⟩ : MethodName) prog_1_method_37_code 3 (Option.some .int), Cond.code (⟨"WordRationModel", "<init>", "()V"⟩ : MethodName) prog_11_method_1_code 1 (Option.none : Option FieldType), Cond.code (⟨"WordRationModel", "feed", "(I)I"⟩ : MethodName) prog_11_method_14_code 2 (Option.some .int), Cond.code (⟨"WordRationModel", "in", "(JJJ)Z"⟩ : MethodName) prog_11_method_3_code 6 (Option.some .boolean), Cond.code (⟨"WordRationModel", "town", "()I"⟩ : MethodName) prog_11_method_29_code 2 (Option.some .int), Cond.code (⟨"WordRationModel", "readAll", "()V"⟩ : MethodName) prog_11_method_28_code 2 (Option.none : Option FieldType), Cond.code (⟨"WordRationModel", "letterNow", "()I"⟩ : MethodName) prog_11_method_16_code 1 (Option.some .int), Cond.code (⟨"WordRationModel", "readClause", "(I)V"⟩ : MethodName) prog_11_method_27_code 2 (Option.none : Option FieldType), Cond.code (⟨"WordRationModel", "bad", "(II)V"⟩ : MethodName) prog_11_method_15_code 3 (Option.none : Option FieldType), Cond.code (⟨"WordRationModel", "readYear", "()V"⟩ : MethodName) prog_11_method_26_code 1 (Option.none : Option FieldType), Cond.code (⟨"WordRationModel", "number", "(II)I"⟩ : MethodName) prog_11_method_18_code 6 (Option.some .int), Cond.code (⟨"WordRationModel", "isFigure", "(I)Z"⟩ : MethodName) prog_11_method_17_code 1 (Option.some .boolean), Cond.code (⟨"WordRationModel", "end", "()V"⟩ : MethodName) prog_11_method_20_code 1 (Option.none : Option FieldType), Cond.code (⟨"WordRationModel", "readWord", "()V"⟩ : MethodName) prog_11_method_21_code 4 (Option.none : Option FieldType), Cond.code (⟨"WordRationModel", "readWay", "()V"⟩ : MethodName) prog_11_method_22_code 5 (Option.none : Option FieldType), Cond.code (⟨"WordRationModel", "wordTold", "()I"⟩ : MethodName) prog_11_method_19_code 2 (Option.some .int), Cond.code (⟨"WordRationModel", "has", "(II)Z"⟩ : MethodName) prog_11_method_7_code 2 (Option.some .boolean), Cond.code (⟨"WordRationModel", "readPointing", "()V"⟩ : MethodName) prog_11_method_23_code 2 (Option.none : Option FieldType), Cond.code (⟨"WordRationModel", "readPerson", "()V"⟩ : MethodName) prog_11_method_24_code 2 (Option.none : Option FieldType), Cond.code (⟨"WordRationModel", "readNeed", "()V"⟩ : MethodName) prog_11_method_25_code 5 (Option.none : Option FieldType)]
set_option maxRecDepth 100000 in
theorem zb23_in : ∀ w ∈ zb23, w ∈ zW := zin_l _ [760, 764, 767, 771, 775, 781, 785, 789, 793, 797, 801, 805, 810, 815, 819, 823, 827, 831, 835, 839, 843, 848, 1028, 1032, 1038, 1042, 1046, 1050, 1054, 1058, 1062, 1065, 1069, 1073, 1077, 1081, 1084, 1088, 1092, 1096] rfl (by decide +kernel)
theorem zu23 {w : Cond} (i : Nat) (h : zb23[i]? = some w) : w ∈ zW := zb23_in _ (List.mem_of_getElem? h)
def zb24 : List Cond := [Cond.code (⟨"WordRationModel", "fault", "()I"⟩ : MethodName) prog_11_method_30_code 1 (Option.some .int), Cond.code (⟨"WordRationModel", "told", "(I)I"⟩ : MethodName) prog_11_method_34_code 5 (Option.some .int), Cond.code (⟨"WordRationModel", "dayNow", "()I"⟩ : MethodName) prog_11_method_31_code 1 (Option.some .int), Cond.code (⟨"WordRationModel", "word", "(II)I"⟩ : MethodName) prog_11_method_35_code 3 (Option.some .int), Cond.code (⟨"WordRationModel", "isWord", "(I)Z"⟩ : MethodName) prog_11_method_4_code 2 (Option.some .boolean), Cond.code (⟨"WordRationModel", "hoardedOf", "([II)I"⟩ : MethodName) prog_11_method_33_code 5 (Option.some .int), Cond.code (⟨"WordRationModel", "hoarded", "(II)I"⟩ : MethodName) prog_11_method_36_code 3 (Option.some .int), Cond.code (⟨"WordRationModel", "isPerson", "(I)Z"⟩ : MethodName) prog_11_method_5_code 2 (Option.some .boolean), Cond.code (⟨"WordRationModel", "need", "(II)I"⟩ : MethodName) prog_11_method_37_code 3 (Option.some .int), Cond.code (⟨"WordRationModel", "isNeed", "(I)Z"⟩ : MethodName) prog_11_method_6_code 2 (Option.some .boolean), Cond.code (⟨"WordRationModel", "isToCome", "(I)Z"⟩ : MethodName) prog_11_method_32_code 2 (Option.some .boolean), Cond.code (⟨"WordRationModel", "dayOf", "(I)I"⟩ : MethodName) prog_11_method_12_code 2 (Option.some .int), Cond.code (⟨"WordRationModel", "day", "(I)I"⟩ : MethodName) prog_11_method_45_code 4 (Option.some .int), Cond.code (⟨"WordRationModel", "keepAct", "()V"⟩ : MethodName) prog_11_method_38_code 2 (Option.none : Option FieldType), Cond.code (⟨"WordRationModel", "goOn", "([I)I"⟩ : MethodName) prog_11_method_44_code 5 (Option.some .int), Cond.code (⟨"WordRationModel", "meets", "([II)Z"⟩ : MethodName) prog_11_method_43_code 6 (Option.some .boolean), Cond.code (⟨"WordRationModel", "person", "(I)I"⟩ : MethodName) prog_11_method_10_code 2 (Option.some .int), Cond.code (⟨"WordRationModel", "wordOf", "(I)I"⟩ : MethodName) prog_11_method_11_code 2 (Option.some .int), Cond.code (⟨"WordRationModel", "canSay", "([III)Z"⟩ : MethodName) prog_11_method_39_code 3 (Option.some .boolean), Cond.code (⟨"WordRationModel", "says", "([III)V"⟩ : MethodName) prog_11_method_40_code 3 (Option.none : Option FieldType), Cond.code (⟨"WordRationModel", "up", "(II)I"⟩ : MethodName) prog_11_method_9_code 2 (Option.some .int), Cond.code (⟨"WordRationModel", "canGo", "([III)Z"⟩ : MethodName) prog_11_method_41_code 5 (Option.some .boolean), Cond.code (⟨"WordRationModel", "goes", "([III)V"⟩ : MethodName) prog_11_method_42_code 4 (Option.none : Option FieldType), Cond.code (⟨"WordRationModel", "worthOf", "(I)I"⟩ : MethodName) prog_11_method_13_code 2 (Option.some .int), Cond.code (⟨"WordRationModel", "say", "(II)I"⟩ : MethodName) prog_11_method_46_code 3 (Option.some .int), Cond.code (⟨"WordRationModel", "around", "(III)I"⟩ : MethodName) prog_11_method_47_code 5 (Option.some .int), Cond.code (⟨"WordRationModel", "point", "(I)I"⟩ : MethodName) prog_11_method_48_code 2 (Option.some .int), Cond.code (⟨"WordRationModel", "hoard", "(III)I"⟩ : MethodName) prog_11_method_49_code 4 (Option.some .int), Cond.code (⟨"WordRationModel", "sell", "(IIII)I"⟩ : MethodName) prog_11_method_50_code 5 (Option.some .int), Cond.code (⟨"WordRationModel", "raise", "(II)I"⟩ : MethodName) prog_11_method_51_code 3 (Option.some .int), Cond.code (⟨"WordRationModel", "drift", "(I)I"⟩ : MethodName) prog_11_method_54_code 4 (Option.some .int), Cond.code (⟨"WordRationModel", "drawn", "()V"⟩ : MethodName) prog_11_method_53_code 4 (Option.none : Option FieldType), Cond.code (⟨"WordRationModel", "draw", "(I)I"⟩ : MethodName) prog_11_method_52_code 2 (Option.some .int), Cond.code (⟨"WordRationModel", "undo", "()I"⟩ : MethodName) prog_11_method_55_code 2 (Option.some .int), Cond.code (⟨"WordRationModel", "cheapest", "(III)I"⟩ : MethodName) prog_11_method_59_code 8 (Option.some .int), Cond.code (⟨"WordRationModel", "costBy", "(III)I"⟩ : MethodName) prog_11_method_58_code 4 (Option.some .int), Cond.code (⟨"WordRationModel", "costOfWay", "(I)I"⟩ : MethodName) prog_11_method_57_code 4 (Option.some .int), Cond.code (⟨"WordRationModel", "runsOut", "(I)I"⟩ : MethodName) prog_11_method_60_code 5 (Option.some .int), Cond.code (⟨"WordRationModel", "layTried", "()V"⟩ : MethodName) prog_11_method_56_code 2 (Option.none : Option FieldType), Cond.code (⟨"WordRationModel", "willBe", "(I)I"⟩ : MethodName) prog_11_method_61_code 4 (Option.some .int)]
set_option maxRecDepth 100000 in
theorem zb24_in : ∀ w ∈ zb24, w ∈ zW := zin_l _ [1100, 1104, 1108, 1112, 1116, 1121, 1125, 1129, 1133, 1137, 1142, 1146, 1150, 1156, 1160, 1164, 1168, 1172, 1175, 1178, 1181, 1185, 1188, 1192, 1196, 1200, 1204, 1208, 1213, 1217, 1221, 1225, 1229, 1237, 1241, 1245, 1249, 1253, 1257, 1261] rfl (by decide +kernel)
theorem zu24 {w : Cond} (i : Nat) (h : zb24[i]? = some w) : w ∈ zW := zb24_in _ (List.mem_of_getElem? h)
def zb25 : List Cond := [Cond.code (⟨"WordRationModel", "plan", "(I)I"⟩ : MethodName) prog_11_method_68_code 4 (Option.some .int), Cond.code (⟨"WordRationModel", "findPlan", "()V"⟩ : MethodName) prog_11_method_67_code 2 (Option.none : Option FieldType), Cond.code (⟨"WordRationModel", "comparePlan", "()V"⟩ : MethodName) prog_11_method_66_code 2 (Option.none : Option FieldType), Cond.code (⟨"WordRationModel", "use", "(III)V"⟩ : MethodName) prog_11_method_63_code 6 (Option.none : Option FieldType), Cond.code (⟨"WordRationModel", "wordsBy", "(II)I"⟩ : MethodName) prog_11_method_62_code 4 (Option.some .int), Cond.code (⟨"WordRationModel", "bits", "(I)I"⟩ : MethodName) prog_11_method_8_code 3 (Option.some .int), Cond.code (⟨"WordRationModel", "nextPick", "(I)I"⟩ : MethodName) prog_11_method_65_code 3 (Option.some .int), Cond.code (⟨"WordRationModel", "fits", "(II)Z"⟩ : MethodName) prog_11_method_64_code 6 (Option.some .boolean), Cond.code (⟨"WordRationModel", "price", "(I)I"⟩ : MethodName) prog_11_method_71_code 6 (Option.some .int), Cond.code (⟨"WordRationModel", "isOf", "(II)Z"⟩ : MethodName) prog_11_method_69_code 3 (Option.some .boolean), Cond.code (⟨"WordRationModel", "sells", "(II)I"⟩ : MethodName) prog_11_method_73_code 6 (Option.some .int), Cond.code (⟨"WordRationModel", "doSell", "(III)Z"⟩ : MethodName) prog_11_method_72_code 4 (Option.some .boolean), Cond.code (⟨"WordRationModel", "needsOf", "(II)I"⟩ : MethodName) prog_11_method_70_code 5 (Option.some .int), Cond.code (⟨"WordRationModel", "share", "(II)I"⟩ : MethodName) prog_11_method_74_code 6 (Option.some .int), Cond.code (⟨"WordRationModel", "more", "(I)I"⟩ : MethodName) prog_11_method_75_code 5 (Option.some .int), Cond.code (⟨"WordRationModel", "fire", "(II)I"⟩ : MethodName) prog_11_method_76_code 8 (Option.some .int), Cond.code (⟨"WordRationModel", "rhymes", "(I)I"⟩ : MethodName) prog_11_method_77_code 5 (Option.some .int), Cond.code (⟨"WordRationModel", "silent", "(II)I"⟩ : MethodName) prog_11_method_78_code 6 (Option.some .int), Cond.code (⟨"WordRationModel", "knot", "(IIZ)I"⟩ : MethodName) prog_11_method_79_code 4 (Option.some .int), Cond.code (⟨"WordRationModel", "who", "()I"⟩ : MethodName) prog_11_method_82_code 1 (Option.some .int), Cond.code (⟨"WordRationModel", "whoSaid", "()I"⟩ : MethodName) prog_11_method_81_code 5 (Option.some .int), Cond.code (⟨"WordRationModel", "wouldSay", "(III)Z"⟩ : MethodName) prog_11_method_80_code 6 (Option.some .boolean), Cond.code (⟨"WordRationModel", "ask", "()I"⟩ : MethodName) prog_11_method_83_code 9 (Option.some .int), Cond.code (⟨"WordRationModel", "write", "(II)I"⟩ : MethodName) prog_11_method_84_code 3 (Option.some .int), Cond.code (⟨"WordRationModel", "tear", "()I"⟩ : MethodName) prog_11_method_85_code 2 (Option.some .int), Cond.code (⟨"WordRationModel", "judge", "()I"⟩ : MethodName) prog_11_method_86_code 2 (Option.some .int), Cond.code (⟨"WordRationModel", "seed", "(I)I"⟩ : MethodName) prog_11_method_87_code 3 (Option.some .int), Cond.code (⟨"WordRationModel", "keep", "(I)I"⟩ : MethodName) prog_11_method_88_code 3 (Option.some .int), Cond.code (⟨"WordRationModel", "goBack", "(I)I"⟩ : MethodName) prog_11_method_89_code 3 (Option.some .int)]
set_option maxRecDepth 100000 in
theorem zb25_in : ∀ w ∈ zb25, w ∈ zW := zin_l _ [1265, 1269, 1273, 1277, 1281, 1284, 1288, 1292, 1296, 1300, 1304, 1308, 1312, 1316, 1320, 1324, 1330, 1334, 1340, 1345, 1349, 1353, 1357, 1361, 1365, 1369, 1373, 1377, 1381] rfl (by decide +kernel)
theorem zu25 {w : Cond} (i : Nat) (h : zb25[i]? = some w) : w ∈ zW := zb25_in _ (List.mem_of_getElem? h)
theorem zI_X0 : ∀ w ∈ u_ws RX0 TX0 3, w ∈ zW := zin_l _ [267, 269, 271] (by decide +kernel) (by decide +kernel)
theorem zI_X1 : ∀ w ∈ u_ws RX1 TX1 3, w ∈ zW := zin_l _ [285, 287, 289] (by decide +kernel) (by decide +kernel)
theorem zI_X2 : ∀ w ∈ u_ws RX2 TX2 4, w ∈ zW := zin_l _ [247, 249, 251, 253] (by decide +kernel) (by decide +kernel)
theorem zI_X3 : ∀ w ∈ u_ws RX3 TX3 3, w ∈ zW := zin_l _ [188, 190, 192] (by decide +kernel) (by decide +kernel)
theorem zI_X4 : ∀ w ∈ u_ws RX4 TX4 10, w ∈ zW := zin_l _ [215, 217, 219, 221, 223, 225, 227, 229, 231, 233] (by decide +kernel) (by decide +kernel)
theorem zI_X5 : ∀ w ∈ u_ws RX5 TX5 9, w ∈ zW := zin_l _ [156, 158, 160, 162, 164, 166, 168, 170, 172] (by decide +kernel) (by decide +kernel)
theorem zI_X6 : ∀ w ∈ u_ws RX6 TX6 6, w ∈ zW := zin_l _ [37, 39, 41, 43, 45, 47] (by decide +kernel) (by decide +kernel)
theorem zI_X7 : ∀ w ∈ u_ws RX7 TX7 15, w ∈ zW := zin_l _ [100, 102, 104, 106, 108, 110, 112, 114, 116, 118, 120, 122, 124, 126, 128] (by decide +kernel) (by decide +kernel)
theorem zI_X8 : ∀ w ∈ u_ws RX8 TX8 13, w ∈ zW := zin_l _ [305, 307, 309, 311, 313, 315, 317, 319, 321, 323, 325, 327, 329] (by decide +kernel) (by decide +kernel)
theorem zI_X9 : ∀ w ∈ u_ws RX9 TX9 58, w ∈ zW := zin_l _ [908, 910, 912, 914, 916, 918, 920, 922, 924, 926, 928, 930, 932, 934, 936, 938, 940, 942, 944, 946, 948, 950, 952, 954, 956, 958, 960, 962, 964, 966, 968, 970, 972, 974, 976, 978, 980, 982, 984, 986, 988, 990, 992, 994, 996, 998, 1000, 1002, 1004, 1006, 1008, 1010, 1012, 1014, 1016, 1018, 1020, 1022] (by decide +kernel) (by decide +kernel)
theorem zm_X0_3 : Cond.methodLink RX0 3 Lib.objectInit ∈ zW := zu3 23 rfl
theorem zf_X0_9 : zFk RX0 9 0 0 3 2 true := ⟨RX0, TX0, tyX0, rfl, zI_X0, tyX0_ok, nmX0, by decide, by decide, zu3 24 rfl, rfl, by decide +kernel, (fun h => by cases h), (fun h => by cases h), (fun h a => ⟨rfl, rfl⟩), rfl⟩
theorem zf_X0_15 : zFk RX0 15 0 1 3 2 true := ⟨RX0, TX0, tyX0, rfl, zI_X0, tyX0_ok, nmX0, by decide, by decide, zu3 25 rfl, rfl, by decide +kernel, (fun h => by cases h), (fun h => by cases h), (fun h a => ⟨rfl, rfl⟩), rfl⟩
theorem zf_X0_18 : zFk RX0 18 0 2 3 0 false := ⟨RX0, TX0, tyX0, rfl, zI_X0, tyX0_ok, nmX0, by decide, by decide, zu3 26 rfl, rfl, by decide +kernel, (fun h => rfl), (fun h => by cases h), (fun h a => by cases h), rfl⟩
theorem zf_X0_22 : zFk RX0 22 5 1 9 2 true := ⟨RX5, TX5, tyX5, rfl, zI_X5, tyX5_ok, nmX5, by decide, by decide, zu2 7 rfl, rfl, by decide +kernel, (fun h => by cases h), (fun h => by cases h), (fun h a => ⟨rfl, rfl⟩), rfl⟩
theorem zm_X1_1 : Cond.methodLink RX1 1 Lib.objectInit ∈ zW := zu3 30 rfl
theorem zn_X1_7 : zNk RX1 7 5 9 := ⟨RX5, TX5, tyX5, rfl, zI_X5, tyX5_ok, by decide, zu3 31 rfl, zu2 1 rfl, zu0 3 rfl, by decide +kernel⟩
theorem zm_X1_9 : (RX1, 9, yX5_init, RX8) ∈ zNM := by simp [zNM]
theorem zf_X1_10 : zFk RX1 10 1 0 3 2 true := ⟨RX1, TX1, tyX1, rfl, zI_X1, tyX1_ok, nmX1, by decide, by decide, zu3 32 rfl, rfl, by decide +kernel, (fun h => by cases h), (fun h => by cases h), (fun h a => ⟨rfl, rfl⟩), rfl⟩
theorem zm_X2_3 : Cond.methodLink RX2 3 Lib.objectInit ∈ zW := zu3 13 rfl
theorem zf_X2_9 : zFk RX2 9 2 0 4 2 true := ⟨RX2, TX2, tyX2, rfl, zI_X2, tyX2_ok, nmX2, by decide, by decide, zu3 14 rfl, rfl, by decide +kernel, (fun h => by cases h), (fun h => by cases h), (fun h a => ⟨rfl, rfl⟩), rfl⟩
theorem zf_X2_15 : zFk RX2 15 2 1 4 2 true := ⟨RX2, TX2, tyX2, rfl, zI_X2, tyX2_ok, nmX2, by decide, by decide, zu3 15 rfl, rfl, by decide +kernel, (fun h => by cases h), (fun h => by cases h), (fun h a => ⟨rfl, rfl⟩), rfl⟩
theorem zf_X2_18 : zFk RX2 18 2 2 4 2 true := ⟨RX2, TX2, tyX2, rfl, zI_X2, tyX2_ok, nmX2, by decide, by decide, zu3 16 rfl, rfl, by decide +kernel, (fun h => by cases h), (fun h => by cases h), (fun h a => ⟨rfl, rfl⟩), rfl⟩
theorem zf_X2_22 : zFk RX2 22 2 3 4 0 false := ⟨RX2, TX2, tyX2, rfl, zI_X2, tyX2_ok, nmX2, by decide, by decide, zu3 17 rfl, rfl, by decide +kernel, (fun h => rfl), (fun h => by cases h), (fun h a => by cases h), rfl⟩
theorem zf_X2_26 : zFk RX2 26 7 3 15 0 false := ⟨RX7, TX7, tyX7, rfl, zI_X7, tyX7_ok, nmX7, by decide, by decide, zu1 8 rfl, rfl, by decide +kernel, (fun h => rfl), (fun h => by cases h), (fun h a => by cases h), rfl⟩
theorem zm_X2_31 : Cond.methodLink RX2 31 yX2_fits ∈ zW := zu12 6 rfl
theorem zm_X2_35 : Cond.methodLink RX2 35 yX7_wouldHaveSaid ∈ zW := zu12 8 rfl
theorem zm_X3_3 : Cond.methodLink RX3 3 Lib.objectInit ∈ zW := zu2 27 rfl
theorem zq_X3_9 : Cond.classLink RX3 9 "WordRation$State" ∈ zW := zu2 28 rfl
theorem zf_X3_11 : zFk RX3 11 3 0 3 2 true := ⟨RX3, TX3, tyX3, rfl, zI_X3, tyX3_ok, nmX3, by decide, by decide, zu2 29 rfl, rfl, by decide +kernel, (fun h => by cases h), (fun h => by cases h), (fun h a => ⟨rfl, rfl⟩), rfl⟩
theorem zn_X3_9 : zNk RX3 9 5 9 := ⟨RX5, TX5, tyX5, rfl, zI_X5, tyX5_ok, by decide, zu2 28 rfl, zu2 1 rfl, zu0 3 rfl, by decide +kernel⟩
theorem zm_X3_17 : (RX3, 17, yX5_init, RX8) ∈ zNM := by simp [zNM]
theorem zf_X3_18 : zFk RX3 18 3 2 3 0 false := ⟨RX3, TX3, tyX3, rfl, zI_X3, tyX3_ok, nmX3, by decide, by decide, zu2 31 rfl, rfl, by decide +kernel, (fun h => rfl), (fun h => by cases h), (fun h a => by cases h), rfl⟩
theorem zf_X3_22 : zFk RX3 22 3 1 3 0 false := ⟨RX3, TX3, tyX3, rfl, zI_X3, tyX3_ok, nmX3, by decide, by decide, zu2 30 rfl, rfl, by decide +kernel, (fun h => rfl), (fun h => by cases h), (fun h a => by cases h), rfl⟩
theorem zm_X3_25 : Cond.methodLink RX3 25 yX5_copy ∈ zW := zu7 16 rfl
theorem zm_X3_29 : Cond.methodLink RX3 29 yJ9_min_7cf53 ∈ zW := zu7 22 rfl
theorem zm_X4_3 : Cond.methodLink RX4 3 Lib.objectInit ∈ zW := zu2 37 rfl
theorem zf_X4_9 : zFk RX4 9 4 0 10 2 true := ⟨RX4, TX4, tyX4, rfl, zI_X4, tyX4_ok, nmX4, by decide, by decide, zu2 38 rfl, rfl, by decide +kernel, (fun h => by cases h), (fun h => by cases h), (fun h a => ⟨rfl, rfl⟩), rfl⟩
theorem zf_X4_15 : zFk RX4 15 4 1 10 2 true := ⟨RX4, TX4, tyX4, rfl, zI_X4, tyX4_ok, nmX4, by decide, by decide, zu2 39 rfl, rfl, by decide +kernel, (fun h => by cases h), (fun h => by cases h), (fun h a => ⟨rfl, rfl⟩), rfl⟩
theorem zf_X4_18 : zFk RX4 18 4 2 10 2 true := ⟨RX4, TX4, tyX4, rfl, zI_X4, tyX4_ok, nmX4, by decide, by decide, zu3 0 rfl, rfl, by decide +kernel, (fun h => by cases h), (fun h => by cases h), (fun h a => ⟨rfl, rfl⟩), rfl⟩
theorem zf_X4_21 : zFk RX4 21 4 3 10 2 true := ⟨RX4, TX4, tyX4, rfl, zI_X4, tyX4_ok, nmX4, by decide, by decide, zu3 1 rfl, rfl, by decide +kernel, (fun h => by cases h), (fun h => by cases h), (fun h a => ⟨rfl, rfl⟩), rfl⟩
theorem zf_X4_24 : zFk RX4 24 4 4 10 2 true := ⟨RX4, TX4, tyX4, rfl, zI_X4, tyX4_ok, nmX4, by decide, by decide, zu3 2 rfl, rfl, by decide +kernel, (fun h => by cases h), (fun h => by cases h), (fun h a => ⟨rfl, rfl⟩), rfl⟩
theorem zf_X4_27 : zFk RX4 27 4 5 10 2 true := ⟨RX4, TX4, tyX4, rfl, zI_X4, tyX4_ok, nmX4, by decide, by decide, zu3 3 rfl, rfl, by decide +kernel, (fun h => by cases h), (fun h => by cases h), (fun h a => ⟨rfl, rfl⟩), rfl⟩
theorem zf_X4_30 : zFk RX4 30 4 6 10 2 true := ⟨RX4, TX4, tyX4, rfl, zI_X4, tyX4_ok, nmX4, by decide, by decide, zu3 4 rfl, rfl, by decide +kernel, (fun h => by cases h), (fun h => by cases h), (fun h a => ⟨rfl, rfl⟩), rfl⟩
theorem zm_X4_33 : Cond.methodLink RX4 33 yX4_gather ∈ zW := zu10 7 rfl
theorem zf_X4_37 : zFk RX4 37 4 8 10 0 false := ⟨RX4, TX4, tyX4, rfl, zI_X4, tyX4_ok, nmX4, by decide, by decide, zu3 6 rfl, rfl, by decide +kernel, (fun h => rfl), (fun h => by cases h), (fun h a => by cases h), rfl⟩
theorem zf_X4_41 : zFk RX4 41 4 9 10 0 false := ⟨RX4, TX4, tyX4, rfl, zI_X4, tyX4_ok, nmX4, by decide, by decide, zu3 8 rfl, rfl, by decide +kernel, (fun h => rfl), (fun h => by cases h), (fun h a => by cases h), rfl⟩
theorem zm_X4_47 : Cond.methodLink RX4 47 yX4_search ∈ zW := zu10 19 rfl
theorem zm_X4_54 : Cond.methodLink RX4 54 yX5_supply ∈ zW := zu10 9 rfl
theorem zf_X4_59 : zFk RX4 59 4 7 10 0 false := ⟨RX4, TX4, tyX4, rfl, zI_X4, tyX4_ok, nmX4, by decide, by decide, zu3 5 rfl, rfl, by decide +kernel, (fun h => rfl), (fun h => by cases h), (fun h a => by cases h), rfl⟩
theorem zf_X4_62 : zFk RX4 62 7 4 15 0 false := ⟨RX7, TX7, tyX7, rfl, zI_X7, tyX7_ok, nmX7, by decide, by decide, zu1 12 rfl, rfl, by decide +kernel, (fun h => rfl), (fun h => by cases h), (fun h a => by cases h), rfl⟩
theorem zf_X4_67 : zFk RX4 67 5 4 9 0 false := ⟨RX5, TX5, tyX5, rfl, zI_X5, tyX5_ok, nmX5, by decide, by decide, zu2 13 rfl, rfl, by decide +kernel, (fun h => rfl), (fun h => by cases h), (fun h a => by cases h), rfl⟩
theorem zm_X4_70 : Cond.methodLink RX4 70 yX7_dayOfYear ∈ zW := zu10 13 rfl
theorem zm_X4_73 : Cond.methodLink RX4 73 yX7_isToCome ∈ zW := zu10 14 rfl
theorem zf_X4_77 : zFk RX4 77 7 14 15 2 true := ⟨RX7, TX7, tyX7, rfl, zI_X7, tyX7_ok, nmX7, by decide, by decide, zu1 37 rfl, rfl, by decide +kernel, (fun h => by cases h), (fun h => by cases h), (fun h a => ⟨rfl, rfl⟩), rfl⟩
theorem zf_X4_80 : zFk RX4 80 7 12 15 2 true := ⟨RX7, TX7, tyX7, rfl, zI_X7, tyX7_ok, nmX7, by decide, by decide, zu1 30 rfl, rfl, by decide +kernel, (fun h => by cases h), (fun h => by cases h), (fun h a => ⟨rfl, rfl⟩), rfl⟩
theorem zm_X4_83 : Cond.methodLink RX4 83 yX4_gatherUses ∈ zW := zu10 15 rfl
theorem zm_X4_87 : Cond.methodLink RX4 87 yX7_wayRound ∈ zW := zu10 17 rfl
theorem zm_X4_91 : Cond.methodLink RX4 91 yX7_canPoint ∈ zW := zu10 18 rfl
theorem zm_X4_95 : Cond.methodLink RX4 95 yX4_mayBeBetter ∈ zW := zu10 21 rfl
theorem zm_X4_98 : Cond.methodLink RX4 98 yX4_take ∈ zW := zu10 23 rfl
theorem zm_X4_102 : Cond.methodLink RX4 102 yX4_affords ∈ zW := zu10 26 rfl
theorem zm_X4_105 : Cond.methodLink RX4 105 yX4_change ∈ zW := zu10 28 rfl
theorem zm_X4_108 : Cond.methodLink RX4 108 yJ6_bitCount_0f7a4 ∈ zW := zu10 30 rfl
theorem zm_X4_113 : Cond.methodLink RX4 113 arraycopyName ∈ zW := zu10 25 rfl
theorem zm_X5_3 : Cond.methodLink RX5 3 Lib.objectInit ∈ zW := zu2 3 rfl
theorem zf_X5_9 : zFk RX5 9 5 0 9 2 true := ⟨RX5, TX5, tyX5, rfl, zI_X5, tyX5_ok, nmX5, by decide, by decide, zu2 4 rfl, rfl, by decide +kernel, (fun h => by cases h), (fun h => by cases h), (fun h a => ⟨rfl, rfl⟩), rfl⟩
theorem zf_X5_15 : zFk RX5 15 5 1 9 2 true := ⟨RX5, TX5, tyX5, rfl, zI_X5, tyX5_ok, nmX5, by decide, by decide, zu2 6 rfl, rfl, by decide +kernel, (fun h => by cases h), (fun h => by cases h), (fun h a => ⟨rfl, rfl⟩), rfl⟩
theorem zf_X5_18 : zFk RX5 18 5 2 9 2 true := ⟨RX5, TX5, tyX5, rfl, zI_X5, tyX5_ok, nmX5, by decide, by decide, zu2 9 rfl, rfl, by decide +kernel, (fun h => by cases h), (fun h => by cases h), (fun h a => ⟨rfl, rfl⟩), rfl⟩
theorem zf_X5_21 : zFk RX5 21 5 3 9 2 true := ⟨RX5, TX5, tyX5, rfl, zI_X5, tyX5_ok, nmX5, by decide, by decide, zu2 11 rfl, rfl, by decide +kernel, (fun h => by cases h), (fun h => by cases h), (fun h a => ⟨rfl, rfl⟩), rfl⟩
theorem zf_X5_24 : zFk RX5 24 5 4 9 0 false := ⟨RX5, TX5, tyX5, rfl, zI_X5, tyX5_ok, nmX5, by decide, by decide, zu2 12 rfl, rfl, by decide +kernel, (fun h => rfl), (fun h => by cases h), (fun h a => by cases h), rfl⟩
theorem zf_X5_28 : zFk RX5 28 5 5 9 0 false := ⟨RX5, TX5, tyX5, rfl, zI_X5, tyX5_ok, nmX5, by decide, by decide, zu2 15 rfl, rfl, by decide +kernel, (fun h => rfl), (fun h => by cases h), (fun h a => by cases h), rfl⟩
theorem zf_X5_31 : zFk RX5 31 5 6 9 0 false := ⟨RX5, TX5, tyX5, rfl, zI_X5, tyX5_ok, nmX5, by decide, by decide, zu2 17 rfl, rfl, by decide +kernel, (fun h => rfl), (fun h => by cases h), (fun h a => by cases h), rfl⟩
theorem zf_X5_34 : zFk RX5 34 5 7 9 0 false := ⟨RX5, TX5, tyX5, rfl, zI_X5, tyX5_ok, nmX5, by decide, by decide, zu2 19 rfl, rfl, by decide +kernel, (fun h => rfl), (fun h => by cases h), (fun h a => by cases h), rfl⟩
theorem zf_X5_37 : zFk RX5 37 5 8 9 0 false := ⟨RX5, TX5, tyX5, rfl, zI_X5, tyX5_ok, nmX5, by decide, by decide, zu2 21 rfl, rfl, by decide +kernel, (fun h => rfl), (fun h => by cases h), (fun h a => by cases h), rfl⟩
theorem zf_X5_40 : zFk RX5 40 7 1 15 0 false := ⟨RX7, TX7, tyX7, rfl, zI_X7, tyX7_ok, nmX7, by decide, by decide, zu1 1 rfl, rfl, by decide +kernel, (fun h => rfl), (fun h => by cases h), (fun h a => by cases h), rfl⟩
theorem zf_X5_45 : zFk RX5 45 7 7 15 2 true := ⟨RX7, TX7, tyX7, rfl, zI_X7, tyX7_ok, nmX7, by decide, by decide, zu1 20 rfl, rfl, by decide +kernel, (fun h => by cases h), (fun h => by cases h), (fun h a => ⟨rfl, rfl⟩), rfl⟩
theorem zm_X5_46 : Cond.methodLink RX5 46 yX5_beginYear ∈ zW := zu5 35 rfl
theorem zm_X5_49 : Cond.methodLink RX5 49 arraycopyName ∈ zW := zu7 19 rfl
theorem zm_X5_55 : Cond.methodLink RX5 55 yX5_hoardedBy ∈ zW := zu6 28 rfl
theorem zm_X5_59 : Cond.methodLink RX5 59 yX5_hoardedByAll ∈ zW := zu10 12 rfl
theorem zm_X5_63 : Cond.methodLink RX5 63 yX5_sayable ∈ zW := zu7 34 rfl
theorem zm_X5_66 : Cond.methodLink RX5 66 yX5_addHoarded ∈ zW := zu8 0 rfl
theorem zm_X5_70 : Cond.methodLink RX5 70 yX5_counted ∈ zW := zu8 3 rfl
theorem zm_X5_73 : Cond.methodLink RX5 73 yX5_canSay ∈ zW := zu7 31 rfl
theorem zm_X5_77 : Cond.methodLink RX5 77 yX5_speak ∈ zW := zu7 37 rfl
theorem zm_X5_81 : Cond.methodLink RX5 81 yX7_dayOfYear ∈ zW := zu7 26 rfl
theorem zf_X5_84 : zFk RX5 84 7 4 15 0 false := ⟨RX7, TX7, tyX7, rfl, zI_X7, tyX7_ok, nmX7, by decide, by decide, zu1 15 rfl, rfl, by decide +kernel, (fun h => rfl), (fun h => by cases h), (fun h a => by cases h), rfl⟩
theorem zf_X5_87 : zFk RX5 87 7 13 15 2 true := ⟨RX7, TX7, tyX7, rfl, zI_X7, tyX7_ok, nmX7, by decide, by decide, zu1 35 rfl, rfl, by decide +kernel, (fun h => by cases h), (fun h => by cases h), (fun h a => ⟨rfl, rfl⟩), rfl⟩
theorem zm_X5_90 : Cond.methodLink RX5 90 yX5_meetOrLose ∈ zW := zu7 27 rfl
theorem zf_X5_94 : zFk RX5 94 7 11 15 2 true := ⟨RX7, TX7, tyX7, rfl, zI_X7, tyX7_ok, nmX7, by decide, by decide, zu1 28 rfl, rfl, by decide +kernel, (fun h => by cases h), (fun h => by cases h), (fun h a => ⟨rfl, rfl⟩), rfl⟩
theorem zf_X5_97 : zFk RX5 97 7 12 15 2 true := ⟨RX7, TX7, tyX7, rfl, zI_X7, tyX7_ok, nmX7, by decide, by decide, zu1 32 rfl, rfl, by decide +kernel, (fun h => by cases h), (fun h => by cases h), (fun h a => ⟨rfl, rfl⟩), rfl⟩
theorem zm_X5_100 : Cond.methodLink RX5 100 yX5_meets ∈ zW := zu7 29 rfl
theorem zf_X5_104 : zFk RX5 104 7 14 15 2 true := ⟨RX7, TX7, tyX7, rfl, zI_X7, tyX7_ok, nmX7, by decide, by decide, zu1 39 rfl, rfl, by decide +kernel, (fun h => by cases h), (fun h => by cases h), (fun h a => ⟨rfl, rfl⟩), rfl⟩
theorem zm_X5_107 : Cond.methodLink RX5 107 yX7_wayRound ∈ zW := zu8 7 rfl
theorem zm_X5_110 : Cond.methodLink RX5 110 yX5_canGo ∈ zW := zu8 8 rfl
theorem zm_X5_113 : Cond.methodLink RX5 113 yX5_go ∈ zW := zu8 11 rfl
theorem zm_X5_116 : Cond.methodLink RX5 116 yX7_canPoint ∈ zW := zu8 14 rfl
theorem zm_X5_120 : Cond.methodLink RX5 120 yX5_gesture ∈ zW := zu8 15 rfl
theorem zk_X5_123 : Cond.constant RX5 123 (999999) ∈ zW := zu8 5 rfl
theorem zm_X5_124 : Cond.methodLink RX5 124 yJ9_min_7cf53 ∈ zW := zu8 6 rfl
theorem zm_X6_3 : Cond.methodLink RX6 3 Lib.objectInit ∈ zW := zu0 22 rfl
theorem zf_X6_9 : zFk RX6 9 6 0 6 2 true := ⟨RX6, TX6, tyX6, rfl, zI_X6, tyX6_ok, nmX6, by decide, by decide, zu0 23 rfl, rfl, by decide +kernel, (fun h => by cases h), (fun h => by cases h), (fun h a => ⟨rfl, rfl⟩), rfl⟩
theorem zf_X6_15 : zFk RX6 15 6 3 6 0 false := ⟨RX6, TX6, tyX6, rfl, zI_X6, tyX6_ok, nmX6, by decide, by decide, zu0 28 rfl, rfl, by decide +kernel, (fun h => rfl), (fun h => by cases h), (fun h a => by cases h), rfl⟩
theorem zf_X6_19 : zFk RX6 19 6 1 6 0 false := ⟨RX6, TX6, tyX6, rfl, zI_X6, tyX6_ok, nmX6, by decide, by decide, zu0 24 rfl, rfl, by decide +kernel, (fun h => rfl), (fun h => by cases h), (fun h a => by cases h), rfl⟩
theorem zm_X6_22 : Cond.methodLink RX6 22 yX7_clear ∈ zW := zu4 26 rfl
theorem zf_X6_27 : zFk RX6 27 6 2 6 0 false := ⟨RX6, TX6, tyX6, rfl, zI_X6, tyX6_ok, nmX6, by decide, by decide, zu0 27 rfl, rfl, by decide +kernel, (fun h => rfl), (fun h => by cases h), (fun h a => by cases h), rfl⟩
theorem zf_X6_30 : zFk RX6 30 6 4 6 0 false := ⟨RX6, TX6, tyX6, rfl, zI_X6, tyX6_ok, nmX6, by decide, by decide, zu0 30 rfl, rfl, by decide +kernel, (fun h => rfl), (fun h => by cases h), (fun h a => by cases h), rfl⟩
theorem zm_X6_33 : Cond.methodLink RX6 33 yX6_skipBlanks ∈ zW := zu4 29 rfl
theorem zm_X6_36 : Cond.methodLink RX6 36 yX6_readClause ∈ zW := zu4 31 rfl
theorem zm_X6_40 : Cond.methodLink RX6 40 yX6_letterHere ∈ zW := zu4 33 rfl
theorem zm_X6_44 : Cond.methodLink RX6 44 yX6_faultOfName ∈ zW := zu4 35 rfl
theorem zm_X6_48 : Cond.methodLink RX6 48 yX6_blame ∈ zW := zu4 37 rfl
theorem zm_X6_52 : Cond.methodLink RX6 52 yX6_readNumber ∈ zW := zu4 39 rfl
theorem zf_X6_56 : zFk RX6 56 7 0 15 0 false := ⟨RX7, TX7, tyX7, rfl, zI_X7, tyX7_ok, nmX7, by decide, by decide, zu0 39 rfl, rfl, by decide +kernel, (fun h => rfl), (fun h => by cases h), (fun h a => by cases h), rfl⟩
theorem zm_X6_59 : Cond.methodLink RX6 59 yX6_readWord ∈ zW := zu5 3 rfl
theorem zm_X6_62 : Cond.methodLink RX6 62 yX6_readWay ∈ zW := zu5 8 rfl
theorem zm_X6_65 : Cond.methodLink RX6 65 yX6_readPointing ∈ zW := zu5 16 rfl
theorem zm_X6_68 : Cond.methodLink RX6 68 yX7_addPerson ∈ zW := zu5 21 rfl
theorem zm_X6_72 : Cond.methodLink RX6 72 yX6_readNeed ∈ zW := zu5 24 rfl
theorem zf_X6_75 : zFk RX6 75 7 1 15 0 false := ⟨RX7, TX7, tyX7, rfl, zI_X7, tyX7_ok, nmX7, by decide, by decide, zu1 3 rfl, rfl, by decide +kernel, (fun h => rfl), (fun h => by cases h), (fun h a => by cases h), rfl⟩
theorem zf_X6_78 : zFk RX6 78 7 2 15 0 false := ⟨RX7, TX7, tyX7, rfl, zI_X7, tyX7_ok, nmX7, by decide, by decide, zu1 6 rfl, rfl, by decide +kernel, (fun h => rfl), (fun h => by cases h), (fun h a => by cases h), rfl⟩
theorem zf_X6_81 : zFk RX6 81 7 3 15 0 false := ⟨RX7, TX7, tyX7, rfl, zI_X7, tyX7_ok, nmX7, by decide, by decide, zu1 10 rfl, rfl, by decide +kernel, (fun h => rfl), (fun h => by cases h), (fun h a => by cases h), rfl⟩
theorem zf_X6_84 : zFk RX6 84 7 4 15 0 false := ⟨RX7, TX7, tyX7, rfl, zI_X7, tyX7_ok, nmX7, by decide, by decide, zu1 14 rfl, rfl, by decide +kernel, (fun h => rfl), (fun h => by cases h), (fun h a => by cases h), rfl⟩
theorem zm_X6_87 : Cond.methodLink RX6 87 yX7_addWord ∈ zW := zu5 5 rfl
theorem zm_X6_91 : Cond.methodLink RX6 91 yX7_wayRound ∈ zW := zu5 10 rfl
theorem zf_X6_94 : zFk RX6 94 6 5 6 0 false := ⟨RX6, TX6, tyX6, rfl, zI_X6, tyX6_ok, nmX6, by decide, by decide, zu0 31 rfl, rfl, by decide +kernel, (fun h => rfl), (fun h => by cases h), (fun h a => by cases h), rfl⟩
theorem zm_X6_97 : Cond.methodLink RX6 97 yX7_addWay ∈ zW := zu5 13 rfl
theorem zm_X6_100 : Cond.methodLink RX6 100 yX7_canPoint ∈ zW := zu5 18 rfl
theorem zf_X6_104 : zFk RX6 104 7 5 15 0 false := ⟨RX7, TX7, tyX7, rfl, zI_X7, tyX7_ok, nmX7, by decide, by decide, zu1 17 rfl, rfl, by decide +kernel, (fun h => rfl), (fun h => by cases h), (fun h a => by cases h), rfl⟩
theorem zm_X6_107 : Cond.methodLink RX6 107 yX7_addNeed ∈ zW := zu5 26 rfl
theorem zm_X6_111 : Cond.methodLink RX6 111 yJ9_min_7cf53 ∈ zW := zu5 1 rfl
theorem zm_X7_3 : Cond.methodLink RX7 3 Lib.objectInit ∈ zW := zu0 36 rfl
theorem zf_X7_9 : zFk RX7 9 7 7 15 2 true := ⟨RX7, TX7, tyX7, rfl, zI_X7, tyX7_ok, nmX7, by decide, by decide, zu1 19 rfl, rfl, by decide +kernel, (fun h => by cases h), (fun h => by cases h), (fun h a => ⟨rfl, rfl⟩), rfl⟩
theorem zf_X7_15 : zFk RX7 15 7 8 15 2 true := ⟨RX7, TX7, tyX7, rfl, zI_X7, tyX7_ok, nmX7, by decide, by decide, zu1 21 rfl, rfl, by decide +kernel, (fun h => by cases h), (fun h => by cases h), (fun h a => ⟨rfl, rfl⟩), rfl⟩
theorem zf_X7_18 : zFk RX7 18 7 9 15 2 true := ⟨RX7, TX7, tyX7, rfl, zI_X7, tyX7_ok, nmX7, by decide, by decide, zu1 23 rfl, rfl, by decide +kernel, (fun h => by cases h), (fun h => by cases h), (fun h a => ⟨rfl, rfl⟩), rfl⟩
theorem zf_X7_21 : zFk RX7 21 7 10 15 2 true := ⟨RX7, TX7, tyX7, rfl, zI_X7, tyX7_ok, nmX7, by decide, by decide, zu1 25 rfl, rfl, by decide +kernel, (fun h => by cases h), (fun h => by cases h), (fun h a => ⟨rfl, rfl⟩), rfl⟩
theorem zf_X7_24 : zFk RX7 24 7 11 15 2 true := ⟨RX7, TX7, tyX7, rfl, zI_X7, tyX7_ok, nmX7, by decide, by decide, zu1 26 rfl, rfl, by decide +kernel, (fun h => by cases h), (fun h => by cases h), (fun h a => ⟨rfl, rfl⟩), rfl⟩
theorem zf_X7_27 : zFk RX7 27 7 12 15 2 true := ⟨RX7, TX7, tyX7, rfl, zI_X7, tyX7_ok, nmX7, by decide, by decide, zu1 29 rfl, rfl, by decide +kernel, (fun h => by cases h), (fun h => by cases h), (fun h a => ⟨rfl, rfl⟩), rfl⟩
theorem zf_X7_30 : zFk RX7 30 7 13 15 2 true := ⟨RX7, TX7, tyX7, rfl, zI_X7, tyX7_ok, nmX7, by decide, by decide, zu1 33 rfl, rfl, by decide +kernel, (fun h => by cases h), (fun h => by cases h), (fun h a => ⟨rfl, rfl⟩), rfl⟩
theorem zf_X7_33 : zFk RX7 33 7 14 15 2 true := ⟨RX7, TX7, tyX7, rfl, zI_X7, tyX7_ok, nmX7, by decide, by decide, zu1 36 rfl, rfl, by decide +kernel, (fun h => by cases h), (fun h => by cases h), (fun h a => ⟨rfl, rfl⟩), rfl⟩
theorem zf_X7_36 : zFk RX7 36 7 0 15 0 false := ⟨RX7, TX7, tyX7, rfl, zI_X7, tyX7_ok, nmX7, by decide, by decide, zu0 37 rfl, rfl, by decide +kernel, (fun h => rfl), (fun h => by cases h), (fun h a => by cases h), rfl⟩
theorem zf_X7_40 : zFk RX7 40 7 1 15 0 false := ⟨RX7, TX7, tyX7, rfl, zI_X7, tyX7_ok, nmX7, by decide, by decide, zu1 0 rfl, rfl, by decide +kernel, (fun h => rfl), (fun h => by cases h), (fun h a => by cases h), rfl⟩
theorem zf_X7_43 : zFk RX7 43 7 2 15 0 false := ⟨RX7, TX7, tyX7, rfl, zI_X7, tyX7_ok, nmX7, by decide, by decide, zu1 4 rfl, rfl, by decide +kernel, (fun h => rfl), (fun h => by cases h), (fun h a => by cases h), rfl⟩
theorem zf_X7_46 : zFk RX7 46 7 3 15 0 false := ⟨RX7, TX7, tyX7, rfl, zI_X7, tyX7_ok, nmX7, by decide, by decide, zu1 7 rfl, rfl, by decide +kernel, (fun h => rfl), (fun h => by cases h), (fun h a => by cases h), rfl⟩
theorem zf_X7_49 : zFk RX7 49 7 4 15 0 false := ⟨RX7, TX7, tyX7, rfl, zI_X7, tyX7_ok, nmX7, by decide, by decide, zu1 11 rfl, rfl, by decide +kernel, (fun h => rfl), (fun h => by cases h), (fun h a => by cases h), rfl⟩
theorem zf_X7_52 : zFk RX7 52 7 5 15 0 false := ⟨RX7, TX7, tyX7, rfl, zI_X7, tyX7_ok, nmX7, by decide, by decide, zu1 16 rfl, rfl, by decide +kernel, (fun h => rfl), (fun h => by cases h), (fun h a => by cases h), rfl⟩
theorem zf_X7_55 : zFk RX7 55 7 6 15 0 false := ⟨RX7, TX7, tyX7, rfl, zI_X7, tyX7_ok, nmX7, by decide, by decide, zu1 18 rfl, rfl, by decide +kernel, (fun h => rfl), (fun h => by cases h), (fun h a => by cases h), rfl⟩
theorem zm_X8_1 : Cond.methodLink RX8 1 Lib.objectInit ∈ zW := zu0 17 rfl
theorem zn_X8_7 : zNk RX8 7 6 6 := ⟨RX6, TX6, tyX6, rfl, zI_X6, tyX6_ok, by decide, zu0 19 rfl, zu0 20 rfl, zu0 1 rfl, by decide +kernel⟩
theorem zm_X8_9 : (RX8, 9, yX6_init, RX8) ∈ zNM := by simp [zNM]
theorem zf_X8_10 : zFk RX8 10 8 0 13 2 true := ⟨RX8, TX8, tyX8, rfl, zI_X8, tyX8_ok, nmX8, by decide, by decide, zu3 36 rfl, rfl, by decide +kernel, (fun h => by cases h), (fun h => by cases h), (fun h a => ⟨rfl, rfl⟩), rfl⟩
theorem zn_X8_16 : zNk RX8 16 7 15 := ⟨RX7, TX7, tyX7, rfl, zI_X7, tyX7_ok, by decide, zu0 33 rfl, zu0 34 rfl, zu0 2 rfl, by decide +kernel⟩
theorem zm_X8_18 : (RX8, 18, yX7_init, RX8) ∈ zNM := by simp [zNM]
theorem zf_X8_19 : zFk RX8 19 8 1 13 2 false := ⟨RX8, TX8, tyX8, rfl, zI_X8, tyX8_ok, nmX8, by decide, by decide, zu3 37 rfl, rfl, by decide +kernel, (fun h => by cases h), (fun h => by cases h), (fun h a => ⟨rfl, rfl⟩), rfl⟩
theorem zf_X8_23 : zFk RX8 23 8 2 13 2 false := ⟨RX8, TX8, tyX8, rfl, zI_X8, tyX8_ok, nmX8, by decide, by decide, zu3 38 rfl, rfl, by decide +kernel, (fun h => by cases h), (fun h => by cases h), (fun h a => ⟨rfl, rfl⟩), rfl⟩
theorem zn_X8_26 : zNk RX8 26 5 9 := ⟨RX5, TX5, tyX5, rfl, zI_X5, tyX5_ok, by decide, zu2 0 rfl, zu2 1 rfl, zu0 3 rfl, by decide +kernel⟩
theorem zm_X8_28 : (RX8, 28, yX5_init, RX8) ∈ zNM := by simp [zNM]
theorem zf_X8_29 : zFk RX8 29 8 3 13 2 true := ⟨RX8, TX8, tyX8, rfl, zI_X8, tyX8_ok, nmX8, by decide, by decide, zu3 39 rfl, rfl, by decide +kernel, (fun h => by cases h), (fun h => by cases h), (fun h a => ⟨rfl, rfl⟩), rfl⟩
theorem zf_X8_33 : zFk RX8 33 8 4 13 2 true := ⟨RX8, TX8, tyX8, rfl, zI_X8, tyX8_ok, nmX8, by decide, by decide, zu4 0 rfl, rfl, by decide +kernel, (fun h => by cases h), (fun h => by cases h), (fun h a => ⟨rfl, rfl⟩), rfl⟩
theorem zn_X8_36 : zNk RX8 36 3 3 := ⟨RX3, TX3, tyX3, rfl, zI_X3, tyX3_ok, by decide, zu2 23 rfl, zu2 24 rfl, zu0 4 rfl, by decide +kernel⟩
theorem zm_X8_38 : Cond.methodLink RX8 38 yX3_init ∈ zW := zu2 25 rfl
theorem zf_X8_39 : zFk RX8 39 8 5 13 2 true := ⟨RX8, TX8, tyX8, rfl, zI_X8, tyX8_ok, nmX8, by decide, by decide, zu4 1 rfl, rfl, by decide +kernel, (fun h => by cases h), (fun h => by cases h), (fun h a => ⟨rfl, rfl⟩), rfl⟩
theorem zq_X8_43 : Cond.classLink RX8 43 "WordRation$Image" ∈ zW := zu2 33 rfl
theorem zf_X8_45 : zFk RX8 45 8 6 13 2 true := ⟨RX8, TX8, tyX8, rfl, zI_X8, tyX8_ok, nmX8, by decide, by decide, zu4 2 rfl, rfl, by decide +kernel, (fun h => by cases h), (fun h => by cases h), (fun h a => ⟨rfl, rfl⟩), rfl⟩
theorem zn_X8_49 : zNk RX8 49 4 10 := ⟨RX4, TX4, tyX4, rfl, zI_X4, tyX4_ok, by decide, zu2 34 rfl, zu2 35 rfl, zu0 5 rfl, by decide +kernel⟩
theorem zm_X8_51 : (RX8, 51, yX4_init, RX8) ∈ zNM := by simp [zNM]
theorem zf_X8_52 : zFk RX8 52 8 7 13 2 true := ⟨RX8, TX8, tyX8, rfl, zI_X8, tyX8_ok, nmX8, by decide, by decide, zu4 3 rfl, rfl, by decide +kernel, (fun h => by cases h), (fun h => by cases h), (fun h a => ⟨rfl, rfl⟩), rfl⟩
theorem zn_X8_56 : zNk RX8 56 2 4 := ⟨RX2, TX2, tyX2, rfl, zI_X2, tyX2_ok, by decide, zu3 10 rfl, zu3 11 rfl, zu0 6 rfl, by decide +kernel⟩
theorem zm_X8_58 : (RX8, 58, yX2_init, RX8) ∈ zNM := by simp [zNM]
theorem zf_X8_59 : zFk RX8 59 8 8 13 2 true := ⟨RX8, TX8, tyX8, rfl, zI_X8, tyX8_ok, nmX8, by decide, by decide, zu4 4 rfl, rfl, by decide +kernel, (fun h => by cases h), (fun h => by cases h), (fun h a => ⟨rfl, rfl⟩), rfl⟩
theorem zn_X8_63 : zNk RX8 63 0 3 := ⟨RX0, TX0, tyX0, rfl, zI_X0, tyX0_ok, by decide, zu3 20 rfl, zu3 21 rfl, zu0 7 rfl, by decide +kernel⟩
theorem zm_X8_65 : (RX8, 65, yX0_init, RX8) ∈ zNM := by simp [zNM]
theorem zf_X8_66 : zFk RX8 66 8 9 13 2 true := ⟨RX8, TX8, tyX8, rfl, zI_X8, tyX8_ok, nmX8, by decide, by decide, zu4 5 rfl, rfl, by decide +kernel, (fun h => by cases h), (fun h => by cases h), (fun h a => ⟨rfl, rfl⟩), rfl⟩
theorem zf_X8_70 : zFk RX8 70 8 10 13 2 true := ⟨RX8, TX8, tyX8, rfl, zI_X8, tyX8_ok, nmX8, by decide, by decide, zu4 6 rfl, rfl, by decide +kernel, (fun h => by cases h), (fun h => by cases h), (fun h a => ⟨rfl, rfl⟩), rfl⟩
theorem zf_X8_74 : zFk RX8 74 8 11 13 2 true := ⟨RX8, TX8, tyX8, rfl, zI_X8, tyX8_ok, nmX8, by decide, by decide, zu4 7 rfl, rfl, by decide +kernel, (fun h => by cases h), (fun h => by cases h), (fun h a => ⟨rfl, rfl⟩), rfl⟩
theorem zn_X8_43 : zNk RX8 43 1 3 := ⟨RX1, TX1, tyX1, rfl, zI_X1, tyX1_ok, by decide, zu2 33 rfl, zu3 28 rfl, zu0 8 rfl, by decide +kernel⟩
theorem zm_X8_77 : (RX8, 77, yX1_init, RX8) ∈ zNM := by simp [zNM]
theorem zk_X8_78 : Cond.constant RX8 78 (-1000000002) ∈ zW := zu4 12 rfl
theorem zm_X8_79 : Cond.methodLink RX8 79 yX6_isFull ∈ zW := zu4 13 rfl
theorem zk_X8_83 : Cond.constant RX8 83 (-1000000004) ∈ zW := zu4 16 rfl
theorem zm_X8_84 : Cond.methodLink RX8 84 yX6_add ∈ zW := zu4 17 rfl
theorem zf_X8_88 : zFk RX8 88 6 1 6 0 false := ⟨RX6, TX6, tyX6, rfl, zI_X6, tyX6_ok, nmX6, by decide, by decide, zu0 25 rfl, rfl, by decide +kernel, (fun h => rfl), (fun h => by cases h), (fun h a => by cases h), rfl⟩
theorem zm_X8_92 : Cond.methodLink RX8 92 yX6_readInto ∈ zW := zu4 23 rfl
theorem zm_X8_96 : Cond.methodLink RX8 96 yX6_empty ∈ zW := zu5 29 rfl
theorem zf_X8_99 : zFk RX8 99 6 2 6 0 false := ⟨RX6, TX6, tyX6, rfl, zI_X6, tyX6_ok, nmX6, by decide, by decide, zu0 26 rfl, rfl, by decide +kernel, (fun h => rfl), (fun h => by cases h), (fun h a => by cases h), rfl⟩
theorem zm_X8_102 : Cond.methodLink RX8 102 yX5_begin ∈ zW := zu5 32 rfl
theorem zm_X8_105 : Cond.methodLink RX8 105 yX3_forget ∈ zW := zu5 37 rfl
theorem zm_X8_108 : Cond.methodLink RX8 108 yX2_clear ∈ zW := zu6 0 rfl
theorem zm_X8_111 : Cond.methodLink RX8 111 yX0_clear ∈ zW := zu6 3 rfl
theorem zf_X8_112 : zFk RX8 112 1 2 3 1 false := ⟨RX1, TX1, tyX1, rfl, zI_X1, tyX1_ok, nmX1, by decide, by decide, zu3 35 rfl, rfl, by decide +kernel, (fun h => by cases h), (fun h => rfl), (fun h a => by cases h), rfl⟩
theorem zf_X8_116 : zFk RX8 116 7 1 15 0 false := ⟨RX7, TX7, tyX7, rfl, zI_X7, tyX7_ok, nmX7, by decide, by decide, zu1 2 rfl, rfl, by decide +kernel, (fun h => rfl), (fun h => by cases h), (fun h a => by cases h), rfl⟩
theorem zf_X8_119 : zFk RX8 119 6 3 6 0 false := ⟨RX6, TX6, tyX6, rfl, zI_X6, tyX6_ok, nmX6, by decide, by decide, zu0 29 rfl, rfl, by decide +kernel, (fun h => rfl), (fun h => by cases h), (fun h a => by cases h), rfl⟩
theorem zf_X8_122 : zFk RX8 122 7 0 15 0 false := ⟨RX7, TX7, tyX7, rfl, zI_X7, tyX7_ok, nmX7, by decide, by decide, zu0 38 rfl, rfl, by decide +kernel, (fun h => rfl), (fun h => by cases h), (fun h a => by cases h), rfl⟩
theorem zf_X8_125 : zFk RX8 125 7 2 15 0 false := ⟨RX7, TX7, tyX7, rfl, zI_X7, tyX7_ok, nmX7, by decide, by decide, zu1 5 rfl, rfl, by decide +kernel, (fun h => rfl), (fun h => by cases h), (fun h a => by cases h), rfl⟩
theorem zf_X8_128 : zFk RX8 128 7 3 15 0 false := ⟨RX7, TX7, tyX7, rfl, zI_X7, tyX7_ok, nmX7, by decide, by decide, zu1 9 rfl, rfl, by decide +kernel, (fun h => rfl), (fun h => by cases h), (fun h a => by cases h), rfl⟩
theorem zf_X8_131 : zFk RX8 131 7 4 15 0 false := ⟨RX7, TX7, tyX7, rfl, zI_X7, tyX7_ok, nmX7, by decide, by decide, zu1 13 rfl, rfl, by decide +kernel, (fun h => rfl), (fun h => by cases h), (fun h a => by cases h), rfl⟩
theorem zf_X8_134 : zFk RX8 134 5 4 9 0 false := ⟨RX5, TX5, tyX5, rfl, zI_X5, tyX5_ok, nmX5, by decide, by decide, zu2 14 rfl, rfl, by decide +kernel, (fun h => rfl), (fun h => by cases h), (fun h a => by cases h), rfl⟩
theorem zm_X8_135 : Cond.methodLink RX8 135 yX8_today ∈ zW := zu6 12 rfl
theorem zf_X8_139 : zFk RX8 139 5 5 9 0 false := ⟨RX5, TX5, tyX5, rfl, zI_X5, tyX5_ok, nmX5, by decide, by decide, zu2 16 rfl, rfl, by decide +kernel, (fun h => rfl), (fun h => by cases h), (fun h a => by cases h), rfl⟩
theorem zf_X8_142 : zFk RX8 142 5 6 9 0 false := ⟨RX5, TX5, tyX5, rfl, zI_X5, tyX5_ok, nmX5, by decide, by decide, zu2 18 rfl, rfl, by decide +kernel, (fun h => rfl), (fun h => by cases h), (fun h a => by cases h), rfl⟩
theorem zf_X8_145 : zFk RX8 145 5 7 9 0 false := ⟨RX5, TX5, tyX5, rfl, zI_X5, tyX5_ok, nmX5, by decide, by decide, zu2 20 rfl, rfl, by decide +kernel, (fun h => rfl), (fun h => by cases h), (fun h a => by cases h), rfl⟩
theorem zf_X8_148 : zFk RX8 148 5 8 9 0 false := ⟨RX5, TX5, tyX5, rfl, zI_X5, tyX5_ok, nmX5, by decide, by decide, zu2 22 rfl, rfl, by decide +kernel, (fun h => rfl), (fun h => by cases h), (fun h a => by cases h), rfl⟩
theorem zm_X8_151 : Cond.methodLink RX8 151 yX8_neverSaid ∈ zW := zu6 17 rfl
theorem zf_X8_154 : zFk RX8 154 2 3 4 0 false := ⟨RX2, TX2, tyX2, rfl, zI_X2, tyX2_ok, nmX2, by decide, by decide, zu3 18 rfl, rfl, by decide +kernel, (fun h => rfl), (fun h => by cases h), (fun h a => by cases h), rfl⟩
theorem zf_X8_157 : zFk RX8 157 0 2 3 0 false := ⟨RX0, TX0, tyX0, rfl, zI_X0, tyX0_ok, nmX0, by decide, by decide, zu3 27 rfl, rfl, by decide +kernel, (fun h => rfl), (fun h => by cases h), (fun h a => by cases h), rfl⟩
theorem zf_X8_158 : zFk RX8 158 3 2 3 0 false := ⟨RX3, TX3, tyX3, rfl, zI_X3, tyX3_ok, nmX3, by decide, by decide, zu2 32 rfl, rfl, by decide +kernel, (fun h => rfl), (fun h => by cases h), (fun h a => by cases h), rfl⟩
theorem zm_X8_159 : Cond.methodLink RX8 159 yX8_isWord ∈ zW := zu6 22 rfl
theorem zk_X8_163 : Cond.constant RX8 163 (-1000000001) ∈ zW := zu6 24 rfl
theorem zf_X8_164 : zFk RX8 164 5 0 9 2 true := ⟨RX5, TX5, tyX5, rfl, zI_X5, tyX5_ok, nmX5, by decide, by decide, zu2 5 rfl, rfl, by decide +kernel, (fun h => by cases h), (fun h => by cases h), (fun h a => ⟨rfl, rfl⟩), rfl⟩
theorem zf_X8_167 : zFk RX8 167 7 8 15 2 true := ⟨RX7, TX7, tyX7, rfl, zI_X7, tyX7_ok, nmX7, by decide, by decide, zu1 22 rfl, rfl, by decide +kernel, (fun h => by cases h), (fun h => by cases h), (fun h a => ⟨rfl, rfl⟩), rfl⟩
theorem zf_X8_170 : zFk RX8 170 7 9 15 2 true := ⟨RX7, TX7, tyX7, rfl, zI_X7, tyX7_ok, nmX7, by decide, by decide, zu1 24 rfl, rfl, by decide +kernel, (fun h => by cases h), (fun h => by cases h), (fun h a => ⟨rfl, rfl⟩), rfl⟩
theorem zf_X8_173 : zFk RX8 173 5 1 9 2 true := ⟨RX5, TX5, tyX5, rfl, zI_X5, tyX5_ok, nmX5, by decide, by decide, zu2 8 rfl, rfl, by decide +kernel, (fun h => by cases h), (fun h => by cases h), (fun h a => ⟨rfl, rfl⟩), rfl⟩
theorem zm_X8_176 : Cond.methodLink RX8 176 yX5_hoardedByAll ∈ zW := zu6 25 rfl
theorem zf_X8_180 : zFk RX8 180 5 2 9 2 true := ⟨RX5, TX5, tyX5, rfl, zI_X5, tyX5_ok, nmX5, by decide, by decide, zu2 10 rfl, rfl, by decide +kernel, (fun h => by cases h), (fun h => by cases h), (fun h a => ⟨rfl, rfl⟩), rfl⟩
theorem zm_X8_183 : Cond.methodLink RX8 183 yX7_wayRound ∈ zW := zu6 31 rfl
theorem zm_X8_187 : Cond.methodLink RX8 187 yX7_canPoint ∈ zW := zu6 32 rfl
theorem zm_X8_190 : Cond.methodLink RX8 190 yX8_isPerson ∈ zW := zu6 36 rfl
theorem zm_X8_193 : Cond.methodLink RX8 193 yX5_hoardedBy ∈ zW := zu6 38 rfl
theorem zm_X8_196 : Cond.methodLink RX8 196 yX8_isNeed ∈ zW := zu7 2 rfl
theorem zf_X8_199 : zFk RX8 199 7 11 15 2 true := ⟨RX7, TX7, tyX7, rfl, zI_X7, tyX7_ok, nmX7, by decide, by decide, zu1 27 rfl, rfl, by decide +kernel, (fun h => by cases h), (fun h => by cases h), (fun h a => ⟨rfl, rfl⟩), rfl⟩
theorem zf_X8_202 : zFk RX8 202 7 12 15 2 true := ⟨RX7, TX7, tyX7, rfl, zI_X7, tyX7_ok, nmX7, by decide, by decide, zu1 31 rfl, rfl, by decide +kernel, (fun h => by cases h), (fun h => by cases h), (fun h a => ⟨rfl, rfl⟩), rfl⟩
theorem zf_X8_205 : zFk RX8 205 7 13 15 2 true := ⟨RX7, TX7, tyX7, rfl, zI_X7, tyX7_ok, nmX7, by decide, by decide, zu1 34 rfl, rfl, by decide +kernel, (fun h => by cases h), (fun h => by cases h), (fun h a => ⟨rfl, rfl⟩), rfl⟩
theorem zf_X8_208 : zFk RX8 208 7 14 15 2 true := ⟨RX7, TX7, tyX7, rfl, zI_X7, tyX7_ok, nmX7, by decide, by decide, zu1 38 rfl, rfl, by decide +kernel, (fun h => by cases h), (fun h => by cases h), (fun h a => ⟨rfl, rfl⟩), rfl⟩
theorem zm_X8_211 : Cond.methodLink RX8 211 yX7_isToCome ∈ zW := zu7 4 rfl
theorem zm_X8_215 : Cond.methodLink RX8 215 yX8_refusalOfDays ∈ zW := zu7 10 rfl
theorem zm_X8_218 : Cond.methodLink RX8 218 yX3_remember ∈ zW := zu7 13 rfl
theorem zm_X8_222 : Cond.methodLink RX8 222 yX5_passDay ∈ zW := zu7 23 rfl
theorem zm_X8_225 : Cond.methodLink RX8 225 yX5_canSay ∈ zW := zu8 21 rfl
theorem zk_X8_228 : Cond.constant RX8 228 (-1000000003) ∈ zW := zu7 12 rfl
theorem zm_X8_229 : Cond.methodLink RX8 229 yX5_speak ∈ zW := zu8 22 rfl
theorem zm_X8_233 : Cond.methodLink RX8 233 yX5_sayable ∈ zW := zu8 23 rfl
theorem zm_X8_236 : Cond.methodLink RX8 236 yX5_canGo ∈ zW := zu8 27 rfl
theorem zm_X8_239 : Cond.methodLink RX8 239 yX5_go ∈ zW := zu8 28 rfl
theorem zm_X8_242 : Cond.methodLink RX8 242 yX5_gesture ∈ zW := zu8 32 rfl
theorem zm_X8_245 : Cond.methodLink RX8 245 yX5_store ∈ zW := zu8 36 rfl
theorem zm_X8_249 : Cond.methodLink RX8 249 yX5_addHoarded ∈ zW := zu9 2 rfl
theorem zm_X8_252 : Cond.methodLink RX8 252 yX8_doByDraws ∈ zW := zu9 9 rfl
theorem zm_X8_255 : Cond.methodLink RX8 255 yX3_returnTo ∈ zW := zu9 20 rfl
theorem zm_X8_258 : Cond.methodLink RX8 258 yX8_workOutCheap ∈ zW := zu9 26 rfl
theorem zm_X8_261 : Cond.methodLink RX8 261 yX8_cheapestKind ∈ zW := zu9 32 rfl
theorem zm_X8_264 : Cond.methodLink RX8 264 yX5_copy ∈ zW := zu9 37 rfl
theorem zm_X8_267 : Cond.methodLink RX8 267 yX4_workOut ∈ zW := zu10 4 rfl
theorem zf_X8_271 : zFk RX8 271 4 9 10 0 false := ⟨RX4, TX4, tyX4, rfl, zI_X4, tyX4_ok, nmX4, by decide, by decide, zu3 9 rfl, rfl, by decide +kernel, (fun h => rfl), (fun h => by cases h), (fun h a => by cases h), rfl⟩
theorem zf_X8_274 : zFk RX8 274 4 8 10 0 false := ⟨RX4, TX4, tyX4, rfl, zI_X4, tyX4_ok, nmX4, by decide, by decide, zu3 7 rfl, rfl, by decide +kernel, (fun h => rfl), (fun h => by cases h), (fun h a => by cases h), rfl⟩
theorem zm_X8_277 : Cond.methodLink RX8 277 yX4_howMet ∈ zW := zu10 35 rfl
theorem zm_X8_280 : Cond.methodLink RX8 280 yX5_supply ∈ zW := zu11 1 rfl
theorem zm_X8_283 : Cond.methodLink RX8 283 yX8_isToComeOf ∈ zW := zu11 2 rfl
theorem zm_X8_286 : Cond.methodLink RX8 286 yX8_rankByWorth ∈ zW := zu11 4 rfl
theorem zm_X8_289 : Cond.methodLink RX8 289 yX8_wouldSell ∈ zW := zu11 9 rfl
theorem zm_X8_293 : Cond.methodLink RX8 293 yX8_needsToCome ∈ zW := zu11 11 rfl
theorem zm_X8_296 : Cond.methodLink RX8 296 yJ9_max_7cf53 ∈ zW := zu11 19 rfl
theorem zm_X8_301 : Cond.methodLink RX8 301 yX8_oneNightMore ∈ zW := zu11 24 rfl
theorem zk_X8_304 : Cond.constantLong RX8 304 (1000000000) ∈ zW := zu11 32 rfl
theorem zk_X8_306 : Cond.constantLong RX8 306 (100) ∈ zW := zu11 33 rfl
theorem zm_X8_308 : Cond.methodLink RX8 308 yX2_tie ∈ zW := zu11 37 rfl
theorem zm_X8_312 : Cond.methodLink RX8 312 yX2_fitting ∈ zW := zu12 3 rfl
theorem zm_X8_316 : Cond.methodLink RX8 316 yJ6_bitCount_0f7a4 ∈ zW := zu12 14 rfl
theorem zm_X8_321 : Cond.methodLink RX8 321 yX8_greatestPart ∈ zW := zu12 15 rfl
theorem zm_X8_325 : Cond.methodLink RX8 325 yX0_enter ∈ zW := zu12 21 rfl
theorem zm_X8_328 : Cond.methodLink RX8 328 yX0_firstWrong ∈ zW := zu12 30 rfl
theorem zf_X8_332 : zFk RX8 332 8 12 13 0 false := ⟨RX8, TX8, tyX8, rfl, zI_X8, tyX8_ok, nmX8, by decide, by decide, zu4 8 rfl, rfl, by decide +kernel, (fun h => rfl), (fun h => by cases h), (fun h a => by cases h), rfl⟩
theorem zf_X8_335 : zFk RX8 335 1 0 3 2 true := ⟨RX1, TX1, tyX1, rfl, zI_X1, tyX1_ok, nmX1, by decide, by decide, zu3 33 rfl, rfl, by decide +kernel, (fun h => by cases h), (fun h => by cases h), (fun h a => ⟨rfl, rfl⟩), rfl⟩
theorem zf_X8_338 : zFk RX8 338 1 1 3 0 false := ⟨RX1, TX1, tyX1, rfl, zI_X1, tyX1_ok, nmX1, by decide, by decide, zu3 34 rfl, rfl, by decide +kernel, (fun h => rfl), (fun h => by cases h), (fun h a => by cases h), rfl⟩
theorem zm_X8_339 : Cond.methodLink RX8 339 yX7_dayOfYear ∈ zW := zu6 14 rfl
theorem zk_X8_342 : Cond.constantLong RX8 342 (1103515245) ∈ zW := zu9 13 rfl
theorem zk_X8_344 : Cond.constantLong RX8 344 (12345) ∈ zW := zu9 14 rfl
theorem zk_X8_346 : Cond.constantLong RX8 346 (2147483647) ∈ zW := zu9 15 rfl
theorem zk_X8_348 : Cond.constant RX8 348 (65536) ∈ zW := zu9 16 rfl
theorem zm_X8_349 : Cond.methodLink RX8 349 yX8_drawOf ∈ zW := zu9 11 rfl
theorem zm_X8_352 : Cond.methodLink RX8 352 yX8_costBy ∈ zW := zu9 28 rfl
theorem zm_X8_355 : Cond.methodLink RX8 355 yX8_cheapTogether ∈ zW := zu9 30 rfl
theorem zm_X8_358 : Cond.methodLink RX8 358 yX7_wouldHaveSaid ∈ zW := zu12 17 rfl
theorem zm_X9_1 : Cond.methodLink RX9 1 Lib.objectInit ∈ zW := zu13 6 rfl
theorem zf_X9_7 : zFk RX9 7 9 0 58 2 true := ⟨RX9, TX9, tyX9, rfl, zI_X9, tyX9_ok, nmX9, by decide, by decide, zu13 7 rfl, rfl, by decide +kernel, (fun h => by cases h), (fun h => by cases h), (fun h a => ⟨rfl, rfl⟩), rfl⟩
theorem zf_X9_13 : zFk RX9 13 9 1 58 2 true := ⟨RX9, TX9, tyX9, rfl, zI_X9, tyX9_ok, nmX9, by decide, by decide, zu13 8 rfl, rfl, by decide +kernel, (fun h => by cases h), (fun h => by cases h), (fun h a => ⟨rfl, rfl⟩), rfl⟩
theorem zf_X9_16 : zFk RX9 16 9 2 58 2 true := ⟨RX9, TX9, tyX9, rfl, zI_X9, tyX9_ok, nmX9, by decide, by decide, zu13 9 rfl, rfl, by decide +kernel, (fun h => by cases h), (fun h => by cases h), (fun h a => ⟨rfl, rfl⟩), rfl⟩
theorem zf_X9_19 : zFk RX9 19 9 9 58 2 true := ⟨RX9, TX9, tyX9, rfl, zI_X9, tyX9_ok, nmX9, by decide, by decide, zu13 16 rfl, rfl, by decide +kernel, (fun h => by cases h), (fun h => by cases h), (fun h a => ⟨rfl, rfl⟩), rfl⟩
theorem zf_X9_22 : zFk RX9 22 9 10 58 2 true := ⟨RX9, TX9, tyX9, rfl, zI_X9, tyX9_ok, nmX9, by decide, by decide, zu13 17 rfl, rfl, by decide +kernel, (fun h => by cases h), (fun h => by cases h), (fun h a => ⟨rfl, rfl⟩), rfl⟩
theorem zf_X9_25 : zFk RX9 25 9 11 58 2 true := ⟨RX9, TX9, tyX9, rfl, zI_X9, tyX9_ok, nmX9, by decide, by decide, zu13 18 rfl, rfl, by decide +kernel, (fun h => by cases h), (fun h => by cases h), (fun h a => ⟨rfl, rfl⟩), rfl⟩
theorem zf_X9_28 : zFk RX9 28 9 12 58 2 true := ⟨RX9, TX9, tyX9, rfl, zI_X9, tyX9_ok, nmX9, by decide, by decide, zu13 19 rfl, rfl, by decide +kernel, (fun h => by cases h), (fun h => by cases h), (fun h a => ⟨rfl, rfl⟩), rfl⟩
theorem zf_X9_32 : zFk RX9 32 9 13 58 2 true := ⟨RX9, TX9, tyX9, rfl, zI_X9, tyX9_ok, nmX9, by decide, by decide, zu13 20 rfl, rfl, by decide +kernel, (fun h => by cases h), (fun h => by cases h), (fun h a => ⟨rfl, rfl⟩), rfl⟩
theorem zf_X9_35 : zFk RX9 35 9 14 58 2 true := ⟨RX9, TX9, tyX9, rfl, zI_X9, tyX9_ok, nmX9, by decide, by decide, zu13 21 rfl, rfl, by decide +kernel, (fun h => by cases h), (fun h => by cases h), (fun h a => ⟨rfl, rfl⟩), rfl⟩
theorem zf_X9_38 : zFk RX9 38 9 15 58 2 true := ⟨RX9, TX9, tyX9, rfl, zI_X9, tyX9_ok, nmX9, by decide, by decide, zu13 22 rfl, rfl, by decide +kernel, (fun h => by cases h), (fun h => by cases h), (fun h a => ⟨rfl, rfl⟩), rfl⟩
theorem zf_X9_41 : zFk RX9 41 9 20 58 0 false := ⟨RX9, TX9, tyX9, rfl, zI_X9, tyX9_ok, nmX9, by decide, by decide, zu13 27 rfl, rfl, by decide +kernel, (fun h => rfl), (fun h => by cases h), (fun h a => by cases h), rfl⟩
theorem zf_X9_45 : zFk RX9 45 9 26 58 2 true := ⟨RX9, TX9, tyX9, rfl, zI_X9, tyX9_ok, nmX9, by decide, by decide, zu13 33 rfl, rfl, by decide +kernel, (fun h => by cases h), (fun h => by cases h), (fun h a => ⟨rfl, rfl⟩), rfl⟩
theorem zf_X9_48 : zFk RX9 48 9 27 58 2 true := ⟨RX9, TX9, tyX9, rfl, zI_X9, tyX9_ok, nmX9, by decide, by decide, zu13 34 rfl, rfl, by decide +kernel, (fun h => by cases h), (fun h => by cases h), (fun h a => ⟨rfl, rfl⟩), rfl⟩
theorem zf_X9_51 : zFk RX9 51 9 28 58 2 true := ⟨RX9, TX9, tyX9, rfl, zI_X9, tyX9_ok, nmX9, by decide, by decide, zu13 35 rfl, rfl, by decide +kernel, (fun h => by cases h), (fun h => by cases h), (fun h a => ⟨rfl, rfl⟩), rfl⟩
theorem zf_X9_54 : zFk RX9 54 9 29 58 2 true := ⟨RX9, TX9, tyX9, rfl, zI_X9, tyX9_ok, nmX9, by decide, by decide, zu13 36 rfl, rfl, by decide +kernel, (fun h => by cases h), (fun h => by cases h), (fun h a => ⟨rfl, rfl⟩), rfl⟩
theorem zf_X9_57 : zFk RX9 57 9 30 58 2 true := ⟨RX9, TX9, tyX9, rfl, zI_X9, tyX9_ok, nmX9, by decide, by decide, zu13 37 rfl, rfl, by decide +kernel, (fun h => by cases h), (fun h => by cases h), (fun h a => ⟨rfl, rfl⟩), rfl⟩
theorem zf_X9_60 : zFk RX9 60 9 31 58 2 true := ⟨RX9, TX9, tyX9, rfl, zI_X9, tyX9_ok, nmX9, by decide, by decide, zu13 38 rfl, rfl, by decide +kernel, (fun h => by cases h), (fun h => by cases h), (fun h a => ⟨rfl, rfl⟩), rfl⟩
theorem zf_X9_63 : zFk RX9 63 9 32 58 2 true := ⟨RX9, TX9, tyX9, rfl, zI_X9, tyX9_ok, nmX9, by decide, by decide, zu13 39 rfl, rfl, by decide +kernel, (fun h => by cases h), (fun h => by cases h), (fun h a => ⟨rfl, rfl⟩), rfl⟩
theorem zf_X9_66 : zFk RX9 66 9 34 58 2 true := ⟨RX9, TX9, tyX9, rfl, zI_X9, tyX9_ok, nmX9, by decide, by decide, zu14 1 rfl, rfl, by decide +kernel, (fun h => by cases h), (fun h => by cases h), (fun h a => ⟨rfl, rfl⟩), rfl⟩
theorem zf_X9_69 : zFk RX9 69 9 36 58 2 true := ⟨RX9, TX9, tyX9, rfl, zI_X9, tyX9_ok, nmX9, by decide, by decide, zu14 3 rfl, rfl, by decide +kernel, (fun h => by cases h), (fun h => by cases h), (fun h a => ⟨rfl, rfl⟩), rfl⟩
theorem zf_X9_72 : zFk RX9 72 9 37 58 2 true := ⟨RX9, TX9, tyX9, rfl, zI_X9, tyX9_ok, nmX9, by decide, by decide, zu14 4 rfl, rfl, by decide +kernel, (fun h => by cases h), (fun h => by cases h), (fun h a => ⟨rfl, rfl⟩), rfl⟩
theorem zf_X9_75 : zFk RX9 75 9 38 58 2 true := ⟨RX9, TX9, tyX9, rfl, zI_X9, tyX9_ok, nmX9, by decide, by decide, zu14 5 rfl, rfl, by decide +kernel, (fun h => by cases h), (fun h => by cases h), (fun h a => ⟨rfl, rfl⟩), rfl⟩
theorem zf_X9_78 : zFk RX9 78 9 39 58 2 true := ⟨RX9, TX9, tyX9, rfl, zI_X9, tyX9_ok, nmX9, by decide, by decide, zu14 6 rfl, rfl, by decide +kernel, (fun h => by cases h), (fun h => by cases h), (fun h a => ⟨rfl, rfl⟩), rfl⟩
theorem zf_X9_81 : zFk RX9 81 9 40 58 2 true := ⟨RX9, TX9, tyX9, rfl, zI_X9, tyX9_ok, nmX9, by decide, by decide, zu14 7 rfl, rfl, by decide +kernel, (fun h => by cases h), (fun h => by cases h), (fun h a => ⟨rfl, rfl⟩), rfl⟩
theorem zf_X9_84 : zFk RX9 84 9 43 58 2 true := ⟨RX9, TX9, tyX9, rfl, zI_X9, tyX9_ok, nmX9, by decide, by decide, zu14 10 rfl, rfl, by decide +kernel, (fun h => by cases h), (fun h => by cases h), (fun h a => ⟨rfl, rfl⟩), rfl⟩
theorem zf_X9_87 : zFk RX9 87 9 46 58 2 true := ⟨RX9, TX9, tyX9, rfl, zI_X9, tyX9_ok, nmX9, by decide, by decide, zu14 13 rfl, rfl, by decide +kernel, (fun h => by cases h), (fun h => by cases h), (fun h a => ⟨rfl, rfl⟩), rfl⟩
theorem zf_X9_90 : zFk RX9 90 9 47 58 2 true := ⟨RX9, TX9, tyX9, rfl, zI_X9, tyX9_ok, nmX9, by decide, by decide, zu14 14 rfl, rfl, by decide +kernel, (fun h => by cases h), (fun h => by cases h), (fun h a => ⟨rfl, rfl⟩), rfl⟩
theorem zf_X9_93 : zFk RX9 93 9 49 58 2 true := ⟨RX9, TX9, tyX9, rfl, zI_X9, tyX9_ok, nmX9, by decide, by decide, zu14 16 rfl, rfl, by decide +kernel, (fun h => by cases h), (fun h => by cases h), (fun h a => ⟨rfl, rfl⟩), rfl⟩
theorem zf_X9_96 : zFk RX9 96 9 50 58 2 true := ⟨RX9, TX9, tyX9, rfl, zI_X9, tyX9_ok, nmX9, by decide, by decide, zu14 17 rfl, rfl, by decide +kernel, (fun h => by cases h), (fun h => by cases h), (fun h a => ⟨rfl, rfl⟩), rfl⟩
theorem zf_X9_99 : zFk RX9 99 9 51 58 2 true := ⟨RX9, TX9, tyX9, rfl, zI_X9, tyX9_ok, nmX9, by decide, by decide, zu14 18 rfl, rfl, by decide +kernel, (fun h => by cases h), (fun h => by cases h), (fun h a => ⟨rfl, rfl⟩), rfl⟩
theorem zf_X9_102 : zFk RX9 102 9 53 58 2 true := ⟨RX9, TX9, tyX9, rfl, zI_X9, tyX9_ok, nmX9, by decide, by decide, zu14 20 rfl, rfl, by decide +kernel, (fun h => by cases h), (fun h => by cases h), (fun h a => ⟨rfl, rfl⟩), rfl⟩
theorem zf_X9_105 : zFk RX9 105 9 54 58 2 true := ⟨RX9, TX9, tyX9, rfl, zI_X9, tyX9_ok, nmX9, by decide, by decide, zu14 21 rfl, rfl, by decide +kernel, (fun h => by cases h), (fun h => by cases h), (fun h a => ⟨rfl, rfl⟩), rfl⟩
theorem zf_X9_108 : zFk RX9 108 9 55 58 2 true := ⟨RX9, TX9, tyX9, rfl, zI_X9, tyX9_ok, nmX9, by decide, by decide, zu14 22 rfl, rfl, by decide +kernel, (fun h => by cases h), (fun h => by cases h), (fun h a => ⟨rfl, rfl⟩), rfl⟩
theorem zf_X9_111 : zFk RX9 111 9 56 58 2 true := ⟨RX9, TX9, tyX9, rfl, zI_X9, tyX9_ok, nmX9, by decide, by decide, zu14 23 rfl, rfl, by decide +kernel, (fun h => by cases h), (fun h => by cases h), (fun h a => ⟨rfl, rfl⟩), rfl⟩
theorem zf_X9_114 : zFk RX9 114 9 57 58 2 true := ⟨RX9, TX9, tyX9, rfl, zI_X9, tyX9_ok, nmX9, by decide, by decide, zu14 24 rfl, rfl, by decide +kernel, (fun h => by cases h), (fun h => by cases h), (fun h a => ⟨rfl, rfl⟩), rfl⟩
theorem zf_X9_117 : zFk RX9 117 9 6 58 0 false := ⟨RX9, TX9, tyX9, rfl, zI_X9, tyX9_ok, nmX9, by decide, by decide, zu13 13 rfl, rfl, by decide +kernel, (fun h => rfl), (fun h => by cases h), (fun h a => by cases h), rfl⟩
theorem zm_X9_120 : Cond.methodLink RX9 120 yX9_in ∈ zW := zu14 29 rfl
theorem zf_X9_124 : zFk RX9 124 9 7 58 0 false := ⟨RX9, TX9, tyX9, rfl, zI_X9, tyX9_ok, nmX9, by decide, by decide, zu13 14 rfl, rfl, by decide +kernel, (fun h => rfl), (fun h => by cases h), (fun h a => by cases h), rfl⟩
theorem zf_X9_127 : zFk RX9 127 9 8 58 0 false := ⟨RX9, TX9, tyX9, rfl, zI_X9, tyX9_ok, nmX9, by decide, by decide, zu13 15 rfl, rfl, by decide +kernel, (fun h => rfl), (fun h => by cases h), (fun h a => by cases h), rfl⟩
theorem zk_X9_130 : Cond.constant RX9 130 (999999) ∈ zW := zu16 38 rfl
theorem zk_X9_131 : Cond.constantLong RX9 131 (255) ∈ zW := zu14 28 rfl
theorem zk_X9_133 : Cond.constant RX9 133 (-1000000002) ∈ zW := zu14 31 rfl
theorem zf_X9_134 : zFk RX9 134 9 16 58 0 false := ⟨RX9, TX9, tyX9, rfl, zI_X9, tyX9_ok, nmX9, by decide, by decide, zu13 23 rfl, rfl, by decide +kernel, (fun h => rfl), (fun h => by cases h), (fun h a => by cases h), rfl⟩
theorem zk_X9_137 : Cond.constant RX9 137 (-1000000004) ∈ zW := zu14 32 rfl
theorem zf_X9_138 : zFk RX9 138 9 18 58 0 false := ⟨RX9, TX9, tyX9, rfl, zI_X9, tyX9_ok, nmX9, by decide, by decide, zu13 25 rfl, rfl, by decide +kernel, (fun h => rfl), (fun h => by cases h), (fun h a => by cases h), rfl⟩
theorem zf_X9_141 : zFk RX9 141 9 19 58 0 false := ⟨RX9, TX9, tyX9, rfl, zI_X9, tyX9_ok, nmX9, by decide, by decide, zu13 26 rfl, rfl, by decide +kernel, (fun h => rfl), (fun h => by cases h), (fun h a => by cases h), rfl⟩
theorem zf_X9_144 : zFk RX9 144 9 17 58 0 false := ⟨RX9, TX9, tyX9, rfl, zI_X9, tyX9_ok, nmX9, by decide, by decide, zu13 24 rfl, rfl, by decide +kernel, (fun h => rfl), (fun h => by cases h), (fun h a => by cases h), rfl⟩
theorem zm_X9_147 : Cond.methodLink RX9 147 yX9_letterNow ∈ zW := zu14 38 rfl
theorem zm_X9_151 : Cond.methodLink RX9 151 yX9_isFigure ∈ zW := zu15 8 rfl
theorem zm_X9_155 : Cond.methodLink RX9 155 yX9_bad ∈ zW := zu15 2 rfl
theorem zf_X9_159 : zFk RX9 159 9 33 58 0 false := ⟨RX9, TX9, tyX9, rfl, zI_X9, tyX9_ok, nmX9, by decide, by decide, zu14 0 rfl, rfl, by decide +kernel, (fun h => rfl), (fun h => by cases h), (fun h a => by cases h), rfl⟩
theorem zf_X9_162 : zFk RX9 162 9 22 58 0 false := ⟨RX9, TX9, tyX9, rfl, zI_X9, tyX9_ok, nmX9, by decide, by decide, zu13 29 rfl, rfl, by decide +kernel, (fun h => rfl), (fun h => by cases h), (fun h a => by cases h), rfl⟩
theorem zm_X9_165 : Cond.methodLink RX9 165 yX9_number ∈ zW := zu15 6 rfl
theorem zm_X9_169 : Cond.methodLink RX9 169 yX9_end ∈ zW := zu15 10 rfl
theorem zf_X9_172 : zFk RX9 172 9 25 58 0 false := ⟨RX9, TX9, tyX9, rfl, zI_X9, tyX9_ok, nmX9, by decide, by decide, zu13 32 rfl, rfl, by decide +kernel, (fun h => rfl), (fun h => by cases h), (fun h a => by cases h), rfl⟩
theorem zm_X9_175 : Cond.methodLink RX9 175 yX9_wordTold ∈ zW := zu15 16 rfl
theorem zm_X9_178 : Cond.methodLink RX9 178 yX9_has ∈ zW := zu15 18 rfl
theorem zf_X9_182 : zFk RX9 182 9 23 58 0 false := ⟨RX9, TX9, tyX9, rfl, zI_X9, tyX9_ok, nmX9, by decide, by decide, zu13 30 rfl, rfl, by decide +kernel, (fun h => rfl), (fun h => by cases h), (fun h a => by cases h), rfl⟩
theorem zf_X9_185 : zFk RX9 185 9 24 58 0 false := ⟨RX9, TX9, tyX9, rfl, zI_X9, tyX9_ok, nmX9, by decide, by decide, zu13 31 rfl, rfl, by decide +kernel, (fun h => rfl), (fun h => by cases h), (fun h a => by cases h), rfl⟩
theorem zf_X9_188 : zFk RX9 188 9 21 58 0 false := ⟨RX9, TX9, tyX9, rfl, zI_X9, tyX9_ok, nmX9, by decide, by decide, zu13 28 rfl, rfl, by decide +kernel, (fun h => rfl), (fun h => by cases h), (fun h a => by cases h), rfl⟩
theorem zm_X9_191 : Cond.methodLink RX9 191 yX9_readYear ∈ zW := zu15 4 rfl
theorem zm_X9_194 : Cond.methodLink RX9 194 yX9_readWord ∈ zW := zu15 12 rfl
theorem zm_X9_197 : Cond.methodLink RX9 197 yX9_readWay ∈ zW := zu15 14 rfl
theorem zm_X9_200 : Cond.methodLink RX9 200 yX9_readPointing ∈ zW := zu15 20 rfl
theorem zm_X9_203 : Cond.methodLink RX9 203 yX9_readPerson ∈ zW := zu15 22 rfl
theorem zm_X9_206 : Cond.methodLink RX9 206 yX9_readNeed ∈ zW := zu15 24 rfl
theorem zm_X9_209 : Cond.methodLink RX9 209 yX9_readClause ∈ zW := zu15 0 rfl
theorem zm_X9_213 : Cond.methodLink RX9 213 yX9_readAll ∈ zW := zu14 36 rfl
theorem zf_X9_216 : zFk RX9 216 9 5 58 0 false := ⟨RX9, TX9, tyX9, rfl, zI_X9, tyX9_ok, nmX9, by decide, by decide, zu13 12 rfl, rfl, by decide +kernel, (fun h => rfl), (fun h => by cases h), (fun h a => by cases h), rfl⟩
theorem zf_X9_219 : zFk RX9 219 9 3 58 0 false := ⟨RX9, TX9, tyX9, rfl, zI_X9, tyX9_ok, nmX9, by decide, by decide, zu13 10 rfl, rfl, by decide +kernel, (fun h => rfl), (fun h => by cases h), (fun h a => by cases h), rfl⟩
theorem zf_X9_222 : zFk RX9 222 9 48 58 0 false := ⟨RX9, TX9, tyX9, rfl, zI_X9, tyX9_ok, nmX9, by decide, by decide, zu14 15 rfl, rfl, by decide +kernel, (fun h => rfl), (fun h => by cases h), (fun h a => by cases h), rfl⟩
theorem zf_X9_225 : zFk RX9 225 9 52 58 0 false := ⟨RX9, TX9, tyX9, rfl, zI_X9, tyX9_ok, nmX9, by decide, by decide, zu14 19 rfl, rfl, by decide +kernel, (fun h => rfl), (fun h => by cases h), (fun h a => by cases h), rfl⟩
theorem zm_X9_228 : Cond.methodLink RX9 228 yX9_dayOf ∈ zW := zu16 15 rfl
theorem zm_X9_232 : Cond.methodLink RX9 232 yX9_dayNow ∈ zW := zu15 32 rfl
theorem zm_X9_235 : Cond.methodLink RX9 235 yX9_isWord ∈ zW := zu15 37 rfl
theorem zk_X9_238 : Cond.constant RX9 238 (-1000000001) ∈ zW := zu15 39 rfl
theorem zm_X9_239 : Cond.methodLink RX9 239 yX9_hoardedOf ∈ zW := zu16 0 rfl
theorem zm_X9_243 : Cond.methodLink RX9 243 yX9_isPerson ∈ zW := zu16 5 rfl
theorem zm_X9_246 : Cond.methodLink RX9 246 yX9_isNeed ∈ zW := zu16 10 rfl
theorem zk_X9_249 : Cond.constantLong RX9 249 (4) ∈ zW := zu16 12 rfl
theorem zm_X9_251 : Cond.methodLink RX9 251 yX9_isToCome ∈ zW := zu16 13 rfl
theorem zm_X9_254 : Cond.methodLink RX9 254 yX9_up ∈ zW := zu16 36 rfl
theorem zm_X9_257 : Cond.methodLink RX9 257 yX9_canSay ∈ zW := zu16 32 rfl
theorem zm_X9_261 : Cond.methodLink RX9 261 yX9_says ∈ zW := zu16 34 rfl
theorem zm_X9_265 : Cond.methodLink RX9 265 yX9_person ∈ zW := zu16 28 rfl
theorem zm_X9_268 : Cond.methodLink RX9 268 yX9_wordOf ∈ zW := zu16 30 rfl
theorem zm_X9_271 : Cond.methodLink RX9 271 yX9_canGo ∈ zW := zu16 39 rfl
theorem zm_X9_274 : Cond.methodLink RX9 274 yX9_goes ∈ zW := zu17 1 rfl
theorem zm_X9_277 : Cond.methodLink RX9 277 yX9_meets ∈ zW := zu16 26 rfl
theorem zm_X9_281 : Cond.methodLink RX9 281 yX9_worthOf ∈ zW := zu17 3 rfl
theorem zk_X9_284 : Cond.constantLong RX9 284 (60) ∈ zW := zu16 20 rfl
theorem zk_X9_286 : Cond.constant RX9 286 (-1000000003) ∈ zW := zu16 21 rfl
theorem zm_X9_287 : Cond.methodLink RX9 287 yX9_keepAct ∈ zW := zu16 22 rfl
theorem zm_X9_290 : Cond.methodLink RX9 290 yX9_goOn ∈ zW := zu16 24 rfl
theorem zk_X9_294 : Cond.constantLong RX9 294 (99) ∈ zW := zu17 17 rfl
theorem zf_X9_296 : zFk RX9 296 9 4 58 0 false := ⟨RX9, TX9, tyX9, rfl, zI_X9, tyX9_ok, nmX9, by decide, by decide, zu13 11 rfl, rfl, by decide +kernel, (fun h => rfl), (fun h => by cases h), (fun h a => by cases h), rfl⟩
theorem zk_X9_299 : Cond.constantLong RX9 299 (1103515245) ∈ zW := zu17 31 rfl
theorem zk_X9_301 : Cond.constantLong RX9 301 (12345) ∈ zW := zu17 32 rfl
theorem zk_X9_303 : Cond.constantLong RX9 303 (2147483647) ∈ zW := zu17 33 rfl
theorem zk_X9_305 : Cond.constant RX9 305 (65536) ∈ zW := zu17 34 rfl
theorem zm_X9_306 : Cond.methodLink RX9 306 yX9_draw ∈ zW := zu17 29 rfl
theorem zm_X9_309 : Cond.methodLink RX9 309 yX9_drawn ∈ zW := zu17 27 rfl
theorem zm_X9_312 : Cond.methodLink RX9 312 yX9_costOfWay ∈ zW := zu18 3 rfl
theorem zm_X9_315 : Cond.methodLink RX9 315 yX9_costBy ∈ zW := zu18 1 rfl
theorem zm_X9_319 : Cond.methodLink RX9 319 yX9_layTried ∈ zW := zu18 8 rfl
theorem zm_X9_322 : Cond.methodLink RX9 322 yX9_wordsBy ∈ zW := zu18 22 rfl
theorem zf_X9_325 : zFk RX9 325 9 42 58 0 false := ⟨RX9, TX9, tyX9, rfl, zI_X9, tyX9_ok, nmX9, by decide, by decide, zu14 9 rfl, rfl, by decide +kernel, (fun h => rfl), (fun h => by cases h), (fun h a => by cases h), rfl⟩
theorem zm_X9_328 : Cond.methodLink RX9 328 yX9_bits ∈ zW := zu18 24 rfl
theorem zf_X9_331 : zFk RX9 331 9 41 58 0 false := ⟨RX9, TX9, tyX9, rfl, zI_X9, tyX9_ok, nmX9, by decide, by decide, zu14 8 rfl, rfl, by decide +kernel, (fun h => rfl), (fun h => by cases h), (fun h a => by cases h), rfl⟩
theorem zm_X9_334 : Cond.methodLink RX9 334 yX9_fits ∈ zW := zu18 28 rfl
theorem zm_X9_337 : Cond.methodLink RX9 337 yX9_use ∈ zW := zu18 20 rfl
theorem zf_X9_341 : zFk RX9 341 9 44 58 0 false := ⟨RX9, TX9, tyX9, rfl, zI_X9, tyX9_ok, nmX9, by decide, by decide, zu14 11 rfl, rfl, by decide +kernel, (fun h => rfl), (fun h => by cases h), (fun h a => by cases h), rfl⟩
theorem zf_X9_344 : zFk RX9 344 9 45 58 0 false := ⟨RX9, TX9, tyX9, rfl, zI_X9, tyX9_ok, nmX9, by decide, by decide, zu14 12 rfl, rfl, by decide +kernel, (fun h => rfl), (fun h => by cases h), (fun h a => by cases h), rfl⟩
theorem zf_X9_347 : zFk RX9 347 9 35 58 0 false := ⟨RX9, TX9, tyX9, rfl, zI_X9, tyX9_ok, nmX9, by decide, by decide, zu14 2 rfl, rfl, by decide +kernel, (fun h => rfl), (fun h => by cases h), (fun h a => by cases h), rfl⟩
theorem zm_X9_350 : Cond.methodLink RX9 350 yX9_comparePlan ∈ zW := zu18 18 rfl
theorem zm_X9_353 : Cond.methodLink RX9 353 yX9_nextPick ∈ zW := zu18 26 rfl
theorem zm_X9_356 : Cond.methodLink RX9 356 yX9_findPlan ∈ zW := zu18 16 rfl
theorem zm_X9_359 : Cond.methodLink RX9 359 yX9_isOf ∈ zW := zu18 33 rfl
theorem zm_X9_362 : Cond.methodLink RX9 362 yX9_needsOf ∈ zW := zu19 0 rfl
theorem zm_X9_365 : Cond.methodLink RX9 365 yX9_doSell ∈ zW := zu18 38 rfl
theorem zk_X9_369 : Cond.constantLong RX9 369 (9) ∈ zW := zu19 11 rfl
theorem zk_X9_371 : Cond.constantLong RX9 371 (20) ∈ zW := zu19 12 rfl
theorem zk_X9_373 : Cond.constantLong RX9 373 (100) ∈ zW := zu19 19 rfl
theorem zk_X9_375 : Cond.constantLong RX9 375 (1000000000) ∈ zW := zu19 20 rfl
theorem zk_X9_377 : Cond.constantLong RX9 377 (98) ∈ zW := zu19 24 rfl
theorem zm_X9_379 : Cond.methodLink RX9 379 yX9_wouldSay ∈ zW := zu19 30 rfl
theorem zm_X9_382 : Cond.methodLink RX9 382 yX9_whoSaid ∈ zW := zu19 28 rfl
theorem zk_J6_265 : Cond.constant RJ6 265 (1431655765) ∈ zW := zu10 32 rfl
theorem zk_J6_266 : Cond.constant RJ6 266 (858993459) ∈ zW := zu10 33 rfl
theorem zk_J6_267 : Cond.constant RJ6 267 (252645135) ∈ zW := zu10 34 rfl
theorem zn_L_7 : zNk RL 7 8 13 := ⟨RX8, TX8, tyX8, rfl, zI_X8, tyX8_ok, by decide, zu0 13 rfl, zu0 14 rfl, zu0 0 rfl, by decide +kernel⟩
theorem zm_L_9 : Cond.methodLink RL 9 yX8_init ∈ zW := zu0 15 rfl
theorem zn_L_10 : zNk RL 10 9 58 := ⟨RX9, TX9, tyX9, rfl, zI_X9, tyX9_ok, by decide, zu13 2 rfl, zu13 3 rfl, zu0 9 rfl, by decide +kernel⟩
theorem zm_L_12 : Cond.methodLink RL 12 yX9_init ∈ zW := zu13 4 rfl
theorem zm_L_13 : Cond.methodLink RL 13 yX8_feed ∈ zW := zu4 9 rfl
theorem zm_L_17 : Cond.methodLink RL 17 yX9_feed ∈ zW := zu14 25 rfl
theorem zm_L_18 : Cond.methodLink RL 18 yX8_town ∈ zW := zu4 20 rfl
theorem zm_L_22 : Cond.methodLink RL 22 yX9_town ∈ zW := zu14 33 rfl
theorem zm_L_23 : Cond.methodLink RL 23 yX8_fault ∈ zW := zu6 6 rfl
theorem zm_L_26 : Cond.methodLink RL 26 yX9_fault ∈ zW := zu15 26 rfl
theorem zm_L_27 : Cond.methodLink RL 27 yX8_told ∈ zW := zu6 9 rfl
theorem zm_L_30 : Cond.methodLink RL 30 yX9_told ∈ zW := zu15 29 rfl
theorem zm_L_31 : Cond.methodLink RL 31 yX8_word ∈ zW := zu6 19 rfl
theorem zm_L_35 : Cond.methodLink RL 35 yX9_word ∈ zW := zu15 34 rfl
theorem zm_L_36 : Cond.methodLink RL 36 yX8_hoarded ∈ zW := zu6 33 rfl
theorem zm_L_39 : Cond.methodLink RL 39 yX9_hoarded ∈ zW := zu16 2 rfl
theorem zm_L_40 : Cond.methodLink RL 40 yX8_need ∈ zW := zu6 39 rfl
theorem zm_L_43 : Cond.methodLink RL 43 yX9_need ∈ zW := zu16 7 rfl
theorem zm_L_44 : Cond.methodLink RL 44 yX8_day ∈ zW := zu7 7 rfl
theorem zm_L_47 : Cond.methodLink RL 47 yX9_day ∈ zW := zu16 17 rfl
theorem zm_L_48 : Cond.methodLink RL 48 yX8_say ∈ zW := zu8 18 rfl
theorem zm_L_51 : Cond.methodLink RL 51 yX9_say ∈ zW := zu17 5 rfl
theorem zm_L_52 : Cond.methodLink RL 52 yX8_around ∈ zW := zu8 24 rfl
theorem zm_L_56 : Cond.methodLink RL 56 yX9_around ∈ zW := zu17 8 rfl
theorem zm_L_57 : Cond.methodLink RL 57 yX8_point ∈ zW := zu8 29 rfl
theorem zm_L_60 : Cond.methodLink RL 60 yX9_point ∈ zW := zu17 11 rfl
theorem zm_L_61 : Cond.methodLink RL 61 yX8_hoard ∈ zW := zu8 33 rfl
theorem zm_L_64 : Cond.methodLink RL 64 yX9_hoard ∈ zW := zu17 14 rfl
theorem zm_L_65 : Cond.methodLink RL 65 yX8_sell ∈ zW := zu8 39 rfl
theorem zm_L_69 : Cond.methodLink RL 69 yX9_sell ∈ zW := zu17 18 rfl
theorem zm_L_70 : Cond.methodLink RL 70 yX8_raise ∈ zW := zu9 3 rfl
theorem zm_L_73 : Cond.methodLink RL 73 yX9_raise ∈ zW := zu17 21 rfl
theorem zm_L_74 : Cond.methodLink RL 74 yX8_drift ∈ zW := zu9 6 rfl
theorem zm_L_77 : Cond.methodLink RL 77 yX9_drift ∈ zW := zu17 24 rfl
theorem zm_L_78 : Cond.methodLink RL 78 yX8_undo ∈ zW := zu9 17 rfl
theorem zm_L_81 : Cond.methodLink RL 81 yX9_undo ∈ zW := zu17 35 rfl
theorem zm_L_82 : Cond.methodLink RL 82 yX8_cheapest ∈ zW := zu9 23 rfl
theorem zm_L_85 : Cond.methodLink RL 85 yX9_cheapest ∈ zW := zu17 38 rfl
theorem zm_L_86 : Cond.methodLink RL 86 yX8_runsOut ∈ zW := zu9 34 rfl
theorem zm_L_89 : Cond.methodLink RL 89 yX9_runsOut ∈ zW := zu18 5 rfl
theorem zm_L_90 : Cond.methodLink RL 90 yX8_willBe ∈ zW := zu9 38 rfl
theorem zm_L_93 : Cond.methodLink RL 93 yX9_willBe ∈ zW := zu18 10 rfl
theorem zm_L_94 : Cond.methodLink RL 94 yX8_plan ∈ zW := zu10 1 rfl
theorem zm_L_97 : Cond.methodLink RL 97 yX9_plan ∈ zW := zu18 13 rfl
theorem zm_L_98 : Cond.methodLink RL 98 yX8_price ∈ zW := zu10 38 rfl
theorem zm_L_101 : Cond.methodLink RL 101 yX9_price ∈ zW := zu18 30 rfl
theorem zm_L_102 : Cond.methodLink RL 102 yX8_sells ∈ zW := zu11 6 rfl
theorem zm_L_105 : Cond.methodLink RL 105 yX9_sells ∈ zW := zu18 35 rfl
theorem zm_L_106 : Cond.methodLink RL 106 yX8_share ∈ zW := zu11 13 rfl
theorem zm_L_109 : Cond.methodLink RL 109 yX9_share ∈ zW := zu19 2 rfl
theorem zm_L_110 : Cond.methodLink RL 110 yX8_more ∈ zW := zu11 16 rfl
theorem zm_L_113 : Cond.methodLink RL 113 yX9_more ∈ zW := zu19 5 rfl
theorem zm_L_114 : Cond.methodLink RL 114 yX8_fire ∈ zW := zu11 21 rfl
theorem zm_L_117 : Cond.methodLink RL 117 yX9_fire ∈ zW := zu19 8 rfl
theorem zm_L_118 : Cond.methodLink RL 118 yX8_rhymes ∈ zW := zu11 26 rfl
theorem zm_L_121 : Cond.methodLink RL 121 yX9_rhymes ∈ zW := zu19 13 rfl
theorem zm_L_122 : Cond.methodLink RL 122 yX8_silent ∈ zW := zu11 29 rfl
theorem zm_L_125 : Cond.methodLink RL 125 yX9_silent ∈ zW := zu19 16 rfl
theorem zm_L_126 : Cond.methodLink RL 126 yX8_knot ∈ zW := zu11 34 rfl
theorem zm_L_130 : Cond.methodLink RL 130 yX9_knot ∈ zW := zu19 21 rfl
theorem zm_L_131 : Cond.methodLink RL 131 yX8_who ∈ zW := zu12 0 rfl
theorem zm_L_134 : Cond.methodLink RL 134 yX9_who ∈ zW := zu19 25 rfl
theorem zm_L_135 : Cond.methodLink RL 135 yX8_ask ∈ zW := zu12 11 rfl
theorem zm_L_138 : Cond.methodLink RL 138 yX9_ask ∈ zW := zu19 32 rfl
theorem zm_L_139 : Cond.methodLink RL 139 yX8_write ∈ zW := zu12 18 rfl
theorem zm_L_142 : Cond.methodLink RL 142 yX9_write ∈ zW := zu19 35 rfl
theorem zm_L_143 : Cond.methodLink RL 143 yX8_tear ∈ zW := zu12 24 rfl
theorem zm_L_146 : Cond.methodLink RL 146 yX9_tear ∈ zW := zu19 38 rfl
theorem zm_L_147 : Cond.methodLink RL 147 yX8_judge ∈ zW := zu12 27 rfl
theorem zm_L_150 : Cond.methodLink RL 150 yX9_judge ∈ zW := zu20 1 rfl
theorem zm_L_151 : Cond.methodLink RL 151 yX8_seed ∈ zW := zu12 33 rfl
theorem zm_L_154 : Cond.methodLink RL 154 yX9_seed ∈ zW := zu20 4 rfl
theorem zm_L_155 : Cond.methodLink RL 155 yX8_keep ∈ zW := zu12 36 rfl
theorem zm_L_158 : Cond.methodLink RL 158 yX9_keep ∈ zW := zu20 7 rfl
theorem zm_L_159 : Cond.methodLink RL 159 yX8_goBack ∈ zW := zu12 39 rfl
theorem zm_L_162 : Cond.methodLink RL 162 yX9_goBack ∈ zW := zu20 10 rfl
theorem za_i : Cond.arrayClass .int ∈ zW := zu0 32 rfl
theorem za_z : Cond.arrayClass .boolean ∈ zW := zu3 19 rfl
theorem za_nat : Cond.native arraycopyName ∈ zW := zu7 21 rfl
theorem za_stat : Cond.static arraycopyName ∈ zW := zu7 20 rfl
theorem za_ini : Cond.initialized "java/lang/System" ∈ zW := zu0 11 rfl
theorem zo_im : Cond.instanceMethod Lib.objectInit ∈ zW := zu0 18 rfl
theorem zo_code : Cond.code Lib.objectInit ⟨#[0xb1]⟩ 1 none ∈ zW := zu20 14 rfl
theorem zc_X0_init : zCal yX0_init cX0_init 1 none 0 := ⟨by decide +kernel, zu20 21 rfl, zu0 7 rfl, by decide +kernel, by decide⟩
theorem zi_X0_init : Cond.instanceMethod yX0_init ∈ zW := zu3 22 rfl
theorem zc_X0_clear : zCal yX0_clear cX0_clear 1 none 0 := ⟨by decide +kernel, zu21 11 rfl, zu0 7 rfl, by decide +kernel, by decide⟩
theorem zi_X0_clear : Cond.instanceMethod yX0_clear ∈ zW := zu6 4 rfl
theorem zs_X0_clear : Cond.selects yX0_clear.cls yX0_clear yX0_clear ∈ zW := zu6 5 rfl
theorem zc_X0_enter : zCal yX0_enter cX0_enter 3 none 2 := ⟨by decide +kernel, zu23 14 rfl, zu0 7 rfl, by decide +kernel, by decide⟩
theorem zi_X0_enter : Cond.instanceMethod yX0_enter ∈ zW := zu12 22 rfl
theorem zs_X0_enter : Cond.selects yX0_enter.cls yX0_enter yX0_enter ∈ zW := zu12 23 rfl
theorem zc_X0_firstWrong : zCal yX0_firstWrong cX0_firstWrong 3 (some .int) 1 := ⟨by decide +kernel, zu23 17 rfl, zu0 7 rfl, by decide +kernel, by decide⟩
theorem zi_X0_firstWrong : Cond.instanceMethod yX0_firstWrong ∈ zW := zu12 31 rfl
theorem zs_X0_firstWrong : Cond.selects yX0_firstWrong.cls yX0_firstWrong yX0_firstWrong ∈ zW := zu12 32 rfl
theorem zc_X1_init : zCal yX1_init cX1_init 1 none 0 := ⟨by decide +kernel, zu20 22 rfl, zu0 8 rfl, by decide +kernel, by decide⟩
theorem zi_X1_init : Cond.instanceMethod yX1_init ∈ zW := zu3 29 rfl
theorem zc_X2_init : zCal yX2_init cX2_init 1 none 0 := ⟨by decide +kernel, zu20 20 rfl, zu0 6 rfl, by decide +kernel, by decide⟩
theorem zi_X2_init : Cond.instanceMethod yX2_init ∈ zW := zu3 12 rfl
theorem zc_X2_clear : zCal yX2_clear cX2_clear 1 none 0 := ⟨by decide +kernel, zu21 10 rfl, zu0 6 rfl, by decide +kernel, by decide⟩
theorem zi_X2_clear : Cond.instanceMethod yX2_clear ∈ zW := zu6 1 rfl
theorem zs_X2_clear : Cond.selects yX2_clear.cls yX2_clear yX2_clear ∈ zW := zu6 2 rfl
theorem zc_X2_tie : zCal yX2_tie cX2_tie 4 none 3 := ⟨by decide +kernel, zu23 6 rfl, zu0 6 rfl, by decide +kernel, by decide⟩
theorem zi_X2_tie : Cond.instanceMethod yX2_tie ∈ zW := zu11 38 rfl
theorem zs_X2_tie : Cond.selects yX2_tie.cls yX2_tie yX2_tie ∈ zW := zu11 39 rfl
theorem zc_X2_fitting : zCal yX2_fitting cX2_fitting 4 (some .int) 1 := ⟨by decide +kernel, zu23 8 rfl, zu0 6 rfl, by decide +kernel, by decide⟩
theorem zi_X2_fitting : Cond.instanceMethod yX2_fitting ∈ zW := zu12 4 rfl
theorem zs_X2_fitting : Cond.selects yX2_fitting.cls yX2_fitting yX2_fitting ∈ zW := zu12 5 rfl
theorem zc_X2_fits : zCal yX2_fits cX2_fits 4 (some .boolean) 2 := ⟨by decide +kernel, zu23 9 rfl, zu0 6 rfl, by decide +kernel, by decide⟩
theorem zi_X2_fits : Cond.instanceMethod yX2_fits ∈ zW := zu12 7 rfl
theorem zs_X2_fits : Cond.selects yX2_fits.cls yX2_fits yX2_fits ∈ zW := zin_p (q := (yX2_fits, 4)) (by decide +kernel) (by decide +kernel)
theorem zc_X3_init : zCal yX3_init cX3_init 2 none 0 := ⟨by decide +kernel, zu20 18 rfl, zu0 4 rfl, by decide +kernel, by decide⟩
theorem zi_X3_init : Cond.instanceMethod yX3_init ∈ zW := zu2 26 rfl
theorem zc_X3_forget : zCal yX3_forget cX3_forget 1 none 0 := ⟨by decide +kernel, zu21 9 rfl, zu0 4 rfl, by decide +kernel, by decide⟩
theorem zi_X3_forget : Cond.instanceMethod yX3_forget ∈ zW := zu5 38 rfl
theorem zs_X3_forget : Cond.selects yX3_forget.cls yX3_forget yX3_forget ∈ zW := zu5 39 rfl
theorem zc_X3_remember : zCal yX3_remember cX3_remember 2 none 1 := ⟨by decide +kernel, zu21 28 rfl, zu0 4 rfl, by decide +kernel, by decide⟩
theorem zi_X3_remember : Cond.instanceMethod yX3_remember ∈ zW := zu7 14 rfl
theorem zs_X3_remember : Cond.selects yX3_remember.cls yX3_remember yX3_remember ∈ zW := zu7 15 rfl
theorem zc_X3_returnTo : zCal yX3_returnTo cX3_returnTo 2 none 1 := ⟨by decide +kernel, zu22 12 rfl, zu0 4 rfl, by decide +kernel, by decide⟩
theorem zi_X3_returnTo : Cond.instanceMethod yX3_returnTo ∈ zW := zu9 21 rfl
theorem zs_X3_returnTo : Cond.selects yX3_returnTo.cls yX3_returnTo yX3_returnTo ∈ zW := zu9 22 rfl
theorem zc_X4_init : zCal yX4_init cX4_init 1 none 0 := ⟨by decide +kernel, zu20 19 rfl, zu0 5 rfl, by decide +kernel, by decide⟩
theorem zi_X4_init : Cond.instanceMethod yX4_init ∈ zW := zu2 36 rfl
theorem zc_X4_workOut : zCal yX4_workOut cX4_workOut 3 none 2 := ⟨by decide +kernel, zu22 21 rfl, zu0 5 rfl, by decide +kernel, by decide⟩
theorem zi_X4_workOut : Cond.instanceMethod yX4_workOut ∈ zW := zu10 5 rfl
theorem zs_X4_workOut : Cond.selects yX4_workOut.cls yX4_workOut yX4_workOut ∈ zW := zu10 6 rfl
theorem zc_X4_howMet : zCal yX4_howMet cX4_howMet 2 (some .int) 1 := ⟨by decide +kernel, zu22 31 rfl, zu0 5 rfl, by decide +kernel, by decide⟩
theorem zi_X4_howMet : Cond.instanceMethod yX4_howMet ∈ zW := zu10 36 rfl
theorem zs_X4_howMet : Cond.selects yX4_howMet.cls yX4_howMet yX4_howMet ∈ zW := zu10 37 rfl
theorem zc_X4_gather : zCal yX4_gather cX4_gather 4 none 2 := ⟨by decide +kernel, zu22 22 rfl, zu0 5 rfl, by decide +kernel, by decide⟩
theorem zi_X4_gather : Cond.instanceMethod yX4_gather ∈ zW := zu10 8 rfl
theorem zs_X4_gather : Cond.selects yX4_gather.cls yX4_gather yX4_gather ∈ zW := zin_p (q := (yX4_gather, 10)) (by decide +kernel) (by decide +kernel)
theorem zc_X4_gatherUses : zCal yX4_gatherUses cX4_gatherUses 6 none 2 := ⟨by decide +kernel, zu22 24 rfl, zu0 5 rfl, by decide +kernel, by decide⟩
theorem zi_X4_gatherUses : Cond.instanceMethod yX4_gatherUses ∈ zW := zu10 16 rfl
theorem zs_X4_gatherUses : Cond.selects yX4_gatherUses.cls yX4_gatherUses yX4_gatherUses ∈ zW := zin_p (q := (yX4_gatherUses, 10)) (by decide +kernel) (by decide +kernel)
theorem zc_X4_search : zCal yX4_search cX4_search 11 none 5 := ⟨by decide +kernel, zu22 25 rfl, zu0 5 rfl, by decide +kernel, by decide⟩
theorem zs_X4_search : Cond.static yX4_search ∈ zW := zu10 20 rfl
theorem zc_X4_mayBeBetter : zCal yX4_mayBeBetter cX4_mayBeBetter 3 (some .boolean) 2 := ⟨by decide +kernel, zu22 26 rfl, zu0 5 rfl, by decide +kernel, by decide⟩
theorem zi_X4_mayBeBetter : Cond.instanceMethod yX4_mayBeBetter ∈ zW := zu10 22 rfl
theorem zs_X4_mayBeBetter : Cond.selects yX4_mayBeBetter.cls yX4_mayBeBetter yX4_mayBeBetter ∈ zW := zin_p (q := (yX4_mayBeBetter, 10)) (by decide +kernel) (by decide +kernel)
theorem zc_X4_take : zCal yX4_take cX4_take 3 none 2 := ⟨by decide +kernel, zu22 27 rfl, zu0 5 rfl, by decide +kernel, by decide⟩
theorem zi_X4_take : Cond.instanceMethod yX4_take ∈ zW := zu10 24 rfl
theorem zs_X4_take : Cond.selects yX4_take.cls yX4_take yX4_take ∈ zW := zin_p (q := (yX4_take, 10)) (by decide +kernel) (by decide +kernel)
theorem zc_X4_affords : zCal yX4_affords cX4_affords 3 (some .boolean) 1 := ⟨by decide +kernel, zu22 28 rfl, zu0 5 rfl, by decide +kernel, by decide⟩
theorem zi_X4_affords : Cond.instanceMethod yX4_affords ∈ zW := zu10 27 rfl
theorem zs_X4_affords : Cond.selects yX4_affords.cls yX4_affords yX4_affords ∈ zW := zin_p (q := (yX4_affords, 10)) (by decide +kernel) (by decide +kernel)
theorem zc_X4_change : zCal yX4_change cX4_change 4 none 2 := ⟨by decide +kernel, zu22 29 rfl, zu0 5 rfl, by decide +kernel, by decide⟩
theorem zi_X4_change : Cond.instanceMethod yX4_change ∈ zW := zu10 29 rfl
theorem zs_X4_change : Cond.selects yX4_change.cls yX4_change yX4_change ∈ zW := zin_p (q := (yX4_change, 10)) (by decide +kernel) (by decide +kernel)
theorem zc_X5_init : zCal yX5_init cX5_init 1 none 0 := ⟨by decide +kernel, zu20 17 rfl, zu0 3 rfl, by decide +kernel, by decide⟩
theorem zi_X5_init : Cond.instanceMethod yX5_init ∈ zW := zu2 2 rfl
theorem zc_X5_begin : zCal yX5_begin cX5_begin 3 none 1 := ⟨by decide +kernel, zu21 7 rfl, zu0 3 rfl, by decide +kernel, by decide⟩
theorem zi_X5_begin : Cond.instanceMethod yX5_begin ∈ zW := zu5 33 rfl
theorem zs_X5_begin : Cond.selects yX5_begin.cls yX5_begin yX5_begin ∈ zW := zu5 34 rfl
theorem zc_X5_copy : zCal yX5_copy cX5_copy 2 none 1 := ⟨by decide +kernel, zu21 29 rfl, zu0 3 rfl, by decide +kernel, by decide⟩
theorem zi_X5_copy : Cond.instanceMethod yX5_copy ∈ zW := zu7 17 rfl
theorem zs_X5_copy : Cond.selects yX5_copy.cls yX5_copy yX5_copy ∈ zW := zu7 18 rfl
theorem zc_X5_hoardedBy : zCal yX5_hoardedBy cX5_hoardedBy 3 (some .int) 2 := ⟨by decide +kernel, zu21 20 rfl, zu0 3 rfl, by decide +kernel, by decide⟩
theorem zi_X5_hoardedBy : Cond.instanceMethod yX5_hoardedBy ∈ zW := zu6 29 rfl
theorem zs_X5_hoardedBy : Cond.selects yX5_hoardedBy.cls yX5_hoardedBy yX5_hoardedBy ∈ zW := zu6 30 rfl
theorem zc_X5_addHoarded : zCal yX5_addHoarded cX5_addHoarded 4 none 3 := ⟨by decide +kernel, zu21 36 rfl, zu0 3 rfl, by decide +kernel, by decide⟩
theorem zi_X5_addHoarded : Cond.instanceMethod yX5_addHoarded ∈ zW := zu8 1 rfl
theorem zs_X5_addHoarded : Cond.selects yX5_addHoarded.cls yX5_addHoarded yX5_addHoarded ∈ zW := zu8 2 rfl
theorem zc_X5_hoardedByAll : zCal yX5_hoardedByAll cX5_hoardedByAll 4 (some .int) 1 := ⟨by decide +kernel, zu21 19 rfl, zu0 3 rfl, by decide +kernel, by decide⟩
theorem zi_X5_hoardedByAll : Cond.instanceMethod yX5_hoardedByAll ∈ zW := zu6 26 rfl
theorem zs_X5_hoardedByAll : Cond.selects yX5_hoardedByAll.cls yX5_hoardedByAll yX5_hoardedByAll ∈ zW := zu6 27 rfl
theorem zc_X5_supply : zCal yX5_supply cX5_supply 2 (some .int) 1 := ⟨by decide +kernel, zu22 23 rfl, zu0 3 rfl, by decide +kernel, by decide⟩
theorem zi_X5_supply : Cond.instanceMethod yX5_supply ∈ zW := zu10 10 rfl
theorem zs_X5_supply : Cond.selects yX5_supply.cls yX5_supply yX5_supply ∈ zW := zu10 11 rfl
theorem zc_X5_sayable : zCal yX5_sayable cX5_sayable 3 (some .int) 2 := ⟨by decide +kernel, zu21 34 rfl, zu0 3 rfl, by decide +kernel, by decide⟩
theorem zi_X5_sayable : Cond.instanceMethod yX5_sayable ∈ zW := zu7 35 rfl
theorem zs_X5_sayable : Cond.selects yX5_sayable.cls yX5_sayable yX5_sayable ∈ zW := zu7 36 rfl
theorem zc_X5_canSay : zCal yX5_canSay cX5_canSay 3 (some .boolean) 2 := ⟨by decide +kernel, zu21 33 rfl, zu0 3 rfl, by decide +kernel, by decide⟩
theorem zi_X5_canSay : Cond.instanceMethod yX5_canSay ∈ zW := zu7 32 rfl
theorem zs_X5_canSay : Cond.selects yX5_canSay.cls yX5_canSay yX5_canSay ∈ zW := zu7 33 rfl
theorem zc_X5_speak : zCal yX5_speak cX5_speak 3 none 2 := ⟨by decide +kernel, zu21 35 rfl, zu0 3 rfl, by decide +kernel, by decide⟩
theorem zi_X5_speak : Cond.instanceMethod yX5_speak ∈ zW := zu7 38 rfl
theorem zs_X5_speak : Cond.selects yX5_speak.cls yX5_speak yX5_speak ∈ zW := zu7 39 rfl
theorem zc_X5_canGo : zCal yX5_canGo cX5_canGo 4 (some .boolean) 2 := ⟨by decide +kernel, zu21 38 rfl, zu0 3 rfl, by decide +kernel, by decide⟩
theorem zi_X5_canGo : Cond.instanceMethod yX5_canGo ∈ zW := zu8 9 rfl
theorem zs_X5_canGo : Cond.selects yX5_canGo.cls yX5_canGo yX5_canGo ∈ zW := zu8 10 rfl
theorem zc_X5_go : zCal yX5_go cX5_go 4 none 2 := ⟨by decide +kernel, zu21 39 rfl, zu0 3 rfl, by decide +kernel, by decide⟩
theorem zi_X5_go : Cond.instanceMethod yX5_go ∈ zW := zu8 12 rfl
theorem zs_X5_go : Cond.selects yX5_go.cls yX5_go yX5_go ∈ zW := zu8 13 rfl
theorem zc_X5_gesture : zCal yX5_gesture cX5_gesture 1 none 0 := ⟨by decide +kernel, zu22 0 rfl, zu0 3 rfl, by decide +kernel, by decide⟩
theorem zi_X5_gesture : Cond.instanceMethod yX5_gesture ∈ zW := zu8 16 rfl
theorem zs_X5_gesture : Cond.selects yX5_gesture.cls yX5_gesture yX5_gesture ∈ zW := zu8 17 rfl
theorem zc_X5_store : zCal yX5_store cX5_store 4 none 3 := ⟨by decide +kernel, zu22 5 rfl, zu0 3 rfl, by decide +kernel, by decide⟩
theorem zi_X5_store : Cond.instanceMethod yX5_store ∈ zW := zu8 37 rfl
theorem zs_X5_store : Cond.selects yX5_store.cls yX5_store yX5_store ∈ zW := zu8 38 rfl
theorem zc_X5_passDay : zCal yX5_passDay cX5_passDay 4 none 1 := ⟨by decide +kernel, zu21 30 rfl, zu0 3 rfl, by decide +kernel, by decide⟩
theorem zi_X5_passDay : Cond.instanceMethod yX5_passDay ∈ zW := zu7 24 rfl
theorem zs_X5_passDay : Cond.selects yX5_passDay.cls yX5_passDay yX5_passDay ∈ zW := zu7 25 rfl
theorem zc_X5_meetOrLose : zCal yX5_meetOrLose cX5_meetOrLose 3 none 2 := ⟨by decide +kernel, zu21 31 rfl, zu0 3 rfl, by decide +kernel, by decide⟩
theorem zi_X5_meetOrLose : Cond.instanceMethod yX5_meetOrLose ∈ zW := zu7 28 rfl
theorem zs_X5_meetOrLose : Cond.selects yX5_meetOrLose.cls yX5_meetOrLose yX5_meetOrLose ∈ zW := zin_p (q := (yX5_meetOrLose, 9)) (by decide +kernel) (by decide +kernel)
theorem zc_X5_meets : zCal yX5_meets cX5_meets 6 (some .boolean) 3 := ⟨by decide +kernel, zu21 32 rfl, zu0 3 rfl, by decide +kernel, by decide⟩
theorem zi_X5_meets : Cond.instanceMethod yX5_meets ∈ zW := zu7 30 rfl
theorem zs_X5_meets : Cond.selects yX5_meets.cls yX5_meets yX5_meets ∈ zW := zin_p (q := (yX5_meets, 9)) (by decide +kernel) (by decide +kernel)
theorem zc_X5_beginYear : zCal yX5_beginYear cX5_beginYear 2 none 0 := ⟨by decide +kernel, zu21 8 rfl, zu0 3 rfl, by decide +kernel, by decide⟩
theorem zi_X5_beginYear : Cond.instanceMethod yX5_beginYear ∈ zW := zu5 36 rfl
theorem zs_X5_beginYear : Cond.selects yX5_beginYear.cls yX5_beginYear yX5_beginYear ∈ zW := zin_p (q := (yX5_beginYear, 9)) (by decide +kernel) (by decide +kernel)
theorem zc_X5_counted : zCal yX5_counted cX5_counted 2 (some .int) 2 := ⟨by decide +kernel, zu21 37 rfl, zu0 3 rfl, by decide +kernel, by decide⟩
theorem zs_X5_counted : Cond.static yX5_counted ∈ zW := zu8 4 rfl
theorem zc_X6_init : zCal yX6_init cX6_init 1 none 0 := ⟨by decide +kernel, zu20 15 rfl, zu0 1 rfl, by decide +kernel, by decide⟩
theorem zi_X6_init : Cond.instanceMethod yX6_init ∈ zW := zu0 21 rfl
theorem zc_X6_isFull : zCal yX6_isFull cX6_isFull 1 (some .boolean) 0 := ⟨by decide +kernel, zu20 24 rfl, zu0 1 rfl, by decide +kernel, by decide⟩
theorem zi_X6_isFull : Cond.instanceMethod yX6_isFull ∈ zW := zu4 14 rfl
theorem zs_X6_isFull : Cond.selects yX6_isFull.cls yX6_isFull yX6_isFull ∈ zW := zu4 15 rfl
theorem zc_X6_add : zCal yX6_add cX6_add 2 none 1 := ⟨by decide +kernel, zu20 25 rfl, zu0 1 rfl, by decide +kernel, by decide⟩
theorem zi_X6_add : Cond.instanceMethod yX6_add ∈ zW := zu4 18 rfl
theorem zs_X6_add : Cond.selects yX6_add.cls yX6_add yX6_add ∈ zW := zu4 19 rfl
theorem zc_X6_empty : zCal yX6_empty cX6_empty 1 none 0 := ⟨by decide +kernel, zu21 6 rfl, zu0 1 rfl, by decide +kernel, by decide⟩
theorem zi_X6_empty : Cond.instanceMethod yX6_empty ∈ zW := zu5 30 rfl
theorem zs_X6_empty : Cond.selects yX6_empty.cls yX6_empty yX6_empty ∈ zW := zu5 31 rfl
theorem zc_X6_readInto : zCal yX6_readInto cX6_readInto 3 none 1 := ⟨by decide +kernel, zu20 27 rfl, zu0 1 rfl, by decide +kernel, by decide⟩
theorem zi_X6_readInto : Cond.instanceMethod yX6_readInto ∈ zW := zu4 24 rfl
theorem zs_X6_readInto : Cond.selects yX6_readInto.cls yX6_readInto yX6_readInto ∈ zW := zu4 25 rfl
theorem zc_X6_readClause : zCal yX6_readClause cX6_readClause 4 none 1 := ⟨by decide +kernel, zu20 30 rfl, zu0 1 rfl, by decide +kernel, by decide⟩
theorem zi_X6_readClause : Cond.instanceMethod yX6_readClause ∈ zW := zu4 32 rfl
theorem zs_X6_readClause : Cond.selects yX6_readClause.cls yX6_readClause yX6_readClause ∈ zW := zin_p (q := (yX6_readClause, 6)) (by decide +kernel) (by decide +kernel)
theorem zc_X6_faultOfName : zCal yX6_faultOfName cX6_faultOfName 3 (some .int) 2 := ⟨by decide +kernel, zu20 32 rfl, zu0 1 rfl, by decide +kernel, by decide⟩
theorem zi_X6_faultOfName : Cond.instanceMethod yX6_faultOfName ∈ zW := zu4 36 rfl
theorem zs_X6_faultOfName : Cond.selects yX6_faultOfName.cls yX6_faultOfName yX6_faultOfName ∈ zW := zin_p (q := (yX6_faultOfName, 6)) (by decide +kernel) (by decide +kernel)
theorem zc_X6_readWord : zCal yX6_readWord cX6_readWord 5 none 1 := ⟨by decide +kernel, zu20 36 rfl, zu0 1 rfl, by decide +kernel, by decide⟩
theorem zi_X6_readWord : Cond.instanceMethod yX6_readWord ∈ zW := zu5 4 rfl
theorem zs_X6_readWord : Cond.selects yX6_readWord.cls yX6_readWord yX6_readWord ∈ zW := zin_p (q := (yX6_readWord, 6)) (by decide +kernel) (by decide +kernel)
theorem zc_X6_readWay : zCal yX6_readWay cX6_readWay 4 none 1 := ⟨by decide +kernel, zu20 38 rfl, zu0 1 rfl, by decide +kernel, by decide⟩
theorem zi_X6_readWay : Cond.instanceMethod yX6_readWay ∈ zW := zu5 9 rfl
theorem zs_X6_readWay : Cond.selects yX6_readWay.cls yX6_readWay yX6_readWay ∈ zW := zin_p (q := (yX6_readWay, 6)) (by decide +kernel) (by decide +kernel)
theorem zc_X6_readPointing : zCal yX6_readPointing cX6_readPointing 3 none 1 := ⟨by decide +kernel, zu21 1 rfl, zu0 1 rfl, by decide +kernel, by decide⟩
theorem zi_X6_readPointing : Cond.instanceMethod yX6_readPointing ∈ zW := zu5 17 rfl
theorem zs_X6_readPointing : Cond.selects yX6_readPointing.cls yX6_readPointing yX6_readPointing ∈ zW := zin_p (q := (yX6_readPointing, 6)) (by decide +kernel) (by decide +kernel)
theorem zc_X6_readNeed : zCal yX6_readNeed cX6_readNeed 6 none 1 := ⟨by decide +kernel, zu21 4 rfl, zu0 1 rfl, by decide +kernel, by decide⟩
theorem zi_X6_readNeed : Cond.instanceMethod yX6_readNeed ∈ zW := zu5 25 rfl
theorem zs_X6_readNeed : Cond.selects yX6_readNeed.cls yX6_readNeed yX6_readNeed ∈ zW := zin_p (q := (yX6_readNeed, 6)) (by decide +kernel) (by decide +kernel)
theorem zc_X6_readNumber : zCal yX6_readNumber cX6_readNumber 5 (some .int) 2 := ⟨by decide +kernel, zu20 34 rfl, zu0 1 rfl, by decide +kernel, by decide⟩
theorem zi_X6_readNumber : Cond.instanceMethod yX6_readNumber ∈ zW := zu5 0 rfl
theorem zs_X6_readNumber : Cond.selects yX6_readNumber.cls yX6_readNumber yX6_readNumber ∈ zW := zin_p (q := (yX6_readNumber, 6)) (by decide +kernel) (by decide +kernel)
theorem zc_X6_skipBlanks : zCal yX6_skipBlanks cX6_skipBlanks 2 none 0 := ⟨by decide +kernel, zu20 29 rfl, zu0 1 rfl, by decide +kernel, by decide⟩
theorem zi_X6_skipBlanks : Cond.instanceMethod yX6_skipBlanks ∈ zW := zu4 30 rfl
theorem zs_X6_skipBlanks : Cond.selects yX6_skipBlanks.cls yX6_skipBlanks yX6_skipBlanks ∈ zW := zin_p (q := (yX6_skipBlanks, 6)) (by decide +kernel) (by decide +kernel)
theorem zc_X6_letterHere : zCal yX6_letterHere cX6_letterHere 1 (some .int) 0 := ⟨by decide +kernel, zu20 31 rfl, zu0 1 rfl, by decide +kernel, by decide⟩
theorem zi_X6_letterHere : Cond.instanceMethod yX6_letterHere ∈ zW := zu4 34 rfl
theorem zs_X6_letterHere : Cond.selects yX6_letterHere.cls yX6_letterHere yX6_letterHere ∈ zW := zin_p (q := (yX6_letterHere, 6)) (by decide +kernel) (by decide +kernel)
theorem zc_X6_blame : zCal yX6_blame cX6_blame 3 none 2 := ⟨by decide +kernel, zu20 33 rfl, zu0 1 rfl, by decide +kernel, by decide⟩
theorem zi_X6_blame : Cond.instanceMethod yX6_blame ∈ zW := zu4 38 rfl
theorem zs_X6_blame : Cond.selects yX6_blame.cls yX6_blame yX6_blame ∈ zW := zin_p (q := (yX6_blame, 6)) (by decide +kernel) (by decide +kernel)
theorem zc_X7_init : zCal yX7_init cX7_init 1 none 0 := ⟨by decide +kernel, zu20 16 rfl, zu0 2 rfl, by decide +kernel, by decide⟩
theorem zi_X7_init : Cond.instanceMethod yX7_init ∈ zW := zu0 35 rfl
theorem zc_X7_clear : zCal yX7_clear cX7_clear 2 none 0 := ⟨by decide +kernel, zu20 28 rfl, zu0 2 rfl, by decide +kernel, by decide⟩
theorem zi_X7_clear : Cond.instanceMethod yX7_clear ∈ zW := zu4 27 rfl
theorem zs_X7_clear : Cond.selects yX7_clear.cls yX7_clear yX7_clear ∈ zW := zu4 28 rfl
theorem zc_X7_addWord : zCal yX7_addWord cX7_addWord 4 none 3 := ⟨by decide +kernel, zu20 37 rfl, zu0 2 rfl, by decide +kernel, by decide⟩
theorem zi_X7_addWord : Cond.instanceMethod yX7_addWord ∈ zW := zu5 6 rfl
theorem zs_X7_addWord : Cond.selects yX7_addWord.cls yX7_addWord yX7_addWord ∈ zW := zu5 7 rfl
theorem zc_X7_addWay : zCal yX7_addWay cX7_addWay 5 none 2 := ⟨by decide +kernel, zu21 0 rfl, zu0 2 rfl, by decide +kernel, by decide⟩
theorem zi_X7_addWay : Cond.instanceMethod yX7_addWay ∈ zW := zu5 14 rfl
theorem zs_X7_addWay : Cond.selects yX7_addWay.cls yX7_addWay yX7_addWay ∈ zW := zu5 15 rfl
theorem zc_X7_addPerson : zCal yX7_addPerson cX7_addPerson 2 none 1 := ⟨by decide +kernel, zu21 3 rfl, zu0 2 rfl, by decide +kernel, by decide⟩
theorem zi_X7_addPerson : Cond.instanceMethod yX7_addPerson ∈ zW := zu5 22 rfl
theorem zs_X7_addPerson : Cond.selects yX7_addPerson.cls yX7_addPerson yX7_addPerson ∈ zW := zu5 23 rfl
theorem zc_X7_addNeed : zCal yX7_addNeed cX7_addNeed 5 none 4 := ⟨by decide +kernel, zu21 5 rfl, zu0 2 rfl, by decide +kernel, by decide⟩
theorem zi_X7_addNeed : Cond.instanceMethod yX7_addNeed ∈ zW := zu5 27 rfl
theorem zs_X7_addNeed : Cond.selects yX7_addNeed.cls yX7_addNeed yX7_addNeed ∈ zW := zu5 28 rfl
theorem zc_X7_wayRound : zCal yX7_wayRound cX7_wayRound 4 (some .int) 2 := ⟨by decide +kernel, zu20 39 rfl, zu0 2 rfl, by decide +kernel, by decide⟩
theorem zi_X7_wayRound : Cond.instanceMethod yX7_wayRound ∈ zW := zu5 11 rfl
theorem zs_X7_wayRound : Cond.selects yX7_wayRound.cls yX7_wayRound yX7_wayRound ∈ zW := zu5 12 rfl
theorem zc_X7_canPoint : zCal yX7_canPoint cX7_canPoint 2 (some .boolean) 1 := ⟨by decide +kernel, zu21 2 rfl, zu0 2 rfl, by decide +kernel, by decide⟩
theorem zi_X7_canPoint : Cond.instanceMethod yX7_canPoint ∈ zW := zu5 19 rfl
theorem zs_X7_canPoint : Cond.selects yX7_canPoint.cls yX7_canPoint yX7_canPoint ∈ zW := zu5 20 rfl
theorem zc_X7_dayOfYear : zCal yX7_dayOfYear cX7_dayOfYear 2 (some .int) 1 := ⟨by decide +kernel, zu21 15 rfl, zu0 2 rfl, by decide +kernel, by decide⟩
theorem zi_X7_dayOfYear : Cond.instanceMethod yX7_dayOfYear ∈ zW := zu6 15 rfl
theorem zs_X7_dayOfYear : Cond.selects yX7_dayOfYear.cls yX7_dayOfYear yX7_dayOfYear ∈ zW := zu6 16 rfl
theorem zc_X7_isToCome : zCal yX7_isToCome cX7_isToCome 3 (some .boolean) 2 := ⟨by decide +kernel, zu21 25 rfl, zu0 2 rfl, by decide +kernel, by decide⟩
theorem zi_X7_isToCome : Cond.instanceMethod yX7_isToCome ∈ zW := zu7 5 rfl
theorem zs_X7_isToCome : Cond.selects yX7_isToCome.cls yX7_isToCome yX7_isToCome ∈ zW := zu7 6 rfl
theorem zc_X7_wouldHaveSaid : zCal yX7_wouldHaveSaid cX7_wouldHaveSaid 6 (some .boolean) 3 := ⟨by decide +kernel, zu23 10 rfl, zu0 2 rfl, by decide +kernel, by decide⟩
theorem zi_X7_wouldHaveSaid : Cond.instanceMethod yX7_wouldHaveSaid ∈ zW := zu12 9 rfl
theorem zs_X7_wouldHaveSaid : Cond.selects yX7_wouldHaveSaid.cls yX7_wouldHaveSaid yX7_wouldHaveSaid ∈ zW := zu12 10 rfl
theorem zc_X8_init : zCal yX8_init cX8_init 2 none 0 := ⟨by decide +kernel, zu20 13 rfl, zu0 0 rfl, by decide +kernel, by decide⟩
theorem zi_X8_init : Cond.instanceMethod yX8_init ∈ zW := zu0 16 rfl
theorem zc_X8_feed : zCal yX8_feed cX8_feed 2 (some .int) 1 := ⟨by decide +kernel, zu20 23 rfl, zu0 0 rfl, by decide +kernel, by decide⟩
theorem zi_X8_feed : Cond.instanceMethod yX8_feed ∈ zW := zu4 10 rfl
theorem zs_X8_feed : Cond.selects yX8_feed.cls yX8_feed yX8_feed ∈ zW := zu4 11 rfl
theorem zc_X8_town : zCal yX8_town cX8_town 3 (some .int) 0 := ⟨by decide +kernel, zu20 26 rfl, zu0 0 rfl, by decide +kernel, by decide⟩
theorem zi_X8_town : Cond.instanceMethod yX8_town ∈ zW := zu4 21 rfl
theorem zs_X8_town : Cond.selects yX8_town.cls yX8_town yX8_town ∈ zW := zu4 22 rfl
theorem zc_X8_fault : zCal yX8_fault cX8_fault 1 (some .int) 0 := ⟨by decide +kernel, zu21 12 rfl, zu0 0 rfl, by decide +kernel, by decide⟩
theorem zi_X8_fault : Cond.instanceMethod yX8_fault ∈ zW := zu6 7 rfl
theorem zs_X8_fault : Cond.selects yX8_fault.cls yX8_fault yX8_fault ∈ zW := zu6 8 rfl
theorem zc_X8_told : zCal yX8_told cX8_told 2 (some .int) 1 := ⟨by decide +kernel, zu21 13 rfl, zu0 0 rfl, by decide +kernel, by decide⟩
theorem zi_X8_told : Cond.instanceMethod yX8_told ∈ zW := zu6 10 rfl
theorem zs_X8_told : Cond.selects yX8_told.cls yX8_told yX8_told ∈ zW := zu6 11 rfl
theorem zc_X8_word : zCal yX8_word cX8_word 3 (some .int) 2 := ⟨by decide +kernel, zu21 17 rfl, zu0 0 rfl, by decide +kernel, by decide⟩
theorem zi_X8_word : Cond.instanceMethod yX8_word ∈ zW := zu6 20 rfl
theorem zs_X8_word : Cond.selects yX8_word.cls yX8_word yX8_word ∈ zW := zu6 21 rfl
theorem zc_X8_hoarded : zCal yX8_hoarded cX8_hoarded 3 (some .int) 2 := ⟨by decide +kernel, zu21 21 rfl, zu0 0 rfl, by decide +kernel, by decide⟩
theorem zi_X8_hoarded : Cond.instanceMethod yX8_hoarded ∈ zW := zu6 34 rfl
theorem zs_X8_hoarded : Cond.selects yX8_hoarded.cls yX8_hoarded yX8_hoarded ∈ zW := zu6 35 rfl
theorem zc_X8_need : zCal yX8_need cX8_need 3 (some .int) 2 := ⟨by decide +kernel, zu21 23 rfl, zu0 0 rfl, by decide +kernel, by decide⟩
theorem zi_X8_need : Cond.instanceMethod yX8_need ∈ zW := zu7 0 rfl
theorem zs_X8_need : Cond.selects yX8_need.cls yX8_need yX8_need ∈ zW := zu7 1 rfl
theorem zc_X8_day : zCal yX8_day cX8_day 4 (some .int) 1 := ⟨by decide +kernel, zu21 26 rfl, zu0 0 rfl, by decide +kernel, by decide⟩
theorem zi_X8_day : Cond.instanceMethod yX8_day ∈ zW := zu7 8 rfl
theorem zs_X8_day : Cond.selects yX8_day.cls yX8_day yX8_day ∈ zW := zu7 9 rfl
theorem zc_X8_say : zCal yX8_say cX8_say 3 (some .int) 2 := ⟨by decide +kernel, zu22 1 rfl, zu0 0 rfl, by decide +kernel, by decide⟩
theorem zi_X8_say : Cond.instanceMethod yX8_say ∈ zW := zu8 19 rfl
theorem zs_X8_say : Cond.selects yX8_say.cls yX8_say yX8_say ∈ zW := zu8 20 rfl
theorem zc_X8_around : zCal yX8_around cX8_around 5 (some .int) 3 := ⟨by decide +kernel, zu22 2 rfl, zu0 0 rfl, by decide +kernel, by decide⟩
theorem zi_X8_around : Cond.instanceMethod yX8_around ∈ zW := zu8 25 rfl
theorem zs_X8_around : Cond.selects yX8_around.cls yX8_around yX8_around ∈ zW := zu8 26 rfl
theorem zc_X8_point : zCal yX8_point cX8_point 2 (some .int) 1 := ⟨by decide +kernel, zu22 3 rfl, zu0 0 rfl, by decide +kernel, by decide⟩
theorem zi_X8_point : Cond.instanceMethod yX8_point ∈ zW := zu8 30 rfl
theorem zs_X8_point : Cond.selects yX8_point.cls yX8_point yX8_point ∈ zW := zu8 31 rfl
theorem zc_X8_hoard : zCal yX8_hoard cX8_hoard 4 (some .int) 3 := ⟨by decide +kernel, zu22 4 rfl, zu0 0 rfl, by decide +kernel, by decide⟩
theorem zi_X8_hoard : Cond.instanceMethod yX8_hoard ∈ zW := zu8 34 rfl
theorem zs_X8_hoard : Cond.selects yX8_hoard.cls yX8_hoard yX8_hoard ∈ zW := zu8 35 rfl
theorem zc_X8_sell : zCal yX8_sell cX8_sell 5 (some .int) 4 := ⟨by decide +kernel, zu22 6 rfl, zu0 0 rfl, by decide +kernel, by decide⟩
theorem zi_X8_sell : Cond.instanceMethod yX8_sell ∈ zW := zu9 0 rfl
theorem zs_X8_sell : Cond.selects yX8_sell.cls yX8_sell yX8_sell ∈ zW := zu9 1 rfl
theorem zc_X8_raise : zCal yX8_raise cX8_raise 3 (some .int) 2 := ⟨by decide +kernel, zu22 7 rfl, zu0 0 rfl, by decide +kernel, by decide⟩
theorem zi_X8_raise : Cond.instanceMethod yX8_raise ∈ zW := zu9 4 rfl
theorem zs_X8_raise : Cond.selects yX8_raise.cls yX8_raise yX8_raise ∈ zW := zu9 5 rfl
theorem zc_X8_drift : zCal yX8_drift cX8_drift 4 (some .int) 1 := ⟨by decide +kernel, zu22 8 rfl, zu0 0 rfl, by decide +kernel, by decide⟩
theorem zi_X8_drift : Cond.instanceMethod yX8_drift ∈ zW := zu9 7 rfl
theorem zs_X8_drift : Cond.selects yX8_drift.cls yX8_drift yX8_drift ∈ zW := zu9 8 rfl
theorem zc_X8_undo : zCal yX8_undo cX8_undo 1 (some .int) 0 := ⟨by decide +kernel, zu22 11 rfl, zu0 0 rfl, by decide +kernel, by decide⟩
theorem zi_X8_undo : Cond.instanceMethod yX8_undo ∈ zW := zu9 18 rfl
theorem zs_X8_undo : Cond.selects yX8_undo.cls yX8_undo yX8_undo ∈ zW := zu9 19 rfl
theorem zc_X8_cheapest : zCal yX8_cheapest cX8_cheapest 4 (some .int) 3 := ⟨by decide +kernel, zu22 13 rfl, zu0 0 rfl, by decide +kernel, by decide⟩
theorem zi_X8_cheapest : Cond.instanceMethod yX8_cheapest ∈ zW := zu9 24 rfl
theorem zs_X8_cheapest : Cond.selects yX8_cheapest.cls yX8_cheapest yX8_cheapest ∈ zW := zu9 25 rfl
theorem zc_X8_runsOut : zCal yX8_runsOut cX8_runsOut 4 (some .int) 1 := ⟨by decide +kernel, zu22 18 rfl, zu0 0 rfl, by decide +kernel, by decide⟩
theorem zi_X8_runsOut : Cond.instanceMethod yX8_runsOut ∈ zW := zu9 35 rfl
theorem zs_X8_runsOut : Cond.selects yX8_runsOut.cls yX8_runsOut yX8_runsOut ∈ zW := zu9 36 rfl
theorem zc_X8_willBe : zCal yX8_willBe cX8_willBe 3 (some .int) 1 := ⟨by decide +kernel, zu22 19 rfl, zu0 0 rfl, by decide +kernel, by decide⟩
theorem zi_X8_willBe : Cond.instanceMethod yX8_willBe ∈ zW := zu9 39 rfl
theorem zs_X8_willBe : Cond.selects yX8_willBe.cls yX8_willBe yX8_willBe ∈ zW := zu10 0 rfl
theorem zc_X8_plan : zCal yX8_plan cX8_plan 2 (some .int) 1 := ⟨by decide +kernel, zu22 20 rfl, zu0 0 rfl, by decide +kernel, by decide⟩
theorem zi_X8_plan : Cond.instanceMethod yX8_plan ∈ zW := zu10 2 rfl
theorem zs_X8_plan : Cond.selects yX8_plan.cls yX8_plan yX8_plan ∈ zW := zu10 3 rfl
theorem zc_X8_price : zCal yX8_price cX8_price 4 (some .int) 1 := ⟨by decide +kernel, zu22 32 rfl, zu0 0 rfl, by decide +kernel, by decide⟩
theorem zi_X8_price : Cond.instanceMethod yX8_price ∈ zW := zu10 39 rfl
theorem zs_X8_price : Cond.selects yX8_price.cls yX8_price yX8_price ∈ zW := zu11 0 rfl
theorem zc_X8_sells : zCal yX8_sells cX8_sells 6 (some .int) 2 := ⟨by decide +kernel, zu22 35 rfl, zu0 0 rfl, by decide +kernel, by decide⟩
theorem zi_X8_sells : Cond.instanceMethod yX8_sells ∈ zW := zu11 7 rfl
theorem zs_X8_sells : Cond.selects yX8_sells.cls yX8_sells yX8_sells ∈ zW := zu11 8 rfl
theorem zc_X8_share : zCal yX8_share cX8_share 9 (some .int) 2 := ⟨by decide +kernel, zu22 38 rfl, zu0 0 rfl, by decide +kernel, by decide⟩
theorem zi_X8_share : Cond.instanceMethod yX8_share ∈ zW := zu11 14 rfl
theorem zs_X8_share : Cond.selects yX8_share.cls yX8_share yX8_share ∈ zW := zu11 15 rfl
theorem zc_X8_more : zCal yX8_more cX8_more 4 (some .int) 1 := ⟨by decide +kernel, zu22 39 rfl, zu0 0 rfl, by decide +kernel, by decide⟩
theorem zi_X8_more : Cond.instanceMethod yX8_more ∈ zW := zu11 17 rfl
theorem zs_X8_more : Cond.selects yX8_more.cls yX8_more yX8_more ∈ zW := zu11 18 rfl
theorem zc_X8_fire : zCal yX8_fire cX8_fire 5 (some .int) 2 := ⟨by decide +kernel, zu23 1 rfl, zu0 0 rfl, by decide +kernel, by decide⟩
theorem zi_X8_fire : Cond.instanceMethod yX8_fire ∈ zW := zu11 22 rfl
theorem zs_X8_fire : Cond.selects yX8_fire.cls yX8_fire yX8_fire ∈ zW := zu11 23 rfl
theorem zc_X8_rhymes : zCal yX8_rhymes cX8_rhymes 5 (some .int) 1 := ⟨by decide +kernel, zu23 3 rfl, zu0 0 rfl, by decide +kernel, by decide⟩
theorem zi_X8_rhymes : Cond.instanceMethod yX8_rhymes ∈ zW := zu11 27 rfl
theorem zs_X8_rhymes : Cond.selects yX8_rhymes.cls yX8_rhymes yX8_rhymes ∈ zW := zu11 28 rfl
theorem zc_X8_silent : zCal yX8_silent cX8_silent 6 (some .int) 2 := ⟨by decide +kernel, zu23 4 rfl, zu0 0 rfl, by decide +kernel, by decide⟩
theorem zi_X8_silent : Cond.instanceMethod yX8_silent ∈ zW := zu11 30 rfl
theorem zs_X8_silent : Cond.selects yX8_silent.cls yX8_silent yX8_silent ∈ zW := zu11 31 rfl
theorem zc_X8_knot : zCal yX8_knot cX8_knot 4 (some .int) 3 := ⟨by decide +kernel, zu23 5 rfl, zu0 0 rfl, by decide +kernel, by decide⟩
theorem zi_X8_knot : Cond.instanceMethod yX8_knot ∈ zW := zu11 35 rfl
theorem zs_X8_knot : Cond.selects yX8_knot.cls yX8_knot yX8_knot ∈ zW := zu11 36 rfl
theorem zc_X8_who : zCal yX8_who cX8_who 1 (some .int) 0 := ⟨by decide +kernel, zu23 7 rfl, zu0 0 rfl, by decide +kernel, by decide⟩
theorem zi_X8_who : Cond.instanceMethod yX8_who ∈ zW := zu12 1 rfl
theorem zs_X8_who : Cond.selects yX8_who.cls yX8_who yX8_who ∈ zW := zu12 2 rfl
theorem zc_X8_ask : zCal yX8_ask cX8_ask 7 (some .int) 0 := ⟨by decide +kernel, zu23 11 rfl, zu0 0 rfl, by decide +kernel, by decide⟩
theorem zi_X8_ask : Cond.instanceMethod yX8_ask ∈ zW := zu12 12 rfl
theorem zs_X8_ask : Cond.selects yX8_ask.cls yX8_ask yX8_ask ∈ zW := zu12 13 rfl
theorem zc_X8_write : zCal yX8_write cX8_write 3 (some .int) 2 := ⟨by decide +kernel, zu23 13 rfl, zu0 0 rfl, by decide +kernel, by decide⟩
theorem zi_X8_write : Cond.instanceMethod yX8_write ∈ zW := zu12 19 rfl
theorem zs_X8_write : Cond.selects yX8_write.cls yX8_write yX8_write ∈ zW := zu12 20 rfl
theorem zc_X8_tear : zCal yX8_tear cX8_tear 2 (some .int) 0 := ⟨by decide +kernel, zu23 15 rfl, zu0 0 rfl, by decide +kernel, by decide⟩
theorem zi_X8_tear : Cond.instanceMethod yX8_tear ∈ zW := zu12 25 rfl
theorem zs_X8_tear : Cond.selects yX8_tear.cls yX8_tear yX8_tear ∈ zW := zu12 26 rfl
theorem zc_X8_judge : zCal yX8_judge cX8_judge 1 (some .int) 0 := ⟨by decide +kernel, zu23 16 rfl, zu0 0 rfl, by decide +kernel, by decide⟩
theorem zi_X8_judge : Cond.instanceMethod yX8_judge ∈ zW := zu12 28 rfl
theorem zs_X8_judge : Cond.selects yX8_judge.cls yX8_judge yX8_judge ∈ zW := zu12 29 rfl
theorem zc_X8_seed : zCal yX8_seed cX8_seed 3 (some .int) 1 := ⟨by decide +kernel, zu23 18 rfl, zu0 0 rfl, by decide +kernel, by decide⟩
theorem zi_X8_seed : Cond.instanceMethod yX8_seed ∈ zW := zu12 34 rfl
theorem zs_X8_seed : Cond.selects yX8_seed.cls yX8_seed yX8_seed ∈ zW := zu12 35 rfl
theorem zc_X8_keep : zCal yX8_keep cX8_keep 3 (some .int) 1 := ⟨by decide +kernel, zu23 19 rfl, zu0 0 rfl, by decide +kernel, by decide⟩
theorem zi_X8_keep : Cond.instanceMethod yX8_keep ∈ zW := zu12 37 rfl
theorem zs_X8_keep : Cond.selects yX8_keep.cls yX8_keep yX8_keep ∈ zW := zu12 38 rfl
theorem zc_X8_goBack : zCal yX8_goBack cX8_goBack 3 (some .int) 1 := ⟨by decide +kernel, zu23 20 rfl, zu0 0 rfl, by decide +kernel, by decide⟩
theorem zi_X8_goBack : Cond.instanceMethod yX8_goBack ∈ zW := zu13 0 rfl
theorem zs_X8_goBack : Cond.selects yX8_goBack.cls yX8_goBack yX8_goBack ∈ zW := zu13 1 rfl
theorem zc_X8_isWord : zCal yX8_isWord cX8_isWord 2 (some .boolean) 1 := ⟨by decide +kernel, zu21 18 rfl, zu0 0 rfl, by decide +kernel, by decide⟩
theorem zi_X8_isWord : Cond.instanceMethod yX8_isWord ∈ zW := zu6 23 rfl
theorem zs_X8_isWord : Cond.selects yX8_isWord.cls yX8_isWord yX8_isWord ∈ zW := zin_p (q := (yX8_isWord, 13)) (by decide +kernel) (by decide +kernel)
theorem zc_X8_isPerson : zCal yX8_isPerson cX8_isPerson 2 (some .boolean) 1 := ⟨by decide +kernel, zu21 22 rfl, zu0 0 rfl, by decide +kernel, by decide⟩
theorem zi_X8_isPerson : Cond.instanceMethod yX8_isPerson ∈ zW := zu6 37 rfl
theorem zs_X8_isPerson : Cond.selects yX8_isPerson.cls yX8_isPerson yX8_isPerson ∈ zW := zin_p (q := (yX8_isPerson, 13)) (by decide +kernel) (by decide +kernel)
theorem zc_X8_isNeed : zCal yX8_isNeed cX8_isNeed 2 (some .boolean) 1 := ⟨by decide +kernel, zu21 24 rfl, zu0 0 rfl, by decide +kernel, by decide⟩
theorem zi_X8_isNeed : Cond.instanceMethod yX8_isNeed ∈ zW := zu7 3 rfl
theorem zs_X8_isNeed : Cond.selects yX8_isNeed.cls yX8_isNeed yX8_isNeed ∈ zW := zin_p (q := (yX8_isNeed, 13)) (by decide +kernel) (by decide +kernel)
theorem zc_X8_today : zCal yX8_today cX8_today 1 (some .int) 0 := ⟨by decide +kernel, zu21 14 rfl, zu0 0 rfl, by decide +kernel, by decide⟩
theorem zi_X8_today : Cond.instanceMethod yX8_today ∈ zW := zu6 13 rfl
theorem zs_X8_today : Cond.selects yX8_today.cls yX8_today yX8_today ∈ zW := zin_p (q := (yX8_today, 13)) (by decide +kernel) (by decide +kernel)
theorem zc_X8_neverSaid : zCal yX8_neverSaid cX8_neverSaid 3 (some .int) 0 := ⟨by decide +kernel, zu21 16 rfl, zu0 0 rfl, by decide +kernel, by decide⟩
theorem zi_X8_neverSaid : Cond.instanceMethod yX8_neverSaid ∈ zW := zu6 18 rfl
theorem zs_X8_neverSaid : Cond.selects yX8_neverSaid.cls yX8_neverSaid yX8_neverSaid ∈ zW := zin_p (q := (yX8_neverSaid, 13)) (by decide +kernel) (by decide +kernel)
theorem zc_X8_refusalOfDays : zCal yX8_refusalOfDays cX8_refusalOfDays 2 (some .int) 1 := ⟨by decide +kernel, zu21 27 rfl, zu0 0 rfl, by decide +kernel, by decide⟩
theorem zi_X8_refusalOfDays : Cond.instanceMethod yX8_refusalOfDays ∈ zW := zu7 11 rfl
theorem zs_X8_refusalOfDays : Cond.selects yX8_refusalOfDays.cls yX8_refusalOfDays yX8_refusalOfDays ∈ zW := zin_p (q := (yX8_refusalOfDays, 13)) (by decide +kernel) (by decide +kernel)
theorem zc_X8_drawOf : zCal yX8_drawOf cX8_drawOf 4 (some .int) 1 := ⟨by decide +kernel, zu22 10 rfl, zu0 0 rfl, by decide +kernel, by decide⟩
theorem zi_X8_drawOf : Cond.instanceMethod yX8_drawOf ∈ zW := zu9 12 rfl
theorem zs_X8_drawOf : Cond.selects yX8_drawOf.cls yX8_drawOf yX8_drawOf ∈ zW := zin_p (q := (yX8_drawOf, 13)) (by decide +kernel) (by decide +kernel)
theorem zc_X8_doByDraws : zCal yX8_doByDraws cX8_doByDraws 4 none 0 := ⟨by decide +kernel, zu22 9 rfl, zu0 0 rfl, by decide +kernel, by decide⟩
theorem zi_X8_doByDraws : Cond.instanceMethod yX8_doByDraws ∈ zW := zu9 10 rfl
theorem zs_X8_doByDraws : Cond.selects yX8_doByDraws.cls yX8_doByDraws yX8_doByDraws ∈ zW := zin_p (q := (yX8_doByDraws, 13)) (by decide +kernel) (by decide +kernel)
theorem zc_X8_workOutCheap : zCal yX8_workOutCheap cX8_workOutCheap 6 none 1 := ⟨by decide +kernel, zu22 14 rfl, zu0 0 rfl, by decide +kernel, by decide⟩
theorem zi_X8_workOutCheap : Cond.instanceMethod yX8_workOutCheap ∈ zW := zu9 27 rfl
theorem zs_X8_workOutCheap : Cond.selects yX8_workOutCheap.cls yX8_workOutCheap yX8_workOutCheap ∈ zW := zin_p (q := (yX8_workOutCheap, 13)) (by decide +kernel) (by decide +kernel)
theorem zc_X8_cheapestKind : zCal yX8_cheapestKind cX8_cheapestKind 4 (some .int) 2 := ⟨by decide +kernel, zu22 17 rfl, zu0 0 rfl, by decide +kernel, by decide⟩
theorem zi_X8_cheapestKind : Cond.instanceMethod yX8_cheapestKind ∈ zW := zu9 33 rfl
theorem zs_X8_cheapestKind : Cond.selects yX8_cheapestKind.cls yX8_cheapestKind yX8_cheapestKind ∈ zW := zin_p (q := (yX8_cheapestKind, 13)) (by decide +kernel) (by decide +kernel)
theorem zc_X8_costBy : zCal yX8_costBy cX8_costBy 4 (some .int) 3 := ⟨by decide +kernel, zu22 15 rfl, zu0 0 rfl, by decide +kernel, by decide⟩
theorem zi_X8_costBy : Cond.instanceMethod yX8_costBy ∈ zW := zu9 29 rfl
theorem zs_X8_costBy : Cond.selects yX8_costBy.cls yX8_costBy yX8_costBy ∈ zW := zin_p (q := (yX8_costBy, 13)) (by decide +kernel) (by decide +kernel)
theorem zc_X8_cheapTogether : zCal yX8_cheapTogether cX8_cheapTogether 4 (some .int) 1 := ⟨by decide +kernel, zu22 16 rfl, zu0 0 rfl, by decide +kernel, by decide⟩
theorem zi_X8_cheapTogether : Cond.instanceMethod yX8_cheapTogether ∈ zW := zu9 31 rfl
theorem zs_X8_cheapTogether : Cond.selects yX8_cheapTogether.cls yX8_cheapTogether yX8_cheapTogether ∈ zW := zin_p (q := (yX8_cheapTogether, 13)) (by decide +kernel) (by decide +kernel)
theorem zc_X8_isToComeOf : zCal yX8_isToComeOf cX8_isToComeOf 3 (some .boolean) 2 := ⟨by decide +kernel, zu22 33 rfl, zu0 0 rfl, by decide +kernel, by decide⟩
theorem zi_X8_isToComeOf : Cond.instanceMethod yX8_isToComeOf ∈ zW := zu11 3 rfl
theorem zs_X8_isToComeOf : Cond.selects yX8_isToComeOf.cls yX8_isToComeOf yX8_isToComeOf ∈ zW := zin_p (q := (yX8_isToComeOf, 13)) (by decide +kernel) (by decide +kernel)
theorem zc_X8_rankByWorth : zCal yX8_rankByWorth cX8_rankByWorth 7 (some .int) 2 := ⟨by decide +kernel, zu22 34 rfl, zu0 0 rfl, by decide +kernel, by decide⟩
theorem zi_X8_rankByWorth : Cond.instanceMethod yX8_rankByWorth ∈ zW := zu11 5 rfl
theorem zs_X8_rankByWorth : Cond.selects yX8_rankByWorth.cls yX8_rankByWorth yX8_rankByWorth ∈ zW := zin_p (q := (yX8_rankByWorth, 13)) (by decide +kernel) (by decide +kernel)
theorem zc_X8_needsToCome : zCal yX8_needsToCome cX8_needsToCome 5 (some .int) 2 := ⟨by decide +kernel, zu22 37 rfl, zu0 0 rfl, by decide +kernel, by decide⟩
theorem zi_X8_needsToCome : Cond.instanceMethod yX8_needsToCome ∈ zW := zu11 12 rfl
theorem zs_X8_needsToCome : Cond.selects yX8_needsToCome.cls yX8_needsToCome yX8_needsToCome ∈ zW := zin_p (q := (yX8_needsToCome, 13)) (by decide +kernel) (by decide +kernel)
theorem zc_X8_wouldSell : zCal yX8_wouldSell cX8_wouldSell 4 (some .boolean) 3 := ⟨by decide +kernel, zu22 36 rfl, zu0 0 rfl, by decide +kernel, by decide⟩
theorem zi_X8_wouldSell : Cond.instanceMethod yX8_wouldSell ∈ zW := zu11 10 rfl
theorem zs_X8_wouldSell : Cond.selects yX8_wouldSell.cls yX8_wouldSell yX8_wouldSell ∈ zW := zin_p (q := (yX8_wouldSell, 13)) (by decide +kernel) (by decide +kernel)
theorem zc_X8_oneNightMore : zCal yX8_oneNightMore cX8_oneNightMore 4 (some .int) 2 := ⟨by decide +kernel, zu23 2 rfl, zu0 0 rfl, by decide +kernel, by decide⟩
theorem zs_X8_oneNightMore : Cond.static yX8_oneNightMore ∈ zW := zu11 25 rfl
theorem zc_X8_greatestPart : zCal yX8_greatestPart cX8_greatestPart 7 (some .int) 3 := ⟨by decide +kernel, zu23 12 rfl, zu0 0 rfl, by decide +kernel, by decide⟩
theorem zi_X8_greatestPart : Cond.instanceMethod yX8_greatestPart ∈ zW := zu12 16 rfl
theorem zs_X8_greatestPart : Cond.selects yX8_greatestPart.cls yX8_greatestPart yX8_greatestPart ∈ zW := zin_p (q := (yX8_greatestPart, 13)) (by decide +kernel) (by decide +kernel)
theorem zc_X9_init : zCal yX9_init cX9_init 1 none 0 := ⟨by decide +kernel, zu23 21 rfl, zu0 9 rfl, by decide +kernel, by decide⟩
theorem zi_X9_init : Cond.instanceMethod yX9_init ∈ zW := zu13 5 rfl
theorem zc_X9_in : zCal yX9_in cX9_in 6 (some .boolean) 3 := ⟨by decide +kernel, zu23 23 rfl, zu0 9 rfl, by decide +kernel, by decide⟩
theorem zs_X9_in : Cond.static yX9_in ∈ zW := zu14 30 rfl
theorem zc_X9_isWord : zCal yX9_isWord cX9_isWord 2 (some .boolean) 1 := ⟨by decide +kernel, zu24 4 rfl, zu0 9 rfl, by decide +kernel, by decide⟩
theorem zi_X9_isWord : Cond.instanceMethod yX9_isWord ∈ zW := zu15 38 rfl
theorem zs_X9_isWord : Cond.selects yX9_isWord.cls yX9_isWord yX9_isWord ∈ zW := zin_p (q := (yX9_isWord, 58)) (by decide +kernel) (by decide +kernel)
theorem zc_X9_isPerson : zCal yX9_isPerson cX9_isPerson 2 (some .boolean) 1 := ⟨by decide +kernel, zu24 7 rfl, zu0 9 rfl, by decide +kernel, by decide⟩
theorem zi_X9_isPerson : Cond.instanceMethod yX9_isPerson ∈ zW := zu16 6 rfl
theorem zs_X9_isPerson : Cond.selects yX9_isPerson.cls yX9_isPerson yX9_isPerson ∈ zW := zin_p (q := (yX9_isPerson, 58)) (by decide +kernel) (by decide +kernel)
theorem zc_X9_isNeed : zCal yX9_isNeed cX9_isNeed 2 (some .boolean) 1 := ⟨by decide +kernel, zu24 9 rfl, zu0 9 rfl, by decide +kernel, by decide⟩
theorem zi_X9_isNeed : Cond.instanceMethod yX9_isNeed ∈ zW := zu16 11 rfl
theorem zs_X9_isNeed : Cond.selects yX9_isNeed.cls yX9_isNeed yX9_isNeed ∈ zW := zin_p (q := (yX9_isNeed, 58)) (by decide +kernel) (by decide +kernel)
theorem zc_X9_has : zCal yX9_has cX9_has 2 (some .boolean) 2 := ⟨by decide +kernel, zu23 36 rfl, zu0 9 rfl, by decide +kernel, by decide⟩
theorem zs_X9_has : Cond.static yX9_has ∈ zW := zu15 19 rfl
theorem zc_X9_bits : zCal yX9_bits cX9_bits 3 (some .int) 1 := ⟨by decide +kernel, zu25 5 rfl, zu0 9 rfl, by decide +kernel, by decide⟩
theorem zs_X9_bits : Cond.static yX9_bits ∈ zW := zu18 25 rfl
theorem zc_X9_up : zCal yX9_up cX9_up 2 (some .int) 2 := ⟨by decide +kernel, zu24 20 rfl, zu0 9 rfl, by decide +kernel, by decide⟩
theorem zs_X9_up : Cond.static yX9_up ∈ zW := zu16 37 rfl
theorem zc_X9_person : zCal yX9_person cX9_person 2 (some .int) 1 := ⟨by decide +kernel, zu24 16 rfl, zu0 9 rfl, by decide +kernel, by decide⟩
theorem zi_X9_person : Cond.instanceMethod yX9_person ∈ zW := zu16 29 rfl
theorem zs_X9_person : Cond.selects yX9_person.cls yX9_person yX9_person ∈ zW := zin_p (q := (yX9_person, 58)) (by decide +kernel) (by decide +kernel)
theorem zc_X9_wordOf : zCal yX9_wordOf cX9_wordOf 2 (some .int) 1 := ⟨by decide +kernel, zu24 17 rfl, zu0 9 rfl, by decide +kernel, by decide⟩
theorem zi_X9_wordOf : Cond.instanceMethod yX9_wordOf ∈ zW := zu16 31 rfl
theorem zs_X9_wordOf : Cond.selects yX9_wordOf.cls yX9_wordOf yX9_wordOf ∈ zW := zin_p (q := (yX9_wordOf, 58)) (by decide +kernel) (by decide +kernel)
theorem zc_X9_dayOf : zCal yX9_dayOf cX9_dayOf 2 (some .int) 1 := ⟨by decide +kernel, zu24 11 rfl, zu0 9 rfl, by decide +kernel, by decide⟩
theorem zi_X9_dayOf : Cond.instanceMethod yX9_dayOf ∈ zW := zu16 16 rfl
theorem zs_X9_dayOf : Cond.selects yX9_dayOf.cls yX9_dayOf yX9_dayOf ∈ zW := zin_p (q := (yX9_dayOf, 58)) (by decide +kernel) (by decide +kernel)
theorem zc_X9_worthOf : zCal yX9_worthOf cX9_worthOf 2 (some .int) 1 := ⟨by decide +kernel, zu24 23 rfl, zu0 9 rfl, by decide +kernel, by decide⟩
theorem zi_X9_worthOf : Cond.instanceMethod yX9_worthOf ∈ zW := zu17 4 rfl
theorem zs_X9_worthOf : Cond.selects yX9_worthOf.cls yX9_worthOf yX9_worthOf ∈ zW := zin_p (q := (yX9_worthOf, 58)) (by decide +kernel) (by decide +kernel)
theorem zc_X9_feed : zCal yX9_feed cX9_feed 2 (some .int) 1 := ⟨by decide +kernel, zu23 22 rfl, zu0 9 rfl, by decide +kernel, by decide⟩
theorem zi_X9_feed : Cond.instanceMethod yX9_feed ∈ zW := zu14 26 rfl
theorem zs_X9_feed : Cond.selects yX9_feed.cls yX9_feed yX9_feed ∈ zW := zu14 27 rfl
theorem zc_X9_bad : zCal yX9_bad cX9_bad 3 none 2 := ⟨by decide +kernel, zu23 28 rfl, zu0 9 rfl, by decide +kernel, by decide⟩
theorem zi_X9_bad : Cond.instanceMethod yX9_bad ∈ zW := zu15 3 rfl
theorem zs_X9_bad : Cond.selects yX9_bad.cls yX9_bad yX9_bad ∈ zW := zin_p (q := (yX9_bad, 58)) (by decide +kernel) (by decide +kernel)
theorem zc_X9_letterNow : zCal yX9_letterNow cX9_letterNow 1 (some .int) 0 := ⟨by decide +kernel, zu23 26 rfl, zu0 9 rfl, by decide +kernel, by decide⟩
theorem zi_X9_letterNow : Cond.instanceMethod yX9_letterNow ∈ zW := zu14 39 rfl
theorem zs_X9_letterNow : Cond.selects yX9_letterNow.cls yX9_letterNow yX9_letterNow ∈ zW := zin_p (q := (yX9_letterNow, 58)) (by decide +kernel) (by decide +kernel)
theorem zc_X9_isFigure : zCal yX9_isFigure cX9_isFigure 1 (some .boolean) 1 := ⟨by decide +kernel, zu23 31 rfl, zu0 9 rfl, by decide +kernel, by decide⟩
theorem zs_X9_isFigure : Cond.static yX9_isFigure ∈ zW := zu15 9 rfl
theorem zc_X9_number : zCal yX9_number cX9_number 6 (some .int) 2 := ⟨by decide +kernel, zu23 30 rfl, zu0 9 rfl, by decide +kernel, by decide⟩
theorem zi_X9_number : Cond.instanceMethod yX9_number ∈ zW := zu15 7 rfl
theorem zs_X9_number : Cond.selects yX9_number.cls yX9_number yX9_number ∈ zW := zin_p (q := (yX9_number, 58)) (by decide +kernel) (by decide +kernel)
theorem zc_X9_wordTold : zCal yX9_wordTold cX9_wordTold 2 (some .int) 0 := ⟨by decide +kernel, zu23 35 rfl, zu0 9 rfl, by decide +kernel, by decide⟩
theorem zi_X9_wordTold : Cond.instanceMethod yX9_wordTold ∈ zW := zu15 17 rfl
theorem zs_X9_wordTold : Cond.selects yX9_wordTold.cls yX9_wordTold yX9_wordTold ∈ zW := zin_p (q := (yX9_wordTold, 58)) (by decide +kernel) (by decide +kernel)
theorem zc_X9_end : zCal yX9_end cX9_end 1 none 0 := ⟨by decide +kernel, zu23 32 rfl, zu0 9 rfl, by decide +kernel, by decide⟩
theorem zi_X9_end : Cond.instanceMethod yX9_end ∈ zW := zu15 11 rfl
theorem zs_X9_end : Cond.selects yX9_end.cls yX9_end yX9_end ∈ zW := zin_p (q := (yX9_end, 58)) (by decide +kernel) (by decide +kernel)
theorem zc_X9_readWord : zCal yX9_readWord cX9_readWord 4 none 0 := ⟨by decide +kernel, zu23 33 rfl, zu0 9 rfl, by decide +kernel, by decide⟩
theorem zi_X9_readWord : Cond.instanceMethod yX9_readWord ∈ zW := zu15 13 rfl
theorem zs_X9_readWord : Cond.selects yX9_readWord.cls yX9_readWord yX9_readWord ∈ zW := zin_p (q := (yX9_readWord, 58)) (by decide +kernel) (by decide +kernel)
theorem zc_X9_readWay : zCal yX9_readWay cX9_readWay 5 none 0 := ⟨by decide +kernel, zu23 34 rfl, zu0 9 rfl, by decide +kernel, by decide⟩
theorem zi_X9_readWay : Cond.instanceMethod yX9_readWay ∈ zW := zu15 15 rfl
theorem zs_X9_readWay : Cond.selects yX9_readWay.cls yX9_readWay yX9_readWay ∈ zW := zin_p (q := (yX9_readWay, 58)) (by decide +kernel) (by decide +kernel)
theorem zc_X9_readPointing : zCal yX9_readPointing cX9_readPointing 2 none 0 := ⟨by decide +kernel, zu23 37 rfl, zu0 9 rfl, by decide +kernel, by decide⟩
theorem zi_X9_readPointing : Cond.instanceMethod yX9_readPointing ∈ zW := zu15 21 rfl
theorem zs_X9_readPointing : Cond.selects yX9_readPointing.cls yX9_readPointing yX9_readPointing ∈ zW := zin_p (q := (yX9_readPointing, 58)) (by decide +kernel) (by decide +kernel)
theorem zc_X9_readPerson : zCal yX9_readPerson cX9_readPerson 2 none 0 := ⟨by decide +kernel, zu23 38 rfl, zu0 9 rfl, by decide +kernel, by decide⟩
theorem zi_X9_readPerson : Cond.instanceMethod yX9_readPerson ∈ zW := zu15 23 rfl
theorem zs_X9_readPerson : Cond.selects yX9_readPerson.cls yX9_readPerson yX9_readPerson ∈ zW := zin_p (q := (yX9_readPerson, 58)) (by decide +kernel) (by decide +kernel)
theorem zc_X9_readNeed : zCal yX9_readNeed cX9_readNeed 5 none 0 := ⟨by decide +kernel, zu23 39 rfl, zu0 9 rfl, by decide +kernel, by decide⟩
theorem zi_X9_readNeed : Cond.instanceMethod yX9_readNeed ∈ zW := zu15 25 rfl
theorem zs_X9_readNeed : Cond.selects yX9_readNeed.cls yX9_readNeed yX9_readNeed ∈ zW := zin_p (q := (yX9_readNeed, 58)) (by decide +kernel) (by decide +kernel)
theorem zc_X9_readYear : zCal yX9_readYear cX9_readYear 1 none 0 := ⟨by decide +kernel, zu23 29 rfl, zu0 9 rfl, by decide +kernel, by decide⟩
theorem zi_X9_readYear : Cond.instanceMethod yX9_readYear ∈ zW := zu15 5 rfl
theorem zs_X9_readYear : Cond.selects yX9_readYear.cls yX9_readYear yX9_readYear ∈ zW := zin_p (q := (yX9_readYear, 58)) (by decide +kernel) (by decide +kernel)
theorem zc_X9_readClause : zCal yX9_readClause cX9_readClause 2 none 1 := ⟨by decide +kernel, zu23 27 rfl, zu0 9 rfl, by decide +kernel, by decide⟩
theorem zi_X9_readClause : Cond.instanceMethod yX9_readClause ∈ zW := zu15 1 rfl
theorem zs_X9_readClause : Cond.selects yX9_readClause.cls yX9_readClause yX9_readClause ∈ zW := zin_p (q := (yX9_readClause, 58)) (by decide +kernel) (by decide +kernel)
theorem zc_X9_readAll : zCal yX9_readAll cX9_readAll 2 none 0 := ⟨by decide +kernel, zu23 25 rfl, zu0 9 rfl, by decide +kernel, by decide⟩
theorem zi_X9_readAll : Cond.instanceMethod yX9_readAll ∈ zW := zu14 37 rfl
theorem zs_X9_readAll : Cond.selects yX9_readAll.cls yX9_readAll yX9_readAll ∈ zW := zin_p (q := (yX9_readAll, 58)) (by decide +kernel) (by decide +kernel)
theorem zc_X9_town : zCal yX9_town cX9_town 2 (some .int) 0 := ⟨by decide +kernel, zu23 24 rfl, zu0 9 rfl, by decide +kernel, by decide⟩
theorem zi_X9_town : Cond.instanceMethod yX9_town ∈ zW := zu14 34 rfl
theorem zs_X9_town : Cond.selects yX9_town.cls yX9_town yX9_town ∈ zW := zu14 35 rfl
theorem zc_X9_fault : zCal yX9_fault cX9_fault 1 (some .int) 0 := ⟨by decide +kernel, zu24 0 rfl, zu0 9 rfl, by decide +kernel, by decide⟩
theorem zi_X9_fault : Cond.instanceMethod yX9_fault ∈ zW := zu15 27 rfl
theorem zs_X9_fault : Cond.selects yX9_fault.cls yX9_fault yX9_fault ∈ zW := zu15 28 rfl
theorem zc_X9_dayNow : zCal yX9_dayNow cX9_dayNow 1 (some .int) 0 := ⟨by decide +kernel, zu24 2 rfl, zu0 9 rfl, by decide +kernel, by decide⟩
theorem zi_X9_dayNow : Cond.instanceMethod yX9_dayNow ∈ zW := zu15 33 rfl
theorem zs_X9_dayNow : Cond.selects yX9_dayNow.cls yX9_dayNow yX9_dayNow ∈ zW := zin_p (q := (yX9_dayNow, 58)) (by decide +kernel) (by decide +kernel)
theorem zc_X9_isToCome : zCal yX9_isToCome cX9_isToCome 2 (some .boolean) 1 := ⟨by decide +kernel, zu24 10 rfl, zu0 9 rfl, by decide +kernel, by decide⟩
theorem zi_X9_isToCome : Cond.instanceMethod yX9_isToCome ∈ zW := zu16 14 rfl
theorem zs_X9_isToCome : Cond.selects yX9_isToCome.cls yX9_isToCome yX9_isToCome ∈ zW := zin_p (q := (yX9_isToCome, 58)) (by decide +kernel) (by decide +kernel)
theorem zc_X9_hoardedOf : zCal yX9_hoardedOf cX9_hoardedOf 5 (some .int) 2 := ⟨by decide +kernel, zu24 5 rfl, zu0 9 rfl, by decide +kernel, by decide⟩
theorem zi_X9_hoardedOf : Cond.instanceMethod yX9_hoardedOf ∈ zW := zu16 1 rfl
theorem zs_X9_hoardedOf : Cond.selects yX9_hoardedOf.cls yX9_hoardedOf yX9_hoardedOf ∈ zW := zin_p (q := (yX9_hoardedOf, 58)) (by decide +kernel) (by decide +kernel)
theorem zc_X9_told : zCal yX9_told cX9_told 5 (some .int) 1 := ⟨by decide +kernel, zu24 1 rfl, zu0 9 rfl, by decide +kernel, by decide⟩
theorem zi_X9_told : Cond.instanceMethod yX9_told ∈ zW := zu15 30 rfl
theorem zs_X9_told : Cond.selects yX9_told.cls yX9_told yX9_told ∈ zW := zu15 31 rfl
theorem zc_X9_word : zCal yX9_word cX9_word 3 (some .int) 2 := ⟨by decide +kernel, zu24 3 rfl, zu0 9 rfl, by decide +kernel, by decide⟩
theorem zi_X9_word : Cond.instanceMethod yX9_word ∈ zW := zu15 35 rfl
theorem zs_X9_word : Cond.selects yX9_word.cls yX9_word yX9_word ∈ zW := zu15 36 rfl
theorem zc_X9_hoarded : zCal yX9_hoarded cX9_hoarded 3 (some .int) 2 := ⟨by decide +kernel, zu24 6 rfl, zu0 9 rfl, by decide +kernel, by decide⟩
theorem zi_X9_hoarded : Cond.instanceMethod yX9_hoarded ∈ zW := zu16 3 rfl
theorem zs_X9_hoarded : Cond.selects yX9_hoarded.cls yX9_hoarded yX9_hoarded ∈ zW := zu16 4 rfl
theorem zc_X9_need : zCal yX9_need cX9_need 3 (some .int) 2 := ⟨by decide +kernel, zu24 8 rfl, zu0 9 rfl, by decide +kernel, by decide⟩
theorem zi_X9_need : Cond.instanceMethod yX9_need ∈ zW := zu16 8 rfl
theorem zs_X9_need : Cond.selects yX9_need.cls yX9_need yX9_need ∈ zW := zu16 9 rfl
theorem zc_X9_keepAct : zCal yX9_keepAct cX9_keepAct 2 none 0 := ⟨by decide +kernel, zu24 13 rfl, zu0 9 rfl, by decide +kernel, by decide⟩
theorem zi_X9_keepAct : Cond.instanceMethod yX9_keepAct ∈ zW := zu16 23 rfl
theorem zs_X9_keepAct : Cond.selects yX9_keepAct.cls yX9_keepAct yX9_keepAct ∈ zW := zin_p (q := (yX9_keepAct, 58)) (by decide +kernel) (by decide +kernel)
theorem zc_X9_canSay : zCal yX9_canSay cX9_canSay 3 (some .boolean) 3 := ⟨by decide +kernel, zu24 18 rfl, zu0 9 rfl, by decide +kernel, by decide⟩
theorem zs_X9_canSay : Cond.static yX9_canSay ∈ zW := zu16 33 rfl
theorem zc_X9_says : zCal yX9_says cX9_says 3 none 3 := ⟨by decide +kernel, zu24 19 rfl, zu0 9 rfl, by decide +kernel, by decide⟩
theorem zs_X9_says : Cond.static yX9_says ∈ zW := zu16 35 rfl
theorem zc_X9_canGo : zCal yX9_canGo cX9_canGo 5 (some .boolean) 3 := ⟨by decide +kernel, zu24 21 rfl, zu0 9 rfl, by decide +kernel, by decide⟩
theorem zs_X9_canGo : Cond.static yX9_canGo ∈ zW := zu17 0 rfl
theorem zc_X9_goes : zCal yX9_goes cX9_goes 4 none 3 := ⟨by decide +kernel, zu24 22 rfl, zu0 9 rfl, by decide +kernel, by decide⟩
theorem zs_X9_goes : Cond.static yX9_goes ∈ zW := zu17 2 rfl
theorem zc_X9_meets : zCal yX9_meets cX9_meets 6 (some .boolean) 2 := ⟨by decide +kernel, zu24 15 rfl, zu0 9 rfl, by decide +kernel, by decide⟩
theorem zi_X9_meets : Cond.instanceMethod yX9_meets ∈ zW := zu16 27 rfl
theorem zs_X9_meets : Cond.selects yX9_meets.cls yX9_meets yX9_meets ∈ zW := zin_p (q := (yX9_meets, 58)) (by decide +kernel) (by decide +kernel)
theorem zc_X9_goOn : zCal yX9_goOn cX9_goOn 5 (some .int) 1 := ⟨by decide +kernel, zu24 14 rfl, zu0 9 rfl, by decide +kernel, by decide⟩
theorem zi_X9_goOn : Cond.instanceMethod yX9_goOn ∈ zW := zu16 25 rfl
theorem zs_X9_goOn : Cond.selects yX9_goOn.cls yX9_goOn yX9_goOn ∈ zW := zin_p (q := (yX9_goOn, 58)) (by decide +kernel) (by decide +kernel)
theorem zc_X9_day : zCal yX9_day cX9_day 4 (some .int) 1 := ⟨by decide +kernel, zu24 12 rfl, zu0 9 rfl, by decide +kernel, by decide⟩
theorem zi_X9_day : Cond.instanceMethod yX9_day ∈ zW := zu16 18 rfl
theorem zs_X9_day : Cond.selects yX9_day.cls yX9_day yX9_day ∈ zW := zu16 19 rfl
theorem zc_X9_say : zCal yX9_say cX9_say 3 (some .int) 2 := ⟨by decide +kernel, zu24 24 rfl, zu0 9 rfl, by decide +kernel, by decide⟩
theorem zi_X9_say : Cond.instanceMethod yX9_say ∈ zW := zu17 6 rfl
theorem zs_X9_say : Cond.selects yX9_say.cls yX9_say yX9_say ∈ zW := zu17 7 rfl
theorem zc_X9_around : zCal yX9_around cX9_around 5 (some .int) 3 := ⟨by decide +kernel, zu24 25 rfl, zu0 9 rfl, by decide +kernel, by decide⟩
theorem zi_X9_around : Cond.instanceMethod yX9_around ∈ zW := zu17 9 rfl
theorem zs_X9_around : Cond.selects yX9_around.cls yX9_around yX9_around ∈ zW := zu17 10 rfl
theorem zc_X9_point : zCal yX9_point cX9_point 2 (some .int) 1 := ⟨by decide +kernel, zu24 26 rfl, zu0 9 rfl, by decide +kernel, by decide⟩
theorem zi_X9_point : Cond.instanceMethod yX9_point ∈ zW := zu17 12 rfl
theorem zs_X9_point : Cond.selects yX9_point.cls yX9_point yX9_point ∈ zW := zu17 13 rfl
theorem zc_X9_hoard : zCal yX9_hoard cX9_hoard 4 (some .int) 3 := ⟨by decide +kernel, zu24 27 rfl, zu0 9 rfl, by decide +kernel, by decide⟩
theorem zi_X9_hoard : Cond.instanceMethod yX9_hoard ∈ zW := zu17 15 rfl
theorem zs_X9_hoard : Cond.selects yX9_hoard.cls yX9_hoard yX9_hoard ∈ zW := zu17 16 rfl
theorem zc_X9_sell : zCal yX9_sell cX9_sell 5 (some .int) 4 := ⟨by decide +kernel, zu24 28 rfl, zu0 9 rfl, by decide +kernel, by decide⟩
theorem zi_X9_sell : Cond.instanceMethod yX9_sell ∈ zW := zu17 19 rfl
theorem zs_X9_sell : Cond.selects yX9_sell.cls yX9_sell yX9_sell ∈ zW := zu17 20 rfl
theorem zc_X9_raise : zCal yX9_raise cX9_raise 3 (some .int) 2 := ⟨by decide +kernel, zu24 29 rfl, zu0 9 rfl, by decide +kernel, by decide⟩
theorem zi_X9_raise : Cond.instanceMethod yX9_raise ∈ zW := zu17 22 rfl
theorem zs_X9_raise : Cond.selects yX9_raise.cls yX9_raise yX9_raise ∈ zW := zu17 23 rfl
theorem zc_X9_draw : zCal yX9_draw cX9_draw 2 (some .int) 1 := ⟨by decide +kernel, zu24 32 rfl, zu0 9 rfl, by decide +kernel, by decide⟩
theorem zi_X9_draw : Cond.instanceMethod yX9_draw ∈ zW := zu17 30 rfl
theorem zs_X9_draw : Cond.selects yX9_draw.cls yX9_draw yX9_draw ∈ zW := zin_p (q := (yX9_draw, 58)) (by decide +kernel) (by decide +kernel)
theorem zc_X9_drawn : zCal yX9_drawn cX9_drawn 4 none 0 := ⟨by decide +kernel, zu24 31 rfl, zu0 9 rfl, by decide +kernel, by decide⟩
theorem zi_X9_drawn : Cond.instanceMethod yX9_drawn ∈ zW := zu17 28 rfl
theorem zs_X9_drawn : Cond.selects yX9_drawn.cls yX9_drawn yX9_drawn ∈ zW := zin_p (q := (yX9_drawn, 58)) (by decide +kernel) (by decide +kernel)
theorem zc_X9_drift : zCal yX9_drift cX9_drift 4 (some .int) 1 := ⟨by decide +kernel, zu24 30 rfl, zu0 9 rfl, by decide +kernel, by decide⟩
theorem zi_X9_drift : Cond.instanceMethod yX9_drift ∈ zW := zu17 25 rfl
theorem zs_X9_drift : Cond.selects yX9_drift.cls yX9_drift yX9_drift ∈ zW := zu17 26 rfl
theorem zc_X9_undo : zCal yX9_undo cX9_undo 2 (some .int) 0 := ⟨by decide +kernel, zu24 33 rfl, zu0 9 rfl, by decide +kernel, by decide⟩
theorem zi_X9_undo : Cond.instanceMethod yX9_undo ∈ zW := zu17 36 rfl
theorem zs_X9_undo : Cond.selects yX9_undo.cls yX9_undo yX9_undo ∈ zW := zu17 37 rfl
theorem zc_X9_layTried : zCal yX9_layTried cX9_layTried 2 none 0 := ⟨by decide +kernel, zu24 38 rfl, zu0 9 rfl, by decide +kernel, by decide⟩
theorem zi_X9_layTried : Cond.instanceMethod yX9_layTried ∈ zW := zu18 9 rfl
theorem zs_X9_layTried : Cond.selects yX9_layTried.cls yX9_layTried yX9_layTried ∈ zW := zin_p (q := (yX9_layTried, 58)) (by decide +kernel) (by decide +kernel)
theorem zc_X9_costOfWay : zCal yX9_costOfWay cX9_costOfWay 4 (some .int) 1 := ⟨by decide +kernel, zu24 36 rfl, zu0 9 rfl, by decide +kernel, by decide⟩
theorem zi_X9_costOfWay : Cond.instanceMethod yX9_costOfWay ∈ zW := zu18 4 rfl
theorem zs_X9_costOfWay : Cond.selects yX9_costOfWay.cls yX9_costOfWay yX9_costOfWay ∈ zW := zin_p (q := (yX9_costOfWay, 58)) (by decide +kernel) (by decide +kernel)
theorem zc_X9_costBy : zCal yX9_costBy cX9_costBy 4 (some .int) 3 := ⟨by decide +kernel, zu24 35 rfl, zu0 9 rfl, by decide +kernel, by decide⟩
theorem zi_X9_costBy : Cond.instanceMethod yX9_costBy ∈ zW := zu18 2 rfl
theorem zs_X9_costBy : Cond.selects yX9_costBy.cls yX9_costBy yX9_costBy ∈ zW := zin_p (q := (yX9_costBy, 58)) (by decide +kernel) (by decide +kernel)
theorem zc_X9_cheapest : zCal yX9_cheapest cX9_cheapest 8 (some .int) 3 := ⟨by decide +kernel, zu24 34 rfl, zu0 9 rfl, by decide +kernel, by decide⟩
theorem zi_X9_cheapest : Cond.instanceMethod yX9_cheapest ∈ zW := zu17 39 rfl
theorem zs_X9_cheapest : Cond.selects yX9_cheapest.cls yX9_cheapest yX9_cheapest ∈ zW := zu18 0 rfl
theorem zc_X9_runsOut : zCal yX9_runsOut cX9_runsOut 5 (some .int) 1 := ⟨by decide +kernel, zu24 37 rfl, zu0 9 rfl, by decide +kernel, by decide⟩
theorem zi_X9_runsOut : Cond.instanceMethod yX9_runsOut ∈ zW := zu18 6 rfl
theorem zs_X9_runsOut : Cond.selects yX9_runsOut.cls yX9_runsOut yX9_runsOut ∈ zW := zu18 7 rfl
theorem zc_X9_willBe : zCal yX9_willBe cX9_willBe 4 (some .int) 1 := ⟨by decide +kernel, zu24 39 rfl, zu0 9 rfl, by decide +kernel, by decide⟩
theorem zi_X9_willBe : Cond.instanceMethod yX9_willBe ∈ zW := zu18 11 rfl
theorem zs_X9_willBe : Cond.selects yX9_willBe.cls yX9_willBe yX9_willBe ∈ zW := zu18 12 rfl
theorem zc_X9_wordsBy : zCal yX9_wordsBy cX9_wordsBy 4 (some .int) 2 := ⟨by decide +kernel, zu25 4 rfl, zu0 9 rfl, by decide +kernel, by decide⟩
theorem zi_X9_wordsBy : Cond.instanceMethod yX9_wordsBy ∈ zW := zu18 23 rfl
theorem zs_X9_wordsBy : Cond.selects yX9_wordsBy.cls yX9_wordsBy yX9_wordsBy ∈ zW := zin_p (q := (yX9_wordsBy, 58)) (by decide +kernel) (by decide +kernel)
theorem zc_X9_use : zCal yX9_use cX9_use 6 none 3 := ⟨by decide +kernel, zu25 3 rfl, zu0 9 rfl, by decide +kernel, by decide⟩
theorem zi_X9_use : Cond.instanceMethod yX9_use ∈ zW := zu18 21 rfl
theorem zs_X9_use : Cond.selects yX9_use.cls yX9_use yX9_use ∈ zW := zin_p (q := (yX9_use, 58)) (by decide +kernel) (by decide +kernel)
theorem zc_X9_fits : zCal yX9_fits cX9_fits 6 (some .boolean) 2 := ⟨by decide +kernel, zu25 7 rfl, zu0 9 rfl, by decide +kernel, by decide⟩
theorem zi_X9_fits : Cond.instanceMethod yX9_fits ∈ zW := zu18 29 rfl
theorem zs_X9_fits : Cond.selects yX9_fits.cls yX9_fits yX9_fits ∈ zW := zin_p (q := (yX9_fits, 58)) (by decide +kernel) (by decide +kernel)
theorem zc_X9_nextPick : zCal yX9_nextPick cX9_nextPick 3 (some .int) 1 := ⟨by decide +kernel, zu25 6 rfl, zu0 9 rfl, by decide +kernel, by decide⟩
theorem zi_X9_nextPick : Cond.instanceMethod yX9_nextPick ∈ zW := zu18 27 rfl
theorem zs_X9_nextPick : Cond.selects yX9_nextPick.cls yX9_nextPick yX9_nextPick ∈ zW := zin_p (q := (yX9_nextPick, 58)) (by decide +kernel) (by decide +kernel)
theorem zc_X9_comparePlan : zCal yX9_comparePlan cX9_comparePlan 2 none 0 := ⟨by decide +kernel, zu25 2 rfl, zu0 9 rfl, by decide +kernel, by decide⟩
theorem zi_X9_comparePlan : Cond.instanceMethod yX9_comparePlan ∈ zW := zu18 19 rfl
theorem zs_X9_comparePlan : Cond.selects yX9_comparePlan.cls yX9_comparePlan yX9_comparePlan ∈ zW := zin_p (q := (yX9_comparePlan, 58)) (by decide +kernel) (by decide +kernel)
theorem zc_X9_findPlan : zCal yX9_findPlan cX9_findPlan 2 none 0 := ⟨by decide +kernel, zu25 1 rfl, zu0 9 rfl, by decide +kernel, by decide⟩
theorem zi_X9_findPlan : Cond.instanceMethod yX9_findPlan ∈ zW := zu18 17 rfl
theorem zs_X9_findPlan : Cond.selects yX9_findPlan.cls yX9_findPlan yX9_findPlan ∈ zW := zin_p (q := (yX9_findPlan, 58)) (by decide +kernel) (by decide +kernel)
theorem zc_X9_plan : zCal yX9_plan cX9_plan 4 (some .int) 1 := ⟨by decide +kernel, zu25 0 rfl, zu0 9 rfl, by decide +kernel, by decide⟩
theorem zi_X9_plan : Cond.instanceMethod yX9_plan ∈ zW := zu18 14 rfl
theorem zs_X9_plan : Cond.selects yX9_plan.cls yX9_plan yX9_plan ∈ zW := zu18 15 rfl
theorem zc_X9_isOf : zCal yX9_isOf cX9_isOf 3 (some .boolean) 2 := ⟨by decide +kernel, zu25 9 rfl, zu0 9 rfl, by decide +kernel, by decide⟩
theorem zi_X9_isOf : Cond.instanceMethod yX9_isOf ∈ zW := zu18 34 rfl
theorem zs_X9_isOf : Cond.selects yX9_isOf.cls yX9_isOf yX9_isOf ∈ zW := zin_p (q := (yX9_isOf, 58)) (by decide +kernel) (by decide +kernel)
theorem zc_X9_needsOf : zCal yX9_needsOf cX9_needsOf 5 (some .int) 2 := ⟨by decide +kernel, zu25 12 rfl, zu0 9 rfl, by decide +kernel, by decide⟩
theorem zi_X9_needsOf : Cond.instanceMethod yX9_needsOf ∈ zW := zu19 1 rfl
theorem zs_X9_needsOf : Cond.selects yX9_needsOf.cls yX9_needsOf yX9_needsOf ∈ zW := zin_p (q := (yX9_needsOf, 58)) (by decide +kernel) (by decide +kernel)
theorem zc_X9_price : zCal yX9_price cX9_price 6 (some .int) 1 := ⟨by decide +kernel, zu25 8 rfl, zu0 9 rfl, by decide +kernel, by decide⟩
theorem zi_X9_price : Cond.instanceMethod yX9_price ∈ zW := zu18 31 rfl
theorem zs_X9_price : Cond.selects yX9_price.cls yX9_price yX9_price ∈ zW := zu18 32 rfl
theorem zc_X9_doSell : zCal yX9_doSell cX9_doSell 4 (some .boolean) 3 := ⟨by decide +kernel, zu25 11 rfl, zu0 9 rfl, by decide +kernel, by decide⟩
theorem zi_X9_doSell : Cond.instanceMethod yX9_doSell ∈ zW := zu18 39 rfl
theorem zs_X9_doSell : Cond.selects yX9_doSell.cls yX9_doSell yX9_doSell ∈ zW := zin_p (q := (yX9_doSell, 58)) (by decide +kernel) (by decide +kernel)
theorem zc_X9_sells : zCal yX9_sells cX9_sells 6 (some .int) 2 := ⟨by decide +kernel, zu25 10 rfl, zu0 9 rfl, by decide +kernel, by decide⟩
theorem zi_X9_sells : Cond.instanceMethod yX9_sells ∈ zW := zu18 36 rfl
theorem zs_X9_sells : Cond.selects yX9_sells.cls yX9_sells yX9_sells ∈ zW := zu18 37 rfl
theorem zc_X9_share : zCal yX9_share cX9_share 6 (some .int) 2 := ⟨by decide +kernel, zu25 13 rfl, zu0 9 rfl, by decide +kernel, by decide⟩
theorem zi_X9_share : Cond.instanceMethod yX9_share ∈ zW := zu19 3 rfl
theorem zs_X9_share : Cond.selects yX9_share.cls yX9_share yX9_share ∈ zW := zu19 4 rfl
theorem zc_X9_more : zCal yX9_more cX9_more 5 (some .int) 1 := ⟨by decide +kernel, zu25 14 rfl, zu0 9 rfl, by decide +kernel, by decide⟩
theorem zi_X9_more : Cond.instanceMethod yX9_more ∈ zW := zu19 6 rfl
theorem zs_X9_more : Cond.selects yX9_more.cls yX9_more yX9_more ∈ zW := zu19 7 rfl
theorem zc_X9_fire : zCal yX9_fire cX9_fire 8 (some .int) 2 := ⟨by decide +kernel, zu25 15 rfl, zu0 9 rfl, by decide +kernel, by decide⟩
theorem zi_X9_fire : Cond.instanceMethod yX9_fire ∈ zW := zu19 9 rfl
theorem zs_X9_fire : Cond.selects yX9_fire.cls yX9_fire yX9_fire ∈ zW := zu19 10 rfl
theorem zc_X9_rhymes : zCal yX9_rhymes cX9_rhymes 5 (some .int) 1 := ⟨by decide +kernel, zu25 16 rfl, zu0 9 rfl, by decide +kernel, by decide⟩
theorem zi_X9_rhymes : Cond.instanceMethod yX9_rhymes ∈ zW := zu19 14 rfl
theorem zs_X9_rhymes : Cond.selects yX9_rhymes.cls yX9_rhymes yX9_rhymes ∈ zW := zu19 15 rfl
theorem zc_X9_silent : zCal yX9_silent cX9_silent 6 (some .int) 2 := ⟨by decide +kernel, zu25 17 rfl, zu0 9 rfl, by decide +kernel, by decide⟩
theorem zi_X9_silent : Cond.instanceMethod yX9_silent ∈ zW := zu19 17 rfl
theorem zs_X9_silent : Cond.selects yX9_silent.cls yX9_silent yX9_silent ∈ zW := zu19 18 rfl
theorem zc_X9_knot : zCal yX9_knot cX9_knot 4 (some .int) 3 := ⟨by decide +kernel, zu25 18 rfl, zu0 9 rfl, by decide +kernel, by decide⟩
theorem zi_X9_knot : Cond.instanceMethod yX9_knot ∈ zW := zu19 22 rfl
theorem zs_X9_knot : Cond.selects yX9_knot.cls yX9_knot yX9_knot ∈ zW := zu19 23 rfl
theorem zc_X9_wouldSay : zCal yX9_wouldSay cX9_wouldSay 6 (some .boolean) 3 := ⟨by decide +kernel, zu25 21 rfl, zu0 9 rfl, by decide +kernel, by decide⟩
theorem zi_X9_wouldSay : Cond.instanceMethod yX9_wouldSay ∈ zW := zu19 31 rfl
theorem zs_X9_wouldSay : Cond.selects yX9_wouldSay.cls yX9_wouldSay yX9_wouldSay ∈ zW := zin_p (q := (yX9_wouldSay, 58)) (by decide +kernel) (by decide +kernel)
theorem zc_X9_whoSaid : zCal yX9_whoSaid cX9_whoSaid 5 (some .int) 0 := ⟨by decide +kernel, zu25 20 rfl, zu0 9 rfl, by decide +kernel, by decide⟩
theorem zi_X9_whoSaid : Cond.instanceMethod yX9_whoSaid ∈ zW := zu19 29 rfl
theorem zs_X9_whoSaid : Cond.selects yX9_whoSaid.cls yX9_whoSaid yX9_whoSaid ∈ zW := zin_p (q := (yX9_whoSaid, 58)) (by decide +kernel) (by decide +kernel)
theorem zc_X9_who : zCal yX9_who cX9_who 1 (some .int) 0 := ⟨by decide +kernel, zu25 19 rfl, zu0 9 rfl, by decide +kernel, by decide⟩
theorem zi_X9_who : Cond.instanceMethod yX9_who ∈ zW := zu19 26 rfl
theorem zs_X9_who : Cond.selects yX9_who.cls yX9_who yX9_who ∈ zW := zu19 27 rfl
theorem zc_X9_ask : zCal yX9_ask cX9_ask 9 (some .int) 0 := ⟨by decide +kernel, zu25 22 rfl, zu0 9 rfl, by decide +kernel, by decide⟩
theorem zi_X9_ask : Cond.instanceMethod yX9_ask ∈ zW := zu19 33 rfl
theorem zs_X9_ask : Cond.selects yX9_ask.cls yX9_ask yX9_ask ∈ zW := zu19 34 rfl
theorem zc_X9_write : zCal yX9_write cX9_write 3 (some .int) 2 := ⟨by decide +kernel, zu25 23 rfl, zu0 9 rfl, by decide +kernel, by decide⟩
theorem zi_X9_write : Cond.instanceMethod yX9_write ∈ zW := zu19 36 rfl
theorem zs_X9_write : Cond.selects yX9_write.cls yX9_write yX9_write ∈ zW := zu19 37 rfl
theorem zc_X9_tear : zCal yX9_tear cX9_tear 2 (some .int) 0 := ⟨by decide +kernel, zu25 24 rfl, zu0 9 rfl, by decide +kernel, by decide⟩
theorem zi_X9_tear : Cond.instanceMethod yX9_tear ∈ zW := zu19 39 rfl
theorem zs_X9_tear : Cond.selects yX9_tear.cls yX9_tear yX9_tear ∈ zW := zu20 0 rfl
theorem zc_X9_judge : zCal yX9_judge cX9_judge 2 (some .int) 0 := ⟨by decide +kernel, zu25 25 rfl, zu0 9 rfl, by decide +kernel, by decide⟩
theorem zi_X9_judge : Cond.instanceMethod yX9_judge ∈ zW := zu20 2 rfl
theorem zs_X9_judge : Cond.selects yX9_judge.cls yX9_judge yX9_judge ∈ zW := zu20 3 rfl
theorem zc_X9_seed : zCal yX9_seed cX9_seed 3 (some .int) 1 := ⟨by decide +kernel, zu25 26 rfl, zu0 9 rfl, by decide +kernel, by decide⟩
theorem zi_X9_seed : Cond.instanceMethod yX9_seed ∈ zW := zu20 5 rfl
theorem zs_X9_seed : Cond.selects yX9_seed.cls yX9_seed yX9_seed ∈ zW := zu20 6 rfl
theorem zc_X9_keep : zCal yX9_keep cX9_keep 3 (some .int) 1 := ⟨by decide +kernel, zu25 27 rfl, zu0 9 rfl, by decide +kernel, by decide⟩
theorem zi_X9_keep : Cond.instanceMethod yX9_keep ∈ zW := zu20 8 rfl
theorem zs_X9_keep : Cond.selects yX9_keep.cls yX9_keep yX9_keep ∈ zW := zu20 9 rfl
theorem zc_X9_goBack : zCal yX9_goBack cX9_goBack 3 (some .int) 1 := ⟨by decide +kernel, zu25 28 rfl, zu0 9 rfl, by decide +kernel, by decide⟩
theorem zi_X9_goBack : Cond.instanceMethod yX9_goBack ∈ zW := zu20 11 rfl
theorem zs_X9_goBack : Cond.selects yX9_goBack.cls yX9_goBack yX9_goBack ∈ zW := zu20 12 rfl
theorem zc_J6_bitCount_0f7a4 : zCal yJ6_bitCount_0f7a4 cJ6_bitCount_0f7a4 1 (some .int) 1 := ⟨by decide +kernel, zu22 30 rfl, zu0 12 rfl, by decide +kernel, by decide⟩
theorem zs_J6_bitCount_0f7a4 : Cond.static yJ6_bitCount_0f7a4 ∈ zW := zu10 31 rfl
theorem zs_J9_max_7cf53 : Cond.static yJ9_max_7cf53 ∈ zW := zu11 20 rfl
theorem zs_J9_min_7cf53 : Cond.static yJ9_min_7cf53 ∈ zW := zu5 2 rfl
theorem zc_mmax : Cond.code Lib.Math.max.name Lib.Math.max.code 2 (some .int) ∈ zW := zin_t 760 (by decide +kernel) (by decide +kernel)
theorem zc_mmin : Cond.code Lib.Math.min.name Lib.Math.min.code 2 (some .int) ∈ zW := zin_t 384 (by decide +kernel) (by decide +kernel)
theorem zc_mini : Cond.initialized "java/lang/Math" ∈ zW := zin_t 11 (by decide +kernel) (by decide +kernel)
