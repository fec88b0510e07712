/-! the words of the tables that pass on, each by its place -/
def qw_tbl : List Cond := lw_tbl.filter goodWord
theorem qw_in {w : Cond} (h : w ∈ qw_tbl) : w ∈ lw_tbl := (List.mem_filter.mp h).1
theorem uw_g {w : Cond} (h : w ∈ qw_tbl) : goodWord w = true := (List.mem_filter.mp h).2
theorem qt_1 {w : Cond} (h : w ∈ tables_1_1) (g : goodWord w = true) : w ∈ qw_tbl := List.mem_filter.mpr ⟨List.mem_append_right _ (List.mem_append_left _ h), g⟩
theorem qt_2 {w : Cond} (h : w ∈ tables_1_2) (g : goodWord w = true) : w ∈ qw_tbl := List.mem_filter.mpr ⟨List.mem_append_right _ (List.mem_append_right _ (List.mem_append_left _ h)), g⟩
theorem qt_3 {w : Cond} (h : w ∈ tables_1_3) (g : goodWord w = true) : w ∈ qw_tbl := List.mem_filter.mpr ⟨List.mem_append_right _ (List.mem_append_right _ (List.mem_append_right _ (List.mem_append_left _ h))), g⟩
theorem qt_4 {w : Cond} (h : w ∈ tables_1_4) (g : goodWord w = true) : w ∈ qw_tbl := List.mem_filter.mpr ⟨List.mem_append_right _ (List.mem_append_right _ (List.mem_append_right _ (List.mem_append_right _ (List.mem_append_left _ h)))), g⟩
theorem qt_5 {w : Cond} (h : w ∈ tables_1_5) (g : goodWord w = true) : w ∈ qw_tbl := List.mem_filter.mpr ⟨List.mem_append_right _ (List.mem_append_right _ (List.mem_append_right _ (List.mem_append_right _ (List.mem_append_right _ (List.mem_append_left _ h))))), g⟩
theorem qt_6 {w : Cond} (h : w ∈ tables_1_6) (g : goodWord w = true) : w ∈ qw_tbl := List.mem_filter.mpr ⟨List.mem_append_right _ (List.mem_append_right _ (List.mem_append_right _ (List.mem_append_right _ (List.mem_append_right _ (List.mem_append_right _ (List.mem_append_left _ h)))))), g⟩
theorem qt_7 {w : Cond} (h : w ∈ tables_1_7) (g : goodWord w = true) : w ∈ qw_tbl := List.mem_filter.mpr ⟨List.mem_append_right _ (List.mem_append_right _ (List.mem_append_right _ (List.mem_append_right _ (List.mem_append_right _ (List.mem_append_right _ (List.mem_append_right _ (List.mem_append_left _ h))))))), g⟩
theorem qt_8 {w : Cond} (h : w ∈ tables_1_8) (g : goodWord w = true) : w ∈ qw_tbl := List.mem_filter.mpr ⟨List.mem_append_right _ (List.mem_append_right _ (List.mem_append_right _ (List.mem_append_right _ (List.mem_append_right _ (List.mem_append_right _ (List.mem_append_right _ (List.mem_append_right _ (h)))))))), g⟩
theorem qs_1 {q : MethodName × Nat} (h : q ∈ lw_privs_1) : Cond.selects q.1.cls q.1 q.1 ∈ lw_tbl := List.mem_append_left _ (List.mem_map.mpr ⟨q, List.mem_append_left _ h, rfl⟩)
theorem qs_2 {q : MethodName × Nat} (h : q ∈ lw_privs_2) : Cond.selects q.1.cls q.1 q.1 ∈ lw_tbl := List.mem_append_left _ (List.mem_map.mpr ⟨q, List.mem_append_right _ (List.mem_append_left _ h), rfl⟩)
theorem qs_3 {q : MethodName × Nat} (h : q ∈ lw_privs_3) : Cond.selects q.1.cls q.1 q.1 ∈ lw_tbl := List.mem_append_left _ (List.mem_map.mpr ⟨q, List.mem_append_right _ (List.mem_append_right _ (List.mem_append_left _ h)), rfl⟩)
theorem qs_4 {q : MethodName × Nat} (h : q ∈ lw_privs_4) : Cond.selects q.1.cls q.1 q.1 ∈ lw_tbl := List.mem_append_left _ (List.mem_map.mpr ⟨q, List.mem_append_right _ (List.mem_append_right _ (List.mem_append_right _ (List.mem_append_left _ h))), rfl⟩)
theorem qs_5 {q : MethodName × Nat} (h : q ∈ lw_privs_5) : Cond.selects q.1.cls q.1 q.1 ∈ lw_tbl := List.mem_append_left _ (List.mem_map.mpr ⟨q, List.mem_append_right _ (List.mem_append_right _ (List.mem_append_right _ (List.mem_append_right _ (List.mem_append_left _ h)))), rfl⟩)
theorem qs_6 {q : MethodName × Nat} (h : q ∈ lw_privs_6) : Cond.selects q.1.cls q.1 q.1 ∈ lw_tbl := List.mem_append_left _ (List.mem_map.mpr ⟨q, List.mem_append_right _ (List.mem_append_right _ (List.mem_append_right _ (List.mem_append_right _ (List.mem_append_right _ (List.mem_append_left _ h))))), rfl⟩)
theorem qs_7 {q : MethodName × Nat} (h : q ∈ lw_privs_7) : Cond.selects q.1.cls q.1 q.1 ∈ lw_tbl := List.mem_append_left _ (List.mem_map.mpr ⟨q, List.mem_append_right _ (List.mem_append_right _ (List.mem_append_right _ (List.mem_append_right _ (List.mem_append_right _ (List.mem_append_right _ (h)))))), rfl⟩)
theorem w_0 : (.selects "SecretBuyers$Book" (⟨"SecretBuyers$Book", "turnIfSeen", "(I)V"⟩ : MethodName) (⟨"SecretBuyers$Book", "turnIfSeen", "(I)V"⟩ : MethodName) : Cond) ∈ qw_tbl := List.mem_filter.mpr ⟨qs_1 (q := (⟨"SecretBuyers$Book", "turnIfSeen", "(I)V"⟩, 19)) (List.mem_of_getElem? (i := 0) rfl), rfl⟩
theorem w_1 : (.selects "SecretBuyers$Tape" (⟨"SecretBuyers$Tape", "stepWord", "()V"⟩ : MethodName) (⟨"SecretBuyers$Tape", "stepWord", "()V"⟩ : MethodName) : Cond) ∈ qw_tbl := List.mem_filter.mpr ⟨qs_1 (q := (⟨"SecretBuyers$Tape", "stepWord", "()V"⟩, 7)) (List.mem_of_getElem? (i := 1) rfl), rfl⟩
theorem w_2 : (.selects "SecretBuyers$Tape" (⟨"SecretBuyers$Tape", "kindOfWord", "()I"⟩ : MethodName) (⟨"SecretBuyers$Tape", "kindOfWord", "()I"⟩ : MethodName) : Cond) ∈ qw_tbl := List.mem_filter.mpr ⟨qs_1 (q := (⟨"SecretBuyers$Tape", "kindOfWord", "()I"⟩, 7)) (List.mem_of_getElem? (i := 2) rfl), rfl⟩
theorem w_3 : (.selects "SecretBuyers$Tape" (⟨"SecretBuyers$Tape", "stepNumber", "()V"⟩ : MethodName) (⟨"SecretBuyers$Tape", "stepNumber", "()V"⟩ : MethodName) : Cond) ∈ qw_tbl := List.mem_filter.mpr ⟨qs_1 (q := (⟨"SecretBuyers$Tape", "stepNumber", "()V"⟩, 7)) (List.mem_of_getElem? (i := 3) rfl), rfl⟩
theorem w_4 : (.selects "SecretBuyers$Reader" (⟨"SecretBuyers$Reader", "fail", "(I)V"⟩ : MethodName) (⟨"SecretBuyers$Reader", "fail", "(I)V"⟩ : MethodName) : Cond) ∈ qw_tbl := List.mem_filter.mpr ⟨qs_1 (q := (⟨"SecretBuyers$Reader", "fail", "(I)V"⟩, 6)) (List.mem_of_getElem? (i := 4) rfl), rfl⟩
theorem w_5 : (.selects "SecretBuyers$Reader" (⟨"SecretBuyers$Reader", "readLet", "()V"⟩ : MethodName) (⟨"SecretBuyers$Reader", "readLet", "()V"⟩ : MethodName) : Cond) ∈ qw_tbl := List.mem_filter.mpr ⟨qs_1 (q := (⟨"SecretBuyers$Reader", "readLet", "()V"⟩, 6)) (List.mem_of_getElem? (i := 5) rfl), rfl⟩
theorem w_6 : (.selects "SecretBuyers$Reader" (⟨"SecretBuyers$Reader", "nameIndex", "()I"⟩ : MethodName) (⟨"SecretBuyers$Reader", "nameIndex", "()I"⟩ : MethodName) : Cond) ∈ qw_tbl := List.mem_filter.mpr ⟨qs_1 (q := (⟨"SecretBuyers$Reader", "nameIndex", "()I"⟩, 6)) (List.mem_of_getElem? (i := 6) rfl), rfl⟩
theorem w_7 : (.selects "SecretBuyers$Reader" (⟨"SecretBuyers$Reader", "pass", "(I)V"⟩ : MethodName) (⟨"SecretBuyers$Reader", "pass", "(I)V"⟩ : MethodName) : Cond) ∈ qw_tbl := List.mem_filter.mpr ⟨qs_1 (q := (⟨"SecretBuyers$Reader", "pass", "(I)V"⟩, 6)) (List.mem_of_getElem? (i := 7) rfl), rfl⟩
theorem w_8 : (.selects "SecretBuyers$Reader" (⟨"SecretBuyers$Reader", "readLevel", "(II)V"⟩ : MethodName) (⟨"SecretBuyers$Reader", "readLevel", "(II)V"⟩ : MethodName) : Cond) ∈ qw_tbl := List.mem_filter.mpr ⟨qs_1 (q := (⟨"SecretBuyers$Reader", "readLevel", "(II)V"⟩, 6)) (List.mem_of_getElem? (i := 8) rfl), rfl⟩
theorem w_9 : (.selects "SecretBuyers$Reader" (⟨"SecretBuyers$Reader", "readPart", "(I)V"⟩ : MethodName) (⟨"SecretBuyers$Reader", "readPart", "(I)V"⟩ : MethodName) : Cond) ∈ qw_tbl := List.mem_filter.mpr ⟨qs_1 (q := (⟨"SecretBuyers$Reader", "readPart", "(I)V"⟩, 6)) (List.mem_of_getElem? (i := 9) rfl), rfl⟩
theorem w_10 : (.selects "SecretBuyers$Reader" (⟨"SecretBuyers$Reader", "write", "(II)V"⟩ : MethodName) (⟨"SecretBuyers$Reader", "write", "(II)V"⟩ : MethodName) : Cond) ∈ qw_tbl := List.mem_filter.mpr ⟨qs_1 (q := (⟨"SecretBuyers$Reader", "write", "(II)V"⟩, 6)) (List.mem_of_getElem? (i := 10) rfl), rfl⟩
theorem w_11 : (.selects "SecretBuyers$Reader" (⟨"SecretBuyers$Reader", "readItem", "()V"⟩ : MethodName) (⟨"SecretBuyers$Reader", "readItem", "()V"⟩ : MethodName) : Cond) ∈ qw_tbl := List.mem_filter.mpr ⟨qs_1 (q := (⟨"SecretBuyers$Reader", "readItem", "()V"⟩, 6)) (List.mem_of_getElem? (i := 11) rfl), rfl⟩
theorem w_12 : (.selects "SecretBuyers$Reader" (⟨"SecretBuyers$Reader", "endLine", "(II)V"⟩ : MethodName) (⟨"SecretBuyers$Reader", "endLine", "(II)V"⟩ : MethodName) : Cond) ∈ qw_tbl := List.mem_filter.mpr ⟨qs_1 (q := (⟨"SecretBuyers$Reader", "endLine", "(II)V"⟩, 6)) (List.mem_of_getElem? (i := 12) rfl), rfl⟩
theorem w_13 : (.selects "SecretBuyers$Reader" (⟨"SecretBuyers$Reader", "readBonus", "()V"⟩ : MethodName) (⟨"SecretBuyers$Reader", "readBonus", "()V"⟩ : MethodName) : Cond) ∈ qw_tbl := List.mem_filter.mpr ⟨qs_1 (q := (⟨"SecretBuyers$Reader", "readBonus", "()V"⟩, 6)) (List.mem_of_getElem? (i := 13) rfl), rfl⟩
theorem w_14 : (.selects "SecretBuyers$Reader" (⟨"SecretBuyers$Reader", "readAddOrMust", "(I)V"⟩ : MethodName) (⟨"SecretBuyers$Reader", "readAddOrMust", "(I)V"⟩ : MethodName) : Cond) ∈ qw_tbl := List.mem_filter.mpr ⟨qs_1 (q := (⟨"SecretBuyers$Reader", "readAddOrMust", "(I)V"⟩, 6)) (List.mem_of_getElem? (i := 14) rfl), rfl⟩
theorem w_15 : (.selects "SecretBuyers$Truth" (⟨"SecretBuyers$Truth", "judgeAlone", "()V"⟩ : MethodName) (⟨"SecretBuyers$Truth", "judgeAlone", "()V"⟩ : MethodName) : Cond) ∈ qw_tbl := List.mem_filter.mpr ⟨qs_1 (q := (⟨"SecretBuyers$Truth", "judgeAlone", "()V"⟩, 10)) (List.mem_of_getElem? (i := 15) rfl), rfl⟩
theorem w_16 : (.selects "SecretBuyers$Truth" (⟨"SecretBuyers$Truth", "canBeAlone", "(LSecretBuyers$Visit;)Z"⟩ : MethodName) (⟨"SecretBuyers$Truth", "canBeAlone", "(LSecretBuyers$Visit;)Z"⟩ : MethodName) : Cond) ∈ qw_tbl := List.mem_filter.mpr ⟨qs_2 (q := (⟨"SecretBuyers$Truth", "canBeAlone", "(LSecretBuyers$Visit;)Z"⟩, 10)) (List.mem_of_getElem? (i := 0) rfl), rfl⟩
theorem w_17 : (.selects "SecretBuyers$Truth" (⟨"SecretBuyers$Truth", "gather", "(III)V"⟩ : MethodName) (⟨"SecretBuyers$Truth", "gather", "(III)V"⟩ : MethodName) : Cond) ∈ qw_tbl := List.mem_filter.mpr ⟨qs_2 (q := (⟨"SecretBuyers$Truth", "gather", "(III)V"⟩, 10)) (List.mem_of_getElem? (i := 1) rfl), rfl⟩
theorem w_18 : (.selects "SecretBuyers$Truth" (⟨"SecretBuyers$Truth", "judgeGroup", "()V"⟩ : MethodName) (⟨"SecretBuyers$Truth", "judgeGroup", "()V"⟩ : MethodName) : Cond) ∈ qw_tbl := List.mem_filter.mpr ⟨qs_2 (q := (⟨"SecretBuyers$Truth", "judgeGroup", "()V"⟩, 10)) (List.mem_of_getElem? (i := 2) rfl), rfl⟩
theorem w_19 : (.selects "SecretBuyers$Truth" (⟨"SecretBuyers$Truth", "longestUp", "()I"⟩ : MethodName) (⟨"SecretBuyers$Truth", "longestUp", "()I"⟩ : MethodName) : Cond) ∈ qw_tbl := List.mem_filter.mpr ⟨qs_2 (q := (⟨"SecretBuyers$Truth", "longestUp", "()I"⟩, 10)) (List.mem_of_getElem? (i := 3) rfl), rfl⟩
theorem w_20 : (.selects "SecretBuyers$Truth" (⟨"SecretBuyers$Truth", "canBoth", "(LSecretBuyers$Visit;LSecretBuyers$Visit;)Z"⟩ : MethodName) (⟨"SecretBuyers$Truth", "canBoth", "(LSecretBuyers$Visit;LSecretBuyers$Visit;)Z"⟩ : MethodName) : Cond) ∈ qw_tbl := List.mem_filter.mpr ⟨qs_2 (q := (⟨"SecretBuyers$Truth", "canBoth", "(LSecretBuyers$Visit;LSecretBuyers$Visit;)Z"⟩, 10)) (List.mem_of_getElem? (i := 4) rfl), rfl⟩
theorem w_21 : (.selects "SecretBuyers$Truth" (⟨"SecretBuyers$Truth", "workDown", "()V"⟩ : MethodName) (⟨"SecretBuyers$Truth", "workDown", "()V"⟩ : MethodName) : Cond) ∈ qw_tbl := List.mem_filter.mpr ⟨qs_2 (q := (⟨"SecretBuyers$Truth", "workDown", "()V"⟩, 10)) (List.mem_of_getElem? (i := 5) rfl), rfl⟩
theorem w_22 : (.selects "SecretBuyers$Truth" (⟨"SecretBuyers$Truth", "isNeeded", "(II)Z"⟩ : MethodName) (⟨"SecretBuyers$Truth", "isNeeded", "(II)Z"⟩ : MethodName) : Cond) ∈ qw_tbl := List.mem_filter.mpr ⟨qs_2 (q := (⟨"SecretBuyers$Truth", "isNeeded", "(II)Z"⟩, 10)) (List.mem_of_getElem? (i := 6) rfl), rfl⟩
theorem w_23 : (.selects "SecretBuyers$Truth" (⟨"SecretBuyers$Truth", "countThem", "()V"⟩ : MethodName) (⟨"SecretBuyers$Truth", "countThem", "()V"⟩ : MethodName) : Cond) ∈ qw_tbl := List.mem_filter.mpr ⟨qs_2 (q := (⟨"SecretBuyers$Truth", "countThem", "()V"⟩, 10)) (List.mem_of_getElem? (i := 7) rfl), rfl⟩
theorem w_24 : (.selects "SecretBuyers$Truth" (⟨"SecretBuyers$Truth", "nextByNumber", "(I)I"⟩ : MethodName) (⟨"SecretBuyers$Truth", "nextByNumber", "(I)I"⟩ : MethodName) : Cond) ∈ qw_tbl := List.mem_filter.mpr ⟨qs_2 (q := (⟨"SecretBuyers$Truth", "nextByNumber", "(I)I"⟩, 10)) (List.mem_of_getElem? (i := 8) rfl), rfl⟩
theorem w_25 : (.selects "SecretBuyers$Scorer" (⟨"SecretBuyers$Scorer", "scoreVisit", "(LSecretBuyers$Visit;)V"⟩ : MethodName) (⟨"SecretBuyers$Scorer", "scoreVisit", "(LSecretBuyers$Visit;)V"⟩ : MethodName) : Cond) ∈ qw_tbl := List.mem_filter.mpr ⟨qs_2 (q := (⟨"SecretBuyers$Scorer", "scoreVisit", "(LSecretBuyers$Visit;)V"⟩, 10)) (List.mem_of_getElem? (i := 9) rfl), rfl⟩
theorem w_26 : (.selects "SecretBuyers$Scorer" (⟨"SecretBuyers$Scorer", "work", "(LSecretBuyers$Visit;I)V"⟩ : MethodName) (⟨"SecretBuyers$Scorer", "work", "(LSecretBuyers$Visit;I)V"⟩ : MethodName) : Cond) ∈ qw_tbl := List.mem_filter.mpr ⟨qs_2 (q := (⟨"SecretBuyers$Scorer", "work", "(LSecretBuyers$Visit;I)V"⟩, 10)) (List.mem_of_getElem? (i := 10) rfl), rfl⟩
theorem w_27 : (.selects "SecretBuyers$Scorer" (⟨"SecretBuyers$Scorer", "doStep", "(IILSecretBuyers$Visit;I)V"⟩ : MethodName) (⟨"SecretBuyers$Scorer", "doStep", "(IILSecretBuyers$Visit;I)V"⟩ : MethodName) : Cond) ∈ qw_tbl := List.mem_filter.mpr ⟨qs_2 (q := (⟨"SecretBuyers$Scorer", "doStep", "(IILSecretBuyers$Visit;I)V"⟩, 10)) (List.mem_of_getElem? (i := 11) rfl), rfl⟩
theorem w_28 : (.selects "SecretBuyers$Scorer" (⟨"SecretBuyers$Scorer", "push", "(I)V"⟩ : MethodName) (⟨"SecretBuyers$Scorer", "push", "(I)V"⟩ : MethodName) : Cond) ∈ qw_tbl := List.mem_filter.mpr ⟨qs_2 (q := (⟨"SecretBuyers$Scorer", "push", "(I)V"⟩, 10)) (List.mem_of_getElem? (i := 12) rfl), rfl⟩
theorem w_29 : (.selects "SecretBuyers$Scorer" (⟨"SecretBuyers$Scorer", "pop", "()I"⟩ : MethodName) (⟨"SecretBuyers$Scorer", "pop", "()I"⟩ : MethodName) : Cond) ∈ qw_tbl := List.mem_filter.mpr ⟨qs_2 (q := (⟨"SecretBuyers$Scorer", "pop", "()I"⟩, 10)) (List.mem_of_getElem? (i := 13) rfl), rfl⟩
theorem w_30 : (.selects "SecretBuyers$Scorer" (⟨"SecretBuyers$Scorer", "endLine", "(II)V"⟩ : MethodName) (⟨"SecretBuyers$Scorer", "endLine", "(II)V"⟩ : MethodName) : Cond) ∈ qw_tbl := List.mem_filter.mpr ⟨qs_2 (q := (⟨"SecretBuyers$Scorer", "endLine", "(II)V"⟩, 10)) (List.mem_of_getElem? (i := 14) rfl), rfl⟩
theorem w_31 : (.selects "SecretBuyers$Scorer" (⟨"SecretBuyers$Scorer", "joinTwo", "(I)V"⟩ : MethodName) (⟨"SecretBuyers$Scorer", "joinTwo", "(I)V"⟩ : MethodName) : Cond) ∈ qw_tbl := List.mem_filter.mpr ⟨qs_2 (q := (⟨"SecretBuyers$Scorer", "joinTwo", "(I)V"⟩, 10)) (List.mem_of_getElem? (i := 15) rfl), rfl⟩
theorem w_32 : (.selects "SecretBuyers$Means" (⟨"SecretBuyers$Means", "isTaken", "(LSecretBuyers$Visit;)Z"⟩ : MethodName) (⟨"SecretBuyers$Means", "isTaken", "(LSecretBuyers$Visit;)Z"⟩ : MethodName) : Cond) ∈ qw_tbl := List.mem_filter.mpr ⟨qs_3 (q := (⟨"SecretBuyers$Means", "isTaken", "(LSecretBuyers$Visit;)Z"⟩, 12)) (List.mem_of_getElem? (i := 0) rfl), rfl⟩
theorem w_33 : (.selects "SecretBuyers$Means" (⟨"SecretBuyers$Means", "meetLater", "(I)V"⟩ : MethodName) (⟨"SecretBuyers$Means", "meetLater", "(I)V"⟩ : MethodName) : Cond) ∈ qw_tbl := List.mem_filter.mpr ⟨qs_3 (q := (⟨"SecretBuyers$Means", "meetLater", "(I)V"⟩, 12)) (List.mem_of_getElem? (i := 1) rfl), rfl⟩
theorem w_34 : (.selects "SecretBuyers$Means" (⟨"SecretBuyers$Means", "meet", "(LSecretBuyers$Visit;LSecretBuyers$Visit;)V"⟩ : MethodName) (⟨"SecretBuyers$Means", "meet", "(LSecretBuyers$Visit;LSecretBuyers$Visit;)V"⟩ : MethodName) : Cond) ∈ qw_tbl := List.mem_filter.mpr ⟨qs_3 (q := (⟨"SecretBuyers$Means", "meet", "(LSecretBuyers$Visit;LSecretBuyers$Visit;)V"⟩, 12)) (List.mem_of_getElem? (i := 2) rfl), rfl⟩
theorem w_35 : (.selects "SecretBuyers" (⟨"SecretBuyers", "hasMean", "(III)Z"⟩ : MethodName) (⟨"SecretBuyers", "hasMean", "(III)Z"⟩ : MethodName) : Cond) ∈ qw_tbl := List.mem_filter.mpr ⟨qs_3 (q := (⟨"SecretBuyers", "hasMean", "(III)Z"⟩, 9)) (List.mem_of_getElem? (i := 3) rfl), rfl⟩
theorem w_36 : (.selects "SecretBuyers$Means" (⟨"SecretBuyers$Means", "rankShop", "(I)V"⟩ : MethodName) (⟨"SecretBuyers$Means", "rankShop", "(I)V"⟩ : MethodName) : Cond) ∈ qw_tbl := List.mem_filter.mpr ⟨qs_3 (q := (⟨"SecretBuyers$Means", "rankShop", "(I)V"⟩, 12)) (List.mem_of_getElem? (i := 4) rfl), rfl⟩
theorem w_37 : (.selects "SecretBuyers$Means" (⟨"SecretBuyers$Means", "isBeaten", "(II)Z"⟩ : MethodName) (⟨"SecretBuyers$Means", "isBeaten", "(II)Z"⟩ : MethodName) : Cond) ∈ qw_tbl := List.mem_filter.mpr ⟨qs_3 (q := (⟨"SecretBuyers$Means", "isBeaten", "(II)Z"⟩, 12)) (List.mem_of_getElem? (i := 5) rfl), rfl⟩
theorem w_38 : (.selects "SecretBuyers$Book" (⟨"SecretBuyers$Book", "isTooNear", "(LSecretBuyers$Visit;II)Z"⟩ : MethodName) (⟨"SecretBuyers$Book", "isTooNear", "(LSecretBuyers$Visit;II)Z"⟩ : MethodName) : Cond) ∈ qw_tbl := List.mem_filter.mpr ⟨qs_3 (q := (⟨"SecretBuyers$Book", "isTooNear", "(LSecretBuyers$Visit;II)Z"⟩, 19)) (List.mem_of_getElem? (i := 6) rfl), rfl⟩
theorem w_39 : (.selects "SecretBuyers$Giver" (⟨"SecretBuyers$Giver", "listShops", "(I)V"⟩ : MethodName) (⟨"SecretBuyers$Giver", "listShops", "(I)V"⟩ : MethodName) : Cond) ∈ qw_tbl := List.mem_filter.mpr ⟨qs_3 (q := (⟨"SecretBuyers$Giver", "listShops", "(I)V"⟩, 5)) (List.mem_of_getElem? (i := 7) rfl), rfl⟩
theorem w_40 : (.selects "SecretBuyers$Giver" (⟨"SecretBuyers$Giver", "setPrices", "(II)V"⟩ : MethodName) (⟨"SecretBuyers$Giver", "setPrices", "(II)V"⟩ : MethodName) : Cond) ∈ qw_tbl := List.mem_filter.mpr ⟨qs_3 (q := (⟨"SecretBuyers$Giver", "setPrices", "(II)V"⟩, 5)) (List.mem_of_getElem? (i := 8) rfl), rfl⟩
theorem w_41 : (.selects "SecretBuyers$Giver" (⟨"SecretBuyers$Giver", "sendOnce", "()V"⟩ : MethodName) (⟨"SecretBuyers$Giver", "sendOnce", "()V"⟩ : MethodName) : Cond) ∈ qw_tbl := List.mem_filter.mpr ⟨qs_3 (q := (⟨"SecretBuyers$Giver", "sendOnce", "()V"⟩, 5)) (List.mem_of_getElem? (i := 9) rfl), rfl⟩
theorem w_42 : (.selects "SecretBuyers" (⟨"SecretBuyers", "bonusesOf", "(III)I"⟩ : MethodName) (⟨"SecretBuyers", "bonusesOf", "(III)I"⟩ : MethodName) : Cond) ∈ qw_tbl := List.mem_filter.mpr ⟨qs_3 (q := (⟨"SecretBuyers", "bonusesOf", "(III)I"⟩, 9)) (List.mem_of_getElem? (i := 10) rfl), rfl⟩
theorem w_43 : (.selects "SecretBuyers" (⟨"SecretBuyers", "feesOf", "(III)I"⟩ : MethodName) (⟨"SecretBuyers", "feesOf", "(III)I"⟩ : MethodName) : Cond) ∈ qw_tbl := List.mem_filter.mpr ⟨qs_3 (q := (⟨"SecretBuyers", "feesOf", "(III)I"⟩, 9)) (List.mem_of_getElem? (i := 11) rfl), rfl⟩
theorem w_44 : (.selects "SecretBuyers" (⟨"SecretBuyers", "countTruth", "(I)I"⟩ : MethodName) (⟨"SecretBuyers", "countTruth", "(I)I"⟩ : MethodName) : Cond) ∈ qw_tbl := List.mem_filter.mpr ⟨qs_3 (q := (⟨"SecretBuyers", "countTruth", "(I)I"⟩, 9)) (List.mem_of_getElem? (i := 12) rfl), rfl⟩
theorem w_45 : (.selects "java/lang/Throwable" (⟨"java/lang/Throwable", "fillInStackTrace", "(I)Ljava/lang/Throwable;"⟩ : MethodName) (⟨"java/lang/Throwable", "fillInStackTrace", "(I)Ljava/lang/Throwable;"⟩ : MethodName) : Cond) ∈ qw_tbl := List.mem_filter.mpr ⟨qs_3 (q := (⟨"java/lang/Throwable", "fillInStackTrace", "(I)Ljava/lang/Throwable;"⟩, 6)) (List.mem_of_getElem? (i := 13) rfl), rfl⟩
theorem w_46 : (.selects "SecretBuyersModel" (⟨"SecretBuyersModel", "lay", "(J)V"⟩ : MethodName) (⟨"SecretBuyersModel", "lay", "(J)V"⟩ : MethodName) : Cond) ∈ qw_tbl := List.mem_filter.mpr ⟨qs_3 (q := (⟨"SecretBuyersModel", "lay", "(J)V"⟩, 81)) (List.mem_of_getElem? (i := 14) rfl), rfl⟩
theorem w_47 : (.selects "SecretBuyersModel" (⟨"SecretBuyersModel", "cutAll", "()V"⟩ : MethodName) (⟨"SecretBuyersModel", "cutAll", "()V"⟩ : MethodName) : Cond) ∈ qw_tbl := List.mem_filter.mpr ⟨qs_3 (q := (⟨"SecretBuyersModel", "cutAll", "()V"⟩, 81)) (List.mem_of_getElem? (i := 15) rfl), rfl⟩
theorem w_48 : (.selects "SecretBuyersModel" (⟨"SecretBuyersModel", "readLine", "()V"⟩ : MethodName) (⟨"SecretBuyersModel", "readLine", "()V"⟩ : MethodName) : Cond) ∈ qw_tbl := List.mem_filter.mpr ⟨qs_4 (q := (⟨"SecretBuyersModel", "readLine", "()V"⟩, 81)) (List.mem_of_getElem? (i := 0) rfl), rfl⟩
theorem w_49 : (.selects "SecretBuyersModel" (⟨"SecretBuyersModel", "isWord", "(I)Z"⟩ : MethodName) (⟨"SecretBuyersModel", "isWord", "(I)Z"⟩ : MethodName) : Cond) ∈ qw_tbl := List.mem_filter.mpr ⟨qs_4 (q := (⟨"SecretBuyersModel", "isWord", "(I)Z"⟩, 81)) (List.mem_of_getElem? (i := 1) rfl), rfl⟩
theorem w_50 : (.selects "SecretBuyersModel" (⟨"SecretBuyersModel", "wrong", "(I)V"⟩ : MethodName) (⟨"SecretBuyersModel", "wrong", "(I)V"⟩ : MethodName) : Cond) ∈ qw_tbl := List.mem_filter.mpr ⟨qs_4 (q := (⟨"SecretBuyersModel", "wrong", "(I)V"⟩, 81)) (List.mem_of_getElem? (i := 2) rfl), rfl⟩
theorem w_51 : (.selects "SecretBuyersModel" (⟨"SecretBuyersModel", "readLet", "(I)V"⟩ : MethodName) (⟨"SecretBuyersModel", "readLet", "(I)V"⟩ : MethodName) : Cond) ∈ qw_tbl := List.mem_filter.mpr ⟨qs_4 (q := (⟨"SecretBuyersModel", "readLet", "(I)V"⟩, 81)) (List.mem_of_getElem? (i := 3) rfl), rfl⟩
theorem w_52 : (.selects "SecretBuyersModel" (⟨"SecretBuyersModel", "isName", "()Z"⟩ : MethodName) (⟨"SecretBuyersModel", "isName", "()Z"⟩ : MethodName) : Cond) ∈ qw_tbl := List.mem_filter.mpr ⟨qs_4 (q := (⟨"SecretBuyersModel", "isName", "()Z"⟩, 81)) (List.mem_of_getElem? (i := 4) rfl), rfl⟩
theorem w_53 : (.selects "SecretBuyersModel" (⟨"SecretBuyersModel", "findName", "()I"⟩ : MethodName) (⟨"SecretBuyersModel", "findName", "()I"⟩ : MethodName) : Cond) ∈ qw_tbl := List.mem_filter.mpr ⟨qs_4 (q := (⟨"SecretBuyersModel", "findName", "()I"⟩, 81)) (List.mem_of_getElem? (i := 5) rfl), rfl⟩
theorem w_54 : (.selects "SecretBuyersModel" (⟨"SecretBuyersModel", "takeSign", "(I)V"⟩ : MethodName) (⟨"SecretBuyersModel", "takeSign", "(I)V"⟩ : MethodName) : Cond) ∈ qw_tbl := List.mem_filter.mpr ⟨qs_4 (q := (⟨"SecretBuyersModel", "takeSign", "(I)V"⟩, 81)) (List.mem_of_getElem? (i := 6) rfl), rfl⟩
theorem w_55 : (.selects "SecretBuyersModel" (⟨"SecretBuyersModel", "isSign", "(I)Z"⟩ : MethodName) (⟨"SecretBuyersModel", "isSign", "(I)Z"⟩ : MethodName) : Cond) ∈ qw_tbl := List.mem_filter.mpr ⟨qs_4 (q := (⟨"SecretBuyersModel", "isSign", "(I)Z"⟩, 81)) (List.mem_of_getElem? (i := 7) rfl), rfl⟩
theorem w_56 : (.selects "SecretBuyersModel" (⟨"SecretBuyersModel", "readTests", "()I"⟩ : MethodName) (⟨"SecretBuyersModel", "readTests", "()I"⟩ : MethodName) : Cond) ∈ qw_tbl := List.mem_filter.mpr ⟨qs_4 (q := (⟨"SecretBuyersModel", "readTests", "()I"⟩, 81)) (List.mem_of_getElem? (i := 8) rfl), rfl⟩
theorem w_57 : (.selects "SecretBuyersModel" (⟨"SecretBuyersModel", "all", "(I)V"⟩ : MethodName) (⟨"SecretBuyersModel", "all", "(I)V"⟩ : MethodName) : Cond) ∈ qw_tbl := List.mem_filter.mpr ⟨qs_4 (q := (⟨"SecretBuyersModel", "all", "(I)V"⟩, 81)) (List.mem_of_getElem? (i := 9) rfl), rfl⟩
theorem w_58 : (.selects "SecretBuyersModel" (⟨"SecretBuyersModel", "test", "(I)V"⟩ : MethodName) (⟨"SecretBuyersModel", "test", "(I)V"⟩ : MethodName) : Cond) ∈ qw_tbl := List.mem_filter.mpr ⟨qs_4 (q := (⟨"SecretBuyersModel", "test", "(I)V"⟩, 81)) (List.mem_of_getElem? (i := 10) rfl), rfl⟩
theorem w_59 : (.selects "SecretBuyersModel" (⟨"SecretBuyersModel", "sums", "(I)V"⟩ : MethodName) (⟨"SecretBuyersModel", "sums", "(I)V"⟩ : MethodName) : Cond) ∈ qw_tbl := List.mem_filter.mpr ⟨qs_4 (q := (⟨"SecretBuyersModel", "sums", "(I)V"⟩, 81)) (List.mem_of_getElem? (i := 11) rfl), rfl⟩
theorem w_60 : (.selects "SecretBuyersModel" (⟨"SecretBuyersModel", "products", "(I)V"⟩ : MethodName) (⟨"SecretBuyersModel", "products", "(I)V"⟩ : MethodName) : Cond) ∈ qw_tbl := List.mem_filter.mpr ⟨qs_4 (q := (⟨"SecretBuyersModel", "products", "(I)V"⟩, 81)) (List.mem_of_getElem? (i := 12) rfl), rfl⟩
theorem w_61 : (.selects "SecretBuyersModel" (⟨"SecretBuyersModel", "takePart", "(I)V"⟩ : MethodName) (⟨"SecretBuyersModel", "takePart", "(I)V"⟩ : MethodName) : Cond) ∈ qw_tbl := List.mem_filter.mpr ⟨qs_4 (q := (⟨"SecretBuyersModel", "takePart", "(I)V"⟩, 81)) (List.mem_of_getElem? (i := 13) rfl), rfl⟩
theorem w_62 : (.selects "SecretBuyersModel" (⟨"SecretBuyersModel", "hasWord", "(I)Z"⟩ : MethodName) (⟨"SecretBuyersModel", "hasWord", "(I)Z"⟩ : MethodName) : Cond) ∈ qw_tbl := List.mem_filter.mpr ⟨qs_4 (q := (⟨"SecretBuyersModel", "hasWord", "(I)Z"⟩, 81)) (List.mem_of_getElem? (i := 14) rfl), rfl⟩
theorem w_63 : (.selects "SecretBuyersModel" (⟨"SecretBuyersModel", "emit", "(II)V"⟩ : MethodName) (⟨"SecretBuyersModel", "emit", "(II)V"⟩ : MethodName) : Cond) ∈ qw_tbl := List.mem_filter.mpr ⟨qs_4 (q := (⟨"SecretBuyersModel", "emit", "(II)V"⟩, 81)) (List.mem_of_getElem? (i := 15) rfl), rfl⟩
theorem w_64 : (.selects "SecretBuyersModel" (⟨"SecretBuyersModel", "takeNumber", "(I)I"⟩ : MethodName) (⟨"SecretBuyersModel", "takeNumber", "(I)I"⟩ : MethodName) : Cond) ∈ qw_tbl := List.mem_filter.mpr ⟨qs_5 (q := (⟨"SecretBuyersModel", "takeNumber", "(I)I"⟩, 81)) (List.mem_of_getElem? (i := 0) rfl), rfl⟩
theorem w_65 : (.selects "SecretBuyersModel" (⟨"SecretBuyersModel", "hasSign", "(I)Z"⟩ : MethodName) (⟨"SecretBuyersModel", "hasSign", "(I)Z"⟩ : MethodName) : Cond) ∈ qw_tbl := List.mem_filter.mpr ⟨qs_5 (q := (⟨"SecretBuyersModel", "hasSign", "(I)Z"⟩, 81)) (List.mem_of_getElem? (i := 1) rfl), rfl⟩
theorem w_66 : (.selects "SecretBuyersModel" (⟨"SecretBuyersModel", "takeWord", "(I)V"⟩ : MethodName) (⟨"SecretBuyersModel", "takeWord", "(I)V"⟩ : MethodName) : Cond) ∈ qw_tbl := List.mem_filter.mpr ⟨qs_5 (q := (⟨"SecretBuyersModel", "takeWord", "(I)V"⟩, 81)) (List.mem_of_getElem? (i := 2) rfl), rfl⟩
theorem w_67 : (.selects "SecretBuyersModel" (⟨"SecretBuyersModel", "keeps", "(II)V"⟩ : MethodName) (⟨"SecretBuyersModel", "keeps", "(II)V"⟩ : MethodName) : Cond) ∈ qw_tbl := List.mem_filter.mpr ⟨qs_5 (q := (⟨"SecretBuyersModel", "keeps", "(II)V"⟩, 81)) (List.mem_of_getElem? (i := 3) rfl), rfl⟩
theorem w_68 : (.selects "SecretBuyersModel" (⟨"SecretBuyersModel", "isShop", "(I)Z"⟩ : MethodName) (⟨"SecretBuyersModel", "isShop", "(I)Z"⟩ : MethodName) : Cond) ∈ qw_tbl := List.mem_filter.mpr ⟨qs_5 (q := (⟨"SecretBuyersModel", "isShop", "(I)Z"⟩, 81)) (List.mem_of_getElem? (i := 4) rfl), rfl⟩
theorem w_69 : (.selects "SecretBuyersModel" (⟨"SecretBuyersModel", "isBuyer", "(I)Z"⟩ : MethodName) (⟨"SecretBuyersModel", "isBuyer", "(I)Z"⟩ : MethodName) : Cond) ∈ qw_tbl := List.mem_filter.mpr ⟨qs_5 (q := (⟨"SecretBuyersModel", "isBuyer", "(I)Z"⟩, 81)) (List.mem_of_getElem? (i := 5) rfl), rfl⟩
theorem w_70 : (.selects "SecretBuyersModel" (⟨"SecretBuyersModel", "visitsOf", "(II)I"⟩ : MethodName) (⟨"SecretBuyersModel", "visitsOf", "(II)I"⟩ : MethodName) : Cond) ∈ qw_tbl := List.mem_filter.mpr ⟨qs_5 (q := (⟨"SecretBuyersModel", "visitsOf", "(II)I"⟩, 81)) (List.mem_of_getElem? (i := 6) rfl), rfl⟩
theorem w_71 : (.selects "SecretBuyersModel" (⟨"SecretBuyersModel", "isSeen", "(I)Z"⟩ : MethodName) (⟨"SecretBuyersModel", "isSeen", "(I)Z"⟩ : MethodName) : Cond) ∈ qw_tbl := List.mem_filter.mpr ⟨qs_5 (q := (⟨"SecretBuyersModel", "isSeen", "(I)Z"⟩, 81)) (List.mem_of_getElem? (i := 7) rfl), rfl⟩
theorem w_72 : (.selects "SecretBuyersModel" (⟨"SecretBuyersModel", "viewDay", "()I"⟩ : MethodName) (⟨"SecretBuyersModel", "viewDay", "()I"⟩ : MethodName) : Cond) ∈ qw_tbl := List.mem_filter.mpr ⟨qs_5 (q := (⟨"SecretBuyersModel", "viewDay", "()I"⟩, 81)) (List.mem_of_getElem? (i := 8) rfl), rfl⟩
theorem w_73 : (.selects "SecretBuyersModel" (⟨"SecretBuyersModel", "findAll", "()V"⟩ : MethodName) (⟨"SecretBuyersModel", "findAll", "()V"⟩ : MethodName) : Cond) ∈ qw_tbl := List.mem_filter.mpr ⟨qs_5 (q := (⟨"SecretBuyersModel", "findAll", "()V"⟩, 81)) (List.mem_of_getElem? (i := 9) rfl), rfl⟩
theorem w_74 : (.selects "SecretBuyersModel" (⟨"SecretBuyersModel", "isAhead", "(II)Z"⟩ : MethodName) (⟨"SecretBuyersModel", "isAhead", "(II)Z"⟩ : MethodName) : Cond) ∈ qw_tbl := List.mem_filter.mpr ⟨qs_5 (q := (⟨"SecretBuyersModel", "isAhead", "(II)Z"⟩, 81)) (List.mem_of_getElem? (i := 10) rfl), rfl⟩
theorem w_75 : (.selects "SecretBuyersModel" (⟨"SecretBuyersModel", "latest", "(II)I"⟩ : MethodName) (⟨"SecretBuyersModel", "latest", "(II)I"⟩ : MethodName) : Cond) ∈ qw_tbl := List.mem_filter.mpr ⟨qs_5 (q := (⟨"SecretBuyersModel", "latest", "(II)I"⟩, 81)) (List.mem_of_getElem? (i := 11) rfl), rfl⟩
theorem w_76 : (.selects "SecretBuyersModel" (⟨"SecretBuyersModel", "formNow", "(I)I"⟩ : MethodName) (⟨"SecretBuyersModel", "formNow", "(I)I"⟩ : MethodName) : Cond) ∈ qw_tbl := List.mem_filter.mpr ⟨qs_5 (q := (⟨"SecretBuyersModel", "formNow", "(I)I"⟩, 81)) (List.mem_of_getElem? (i := 12) rfl), rfl⟩
theorem w_77 : (.selects "SecretBuyersModel" (⟨"SecretBuyersModel", "tells", "(III)V"⟩ : MethodName) (⟨"SecretBuyersModel", "tells", "(III)V"⟩ : MethodName) : Cond) ∈ qw_tbl := List.mem_filter.mpr ⟨qs_5 (q := (⟨"SecretBuyersModel", "tells", "(III)V"⟩, 81)) (List.mem_of_getElem? (i := 13) rfl), rfl⟩
theorem w_78 : (.selects "SecretBuyersModel" (⟨"SecretBuyersModel", "briefOf", "(I)I"⟩ : MethodName) (⟨"SecretBuyersModel", "briefOf", "(I)I"⟩ : MethodName) : Cond) ∈ qw_tbl := List.mem_filter.mpr ⟨qs_5 (q := (⟨"SecretBuyersModel", "briefOf", "(I)I"⟩, 81)) (List.mem_of_getElem? (i := 14) rfl), rfl⟩
theorem w_79 : (.selects "SecretBuyersModel" (⟨"SecretBuyersModel", "judges", "(I)V"⟩ : MethodName) (⟨"SecretBuyersModel", "judges", "(I)V"⟩ : MethodName) : Cond) ∈ qw_tbl := List.mem_filter.mpr ⟨qs_5 (q := (⟨"SecretBuyersModel", "judges", "(I)V"⟩, 81)) (List.mem_of_getElem? (i := 15) rfl), rfl⟩
theorem w_80 : (.selects "SecretBuyersModel" (⟨"SecretBuyersModel", "worth", "(I)I"⟩ : MethodName) (⟨"SecretBuyersModel", "worth", "(I)I"⟩ : MethodName) : Cond) ∈ qw_tbl := List.mem_filter.mpr ⟨qs_6 (q := (⟨"SecretBuyersModel", "worth", "(I)I"⟩, 81)) (List.mem_of_getElem? (i := 0) rfl), rfl⟩
theorem w_81 : (.selects "SecretBuyersModel" (⟨"SecretBuyersModel", "isAlone", "(I)Z"⟩ : MethodName) (⟨"SecretBuyersModel", "isAlone", "(I)Z"⟩ : MethodName) : Cond) ∈ qw_tbl := List.mem_filter.mpr ⟨qs_6 (q := (⟨"SecretBuyersModel", "isAlone", "(I)Z"⟩, 81)) (List.mem_of_getElem? (i := 1) rfl), rfl⟩
theorem w_82 : (.selects "SecretBuyersModel" (⟨"SecretBuyersModel", "findFewest", "(II)V"⟩ : MethodName) (⟨"SecretBuyersModel", "findFewest", "(II)V"⟩ : MethodName) : Cond) ∈ qw_tbl := List.mem_filter.mpr ⟨qs_6 (q := (⟨"SecretBuyersModel", "findFewest", "(II)V"⟩, 81)) (List.mem_of_getElem? (i := 2) rfl), rfl⟩
theorem w_83 : (.selects "SecretBuyersModel" (⟨"SecretBuyersModel", "areBoth", "(II)Z"⟩ : MethodName) (⟨"SecretBuyersModel", "areBoth", "(II)Z"⟩ : MethodName) : Cond) ∈ qw_tbl := List.mem_filter.mpr ⟨qs_6 (q := (⟨"SecretBuyersModel", "areBoth", "(II)Z"⟩, 81)) (List.mem_of_getElem? (i := 3) rfl), rfl⟩
theorem w_84 : (.selects "SecretBuyersModel" (⟨"SecretBuyersModel", "doesDo", "(I)Z"⟩ : MethodName) (⟨"SecretBuyersModel", "doesDo", "(I)Z"⟩ : MethodName) : Cond) ∈ qw_tbl := List.mem_filter.mpr ⟨qs_6 (q := (⟨"SecretBuyersModel", "doesDo", "(I)Z"⟩, 81)) (List.mem_of_getElem? (i := 4) rfl), rfl⟩
theorem w_85 : (.selects "SecretBuyersModel" (⟨"SecretBuyersModel", "counts", "(I)Z"⟩ : MethodName) (⟨"SecretBuyersModel", "counts", "(I)Z"⟩ : MethodName) : Cond) ∈ qw_tbl := List.mem_filter.mpr ⟨qs_6 (q := (⟨"SecretBuyersModel", "counts", "(I)Z"⟩, 81)) (List.mem_of_getElem? (i := 5) rfl), rfl⟩
theorem w_86 : (.selects "SecretBuyersModel" (⟨"SecretBuyersModel", "findLeans", "()V"⟩ : MethodName) (⟨"SecretBuyersModel", "findLeans", "()V"⟩ : MethodName) : Cond) ∈ qw_tbl := List.mem_filter.mpr ⟨qs_6 (q := (⟨"SecretBuyersModel", "findLeans", "()V"⟩, 81)) (List.mem_of_getElem? (i := 6) rfl), rfl⟩
theorem w_87 : (.selects "SecretBuyersModel" (⟨"SecretBuyersModel", "isMeeting", "(II)Z"⟩ : MethodName) (⟨"SecretBuyersModel", "isMeeting", "(II)Z"⟩ : MethodName) : Cond) ∈ qw_tbl := List.mem_filter.mpr ⟨qs_6 (q := (⟨"SecretBuyersModel", "isMeeting", "(II)Z"⟩, 81)) (List.mem_of_getElem? (i := 7) rfl), rfl⟩
theorem w_88 : (.selects "SecretBuyersModel" (⟨"SecretBuyersModel", "fairOf", "(I)I"⟩ : MethodName) (⟨"SecretBuyersModel", "fairOf", "(I)I"⟩ : MethodName) : Cond) ∈ qw_tbl := List.mem_filter.mpr ⟨qs_6 (q := (⟨"SecretBuyersModel", "fairOf", "(I)I"⟩, 81)) (List.mem_of_getElem? (i := 8) rfl), rfl⟩
theorem w_89 : (.selects "SecretBuyersModel" (⟨"SecretBuyersModel", "hasMean", "(III)Z"⟩ : MethodName) (⟨"SecretBuyersModel", "hasMean", "(III)Z"⟩ : MethodName) : Cond) ∈ qw_tbl := List.mem_filter.mpr ⟨qs_6 (q := (⟨"SecretBuyersModel", "hasMean", "(III)Z"⟩, 81)) (List.mem_of_getElem? (i := 9) rfl), rfl⟩
theorem w_90 : (.selects "SecretBuyersModel" (⟨"SecretBuyersModel", "findMeans", "(II)V"⟩ : MethodName) (⟨"SecretBuyersModel", "findMeans", "(II)V"⟩ : MethodName) : Cond) ∈ qw_tbl := List.mem_filter.mpr ⟨qs_6 (q := (⟨"SecretBuyersModel", "findMeans", "(II)V"⟩, 81)) (List.mem_of_getElem? (i := 10) rfl), rfl⟩
theorem w_91 : (.selects "SecretBuyersModel" (⟨"SecretBuyersModel", "doubtOf", "(I)I"⟩ : MethodName) (⟨"SecretBuyersModel", "doubtOf", "(I)I"⟩ : MethodName) : Cond) ∈ qw_tbl := List.mem_filter.mpr ⟨qs_6 (q := (⟨"SecretBuyersModel", "doubtOf", "(I)I"⟩, 81)) (List.mem_of_getElem? (i := 11) rfl), rfl⟩
theorem w_92 : (.selects "SecretBuyersModel" (⟨"SecretBuyersModel", "areTwo", "(IIII)Z"⟩ : MethodName) (⟨"SecretBuyersModel", "areTwo", "(IIII)Z"⟩ : MethodName) : Cond) ∈ qw_tbl := List.mem_filter.mpr ⟨qs_6 (q := (⟨"SecretBuyersModel", "areTwo", "(IIII)Z"⟩, 81)) (List.mem_of_getElem? (i := 12) rfl), rfl⟩
theorem w_93 : (.selects "SecretBuyersModel" (⟨"SecretBuyersModel", "isLess", "(II)Z"⟩ : MethodName) (⟨"SecretBuyersModel", "isLess", "(II)Z"⟩ : MethodName) : Cond) ∈ qw_tbl := List.mem_filter.mpr ⟨qs_6 (q := (⟨"SecretBuyersModel", "isLess", "(II)Z"⟩, 81)) (List.mem_of_getElem? (i := 13) rfl), rfl⟩
theorem w_94 : (.selects "SecretBuyersModel" (⟨"SecretBuyersModel", "mayGo", "(III)Z"⟩ : MethodName) (⟨"SecretBuyersModel", "mayGo", "(III)Z"⟩ : MethodName) : Cond) ∈ qw_tbl := List.mem_filter.mpr ⟨qs_6 (q := (⟨"SecretBuyersModel", "mayGo", "(III)Z"⟩, 81)) (List.mem_of_getElem? (i := 14) rfl), rfl⟩
theorem w_95 : (.selects "SecretBuyersModel" (⟨"SecretBuyersModel", "gives", "(II)I"⟩ : MethodName) (⟨"SecretBuyersModel", "gives", "(II)I"⟩ : MethodName) : Cond) ∈ qw_tbl := List.mem_filter.mpr ⟨qs_6 (q := (⟨"SecretBuyersModel", "gives", "(II)I"⟩, 81)) (List.mem_of_getElem? (i := 15) rfl), rfl⟩
theorem w_96 : (.selects "SecretBuyersModel" (⟨"SecretBuyersModel", "wayOf", "(II)I"⟩ : MethodName) (⟨"SecretBuyersModel", "wayOf", "(II)I"⟩ : MethodName) : Cond) ∈ qw_tbl := List.mem_filter.mpr ⟨qs_7 (q := (⟨"SecretBuyersModel", "wayOf", "(II)I"⟩, 81)) (List.mem_of_getElem? (i := 0) rfl), rfl⟩
theorem w_97 : (.selects "SecretBuyersModel" (⟨"SecretBuyersModel", "sumBy", "(III)I"⟩ : MethodName) (⟨"SecretBuyersModel", "sumBy", "(III)I"⟩ : MethodName) : Cond) ∈ qw_tbl := List.mem_filter.mpr ⟨qs_7 (q := (⟨"SecretBuyersModel", "sumBy", "(III)I"⟩, 81)) (List.mem_of_getElem? (i := 1) rfl), rfl⟩
theorem w_98 : (.initialized "SecretBuyersLaw" : Cond) ∈ qw_tbl := qt_1 (List.mem_of_getElem? (i := 0) rfl) rfl
theorem w_99 : (.initialized "SecretBuyers" : Cond) ∈ qw_tbl := qt_1 (List.mem_of_getElem? (i := 1) rfl) rfl
theorem w_100 : (.initialized "SecretBuyers$Book" : Cond) ∈ qw_tbl := qt_1 (List.mem_of_getElem? (i := 2) rfl) rfl
theorem w_101 : (.initialized "SecretBuyers$Tape" : Cond) ∈ qw_tbl := qt_1 (List.mem_of_getElem? (i := 3) rfl) rfl
theorem w_102 : (.initialized "SecretBuyers$Reader" : Cond) ∈ qw_tbl := qt_1 (List.mem_of_getElem? (i := 4) rfl) rfl
theorem w_103 : (.initialized "SecretBuyers$Truth" : Cond) ∈ qw_tbl := qt_1 (List.mem_of_getElem? (i := 5) rfl) rfl
theorem w_104 : (.initialized "SecretBuyers$Scorer" : Cond) ∈ qw_tbl := qt_1 (List.mem_of_getElem? (i := 6) rfl) rfl
theorem w_105 : (.initialized "SecretBuyers$Means" : Cond) ∈ qw_tbl := qt_1 (List.mem_of_getElem? (i := 7) rfl) rfl
theorem w_106 : (.initialized "SecretBuyers$Giver" : Cond) ∈ qw_tbl := qt_1 (List.mem_of_getElem? (i := 8) rfl) rfl
theorem w_107 : (.initialized "SecretBuyersModel" : Cond) ∈ qw_tbl := qt_1 (List.mem_of_getElem? (i := 9) rfl) rfl
theorem w_108 : (.initialized "SecretBuyers$Shop" : Cond) ∈ qw_tbl := qt_1 (List.mem_of_getElem? (i := 10) rfl) rfl
theorem w_109 : (.initialized "SecretBuyers$Place" : Cond) ∈ qw_tbl := qt_1 (List.mem_of_getElem? (i := 11) rfl) rfl
theorem w_110 : (.initialized "SecretBuyers$Visit" : Cond) ∈ qw_tbl := qt_1 (List.mem_of_getElem? (i := 12) rfl) rfl
theorem w_111 : (.initialized "SecretBuyers$Brief" : Cond) ∈ qw_tbl := qt_1 (List.mem_of_getElem? (i := 13) rfl) rfl
theorem w_112 : (.initialized "java/util/Arrays" : Cond) ∈ qw_tbl := qt_1 (List.mem_of_getElem? (i := 14) rfl) rfl
theorem w_113 : (.initialized "java/lang/Math" : Cond) ∈ qw_tbl := qt_1 (List.mem_of_getElem? (i := 15) rfl) rfl
theorem w_114 : (.initialized "java/lang/System" : Cond) ∈ qw_tbl := qt_1 (List.mem_of_getElem? (i := 16) rfl) rfl
theorem w_115 : (.initialized "java/lang/Throwable" : Cond) ∈ qw_tbl := qt_1 (List.mem_of_getElem? (i := 17) rfl) rfl
theorem w_116 : (.initialized "java/lang/Exception" : Cond) ∈ qw_tbl := qt_1 (List.mem_of_getElem? (i := 18) rfl) rfl
theorem w_117 : (.initialized "java/lang/RuntimeException" : Cond) ∈ qw_tbl := qt_1 (List.mem_of_getElem? (i := 19) rfl) rfl
theorem w_118 : (.initialized "java/util/NoSuchElementException" : Cond) ∈ qw_tbl := qt_1 (List.mem_of_getElem? (i := 20) rfl) rfl
theorem w_119 : (.initialized "java/lang/Integer" : Cond) ∈ qw_tbl := qt_1 (List.mem_of_getElem? (i := 21) rfl) rfl
theorem w_120 : (.classLink "SecretBuyersLaw" 8 "SecretBuyers" : Cond) ∈ qw_tbl := qt_1 (List.mem_of_getElem? (i := 22) rfl) rfl
theorem w_121 : (.instantiable "SecretBuyers" 9 : Cond) ∈ qw_tbl := qt_1 (List.mem_of_getElem? (i := 23) rfl) rfl
theorem w_122 : (.methodLink "SecretBuyersLaw" 26 (⟨"SecretBuyers", "<init>", "()V"⟩ : MethodName) : Cond) ∈ qw_tbl := qt_1 (List.mem_of_getElem? (i := 24) rfl) rfl
theorem w_123 : (.instanceMethod (⟨"SecretBuyers", "<init>", "()V"⟩ : MethodName) : Cond) ∈ qw_tbl := qt_1 (List.mem_of_getElem? (i := 25) rfl) rfl
theorem w_124 : (.code (⟨"SecretBuyers", "<init>", "()V"⟩ : MethodName) prog_1_method_1_code 1 (Option.none : Option Jvm.ClassFile.FieldType) : Cond) ∈ qw_tbl := qt_1 (List.mem_of_getElem? (i := 26) rfl) rfl
theorem w_125 : (.methodLink "SecretBuyers" 1 (⟨"java/lang/Object", "<init>", "()V"⟩ : MethodName) : Cond) ∈ qw_tbl := qt_1 (List.mem_of_getElem? (i := 27) rfl) rfl
theorem w_126 : (.instanceMethod (⟨"java/lang/Object", "<init>", "()V"⟩ : MethodName) : Cond) ∈ qw_tbl := qt_1 (List.mem_of_getElem? (i := 28) rfl) rfl
theorem w_127 : (.code (⟨"java/lang/Object", "<init>", "()V"⟩ : MethodName) object_method_1_code 1 (Option.none : Option Jvm.ClassFile.FieldType) : Cond) ∈ qw_tbl := qt_1 (List.mem_of_getElem? (i := 29) rfl) rfl
theorem w_128 : (.classLink "SecretBuyers" 7 "SecretBuyers$Book" : Cond) ∈ qw_tbl := qt_1 (List.mem_of_getElem? (i := 30) rfl) rfl
theorem w_129 : (.instantiable "SecretBuyers$Book" 19 : Cond) ∈ qw_tbl := qt_1 (List.mem_of_getElem? (i := 31) rfl) rfl
theorem w_130 : (.methodLinkNest "SecretBuyers" 9 (⟨"SecretBuyers$Book", "<init>", "()V"⟩ : MethodName) "SecretBuyers" : Cond) ∈ lw_tbl := (fun h => List.mem_append_right _ (List.mem_append_left _ h)) (List.mem_of_getElem? (l := tables_1_1) (i := 32) rfl)
theorem w_131 : (.instanceMethod (⟨"SecretBuyers$Book", "<init>", "()V"⟩ : MethodName) : Cond) ∈ qw_tbl := qt_1 (List.mem_of_getElem? (i := 33) rfl) rfl
theorem w_132 : (.code (⟨"SecretBuyers$Book", "<init>", "()V"⟩ : MethodName) prog_2_method_1_code 1 (Option.none : Option Jvm.ClassFile.FieldType) : Cond) ∈ qw_tbl := qt_1 (List.mem_of_getElem? (i := 34) rfl) rfl
theorem w_133 : (.methodLink "SecretBuyers$Book" 3 (⟨"java/lang/Object", "<init>", "()V"⟩ : MethodName) : Cond) ∈ qw_tbl := qt_1 (List.mem_of_getElem? (i := 35) rfl) rfl
theorem w_134 : (.classLink "SecretBuyers$Book" 9 "SecretBuyers$Shop" : Cond) ∈ qw_tbl := qt_1 (List.mem_of_getElem? (i := 36) rfl) rfl
theorem w_135 : (.arrayOver (Jvm.ClassFile.FieldType.object "SecretBuyers$Shop") : Cond) ∈ lw_tbl := (fun h => List.mem_append_right _ (List.mem_append_left _ h)) (List.mem_of_getElem? (l := tables_1_1) (i := 37) rfl)
theorem w_136 : (.classLink "SecretBuyers$Book" 17 "SecretBuyers$Place" : Cond) ∈ qw_tbl := qt_1 (List.mem_of_getElem? (i := 38) rfl) rfl
theorem w_137 : (.arrayOver (Jvm.ClassFile.FieldType.object "SecretBuyers$Place") : Cond) ∈ lw_tbl := (fun h => List.mem_append_right _ (List.mem_append_left _ h)) (List.mem_of_getElem? (l := tables_1_1) (i := 39) rfl)
theorem w_138 : (.classLink "SecretBuyers$Book" 23 "SecretBuyers$Visit" : Cond) ∈ qw_tbl := qt_1 (List.mem_of_getElem? (i := 40) rfl) rfl
theorem w_139 : (.arrayOver (Jvm.ClassFile.FieldType.object "SecretBuyers$Visit") : Cond) ∈ lw_tbl := (fun h => List.mem_append_right _ (List.mem_append_left _ h)) (List.mem_of_getElem? (l := tables_1_1) (i := 41) rfl)
theorem w_140 : (.classLink "SecretBuyers$Book" 32 "SecretBuyers$Brief" : Cond) ∈ qw_tbl := qt_1 (List.mem_of_getElem? (i := 42) rfl) rfl
theorem w_141 : (.arrayOver (Jvm.ClassFile.FieldType.object "SecretBuyers$Brief") : Cond) ∈ lw_tbl := (fun h => List.mem_append_right _ (List.mem_append_left _ h)) (List.mem_of_getElem? (l := tables_1_1) (i := 43) rfl)
theorem w_142 : (.fieldLink "SecretBuyers$Book" 11 "SecretBuyers$Book" "shops" "[LSecretBuyers$Shop;" : Cond) ∈ qw_tbl := qt_1 (List.mem_of_getElem? (i := 44) rfl) rfl
theorem w_143 : (.fieldLink "SecretBuyers" 96 "SecretBuyers$Book" "shops" "[LSecretBuyers$Shop;" : Cond) ∈ qw_tbl := qt_1 (List.mem_of_getElem? (i := 45) rfl) rfl
theorem w_144 : (.fieldLink "SecretBuyers$Truth" 94 "SecretBuyers$Book" "shops" "[LSecretBuyers$Shop;" : Cond) ∈ qw_tbl := qt_1 (List.mem_of_getElem? (i := 46) rfl) rfl
theorem w_145 : (.fieldLink "SecretBuyers$Means" 138 "SecretBuyers$Book" "shops" "[LSecretBuyers$Shop;" : Cond) ∈ qw_tbl := qt_1 (List.mem_of_getElem? (i := 47) rfl) rfl
theorem w_146 : (.fieldLink "SecretBuyers$Book" 19 "SecretBuyers$Book" "homes" "[LSecretBuyers$Place;" : Cond) ∈ qw_tbl := qt_1 (List.mem_of_getElem? (i := 48) rfl) rfl
theorem w_147 : (.fieldLink "SecretBuyers" 113 "SecretBuyers$Book" "homes" "[LSecretBuyers$Place;" : Cond) ∈ qw_tbl := qt_1 (List.mem_of_getElem? (i := 49) rfl) rfl
theorem w_148 : (.fieldLink "SecretBuyers$Book" 25 "SecretBuyers$Book" "visits" "[LSecretBuyers$Visit;" : Cond) ∈ qw_tbl := qt_1 (List.mem_of_getElem? (i := 50) rfl) rfl
theorem w_149 : (.fieldLink "SecretBuyers$Truth" 88 "SecretBuyers$Book" "visits" "[LSecretBuyers$Visit;" : Cond) ∈ qw_tbl := qt_1 (List.mem_of_getElem? (i := 51) rfl) rfl
theorem w_150 : (.fieldLink "SecretBuyers" 156 "SecretBuyers$Book" "visits" "[LSecretBuyers$Visit;" : Cond) ∈ qw_tbl := qt_1 (List.mem_of_getElem? (i := 52) rfl) rfl
theorem w_151 : (.fieldLink "SecretBuyers$Means" 111 "SecretBuyers$Book" "visits" "[LSecretBuyers$Visit;" : Cond) ∈ qw_tbl := qt_1 (List.mem_of_getElem? (i := 53) rfl) rfl
theorem w_152 : (.fieldLink "SecretBuyers$Book" 29 "SecretBuyers$Book" "byTime" "[LSecretBuyers$Visit;" : Cond) ∈ qw_tbl := qt_1 (List.mem_of_getElem? (i := 54) rfl) rfl
theorem w_153 : (.fieldLink "SecretBuyers$Truth" 48 "SecretBuyers$Book" "byTime" "[LSecretBuyers$Visit;" : Cond) ∈ qw_tbl := qt_1 (List.mem_of_getElem? (i := 55) rfl) rfl
theorem w_154 : (.fieldLink "SecretBuyers$Scorer" 41 "SecretBuyers$Book" "byTime" "[LSecretBuyers$Visit;" : Cond) ∈ qw_tbl := qt_1 (List.mem_of_getElem? (i := 56) rfl) rfl
theorem w_155 : (.fieldLink "SecretBuyers$Means" 69 "SecretBuyers$Book" "byTime" "[LSecretBuyers$Visit;" : Cond) ∈ qw_tbl := qt_1 (List.mem_of_getElem? (i := 57) rfl) rfl
theorem w_156 : (.fieldLink "SecretBuyers$Book" 34 "SecretBuyers$Book" "briefs" "[LSecretBuyers$Brief;" : Cond) ∈ qw_tbl := qt_1 (List.mem_of_getElem? (i := 58) rfl) rfl
theorem w_157 : (.fieldLink "SecretBuyers$Scorer" 113 "SecretBuyers$Book" "briefs" "[LSecretBuyers$Brief;" : Cond) ∈ qw_tbl := qt_1 (List.mem_of_getElem? (i := 59) rfl) rfl
theorem w_158 : (.fieldLink "SecretBuyers$Book" 38 "SecretBuyers$Book" "appealVisit" "[I" : Cond) ∈ qw_tbl := qt_1 (List.mem_of_getElem? (i := 60) rfl) rfl
theorem w_159 : (.fieldLink "SecretBuyers$Book" 42 "SecretBuyers$Book" "appealItem" "[I" : Cond) ∈ qw_tbl := qt_1 (List.mem_of_getElem? (i := 61) rfl) rfl
theorem w_160 : (.fieldLink "SecretBuyers$Book" 45 "SecretBuyers$Book" "appealTold" "[I" : Cond) ∈ qw_tbl := qt_1 (List.mem_of_getElem? (i := 62) rfl) rfl
theorem w_161 : (.fieldLink "SecretBuyers$Book" 61 "SecretBuyers$Book" "shopCount" "I" : Cond) ∈ qw_tbl := qt_1 (List.mem_of_getElem? (i := 63) rfl) rfl
theorem w_162 : (.fieldLink "SecretBuyers" 93 "SecretBuyers$Book" "shopCount" "I" : Cond) ∈ qw_tbl := qt_1 (List.mem_of_getElem? (i := 64) rfl) rfl
theorem w_163 : (.fieldLink "SecretBuyers$Giver" 58 "SecretBuyers$Book" "shopCount" "I" : Cond) ∈ qw_tbl := qt_1 (List.mem_of_getElem? (i := 65) rfl) rfl
theorem w_164 : (.fieldLink "SecretBuyers$Means" 135 "SecretBuyers$Book" "shopCount" "I" : Cond) ∈ qw_tbl := qt_1 (List.mem_of_getElem? (i := 66) rfl) rfl
theorem w_165 : (.fieldLink "SecretBuyers$Giver" 38 "SecretBuyers$Book" "buyerCount" "I" : Cond) ∈ qw_tbl := qt_1 (List.mem_of_getElem? (i := 67) rfl) rfl
theorem w_166 : (.fieldLink "SecretBuyers$Book" 68 "SecretBuyers$Book" "buyerCount" "I" : Cond) ∈ qw_tbl := qt_1 (List.mem_of_getElem? (i := 68) rfl) rfl
theorem w_167 : (.fieldLink "SecretBuyers" 110 "SecretBuyers$Book" "buyerCount" "I" : Cond) ∈ qw_tbl := qt_1 (List.mem_of_getElem? (i := 69) rfl) rfl
theorem w_168 : (.fieldLink "SecretBuyers$Scorer" 38 "SecretBuyers$Book" "visitCount" "I" : Cond) ∈ qw_tbl := qt_1 (List.mem_of_getElem? (i := 70) rfl) rfl
theorem w_169 : (.fieldLink "SecretBuyers$Truth" 45 "SecretBuyers$Book" "visitCount" "I" : Cond) ∈ qw_tbl := qt_1 (List.mem_of_getElem? (i := 71) rfl) rfl
theorem w_170 : (.fieldLink "SecretBuyers$Means" 66 "SecretBuyers$Book" "visitCount" "I" : Cond) ∈ qw_tbl := qt_1 (List.mem_of_getElem? (i := 72) rfl) rfl
theorem w_171 : (.fieldLink "SecretBuyers$Book" 74 "SecretBuyers$Book" "visitCount" "I" : Cond) ∈ qw_tbl := qt_1 (List.mem_of_getElem? (i := 73) rfl) rfl
theorem w_172 : (.fieldLink "SecretBuyers" 132 "SecretBuyers$Book" "visitCount" "I" : Cond) ∈ qw_tbl := qt_1 (List.mem_of_getElem? (i := 74) rfl) rfl
theorem w_173 : (.fieldLink "SecretBuyers$Book" 94 "SecretBuyers$Book" "appealCount" "I" : Cond) ∈ qw_tbl := qt_1 (List.mem_of_getElem? (i := 75) rfl) rfl
theorem w_174 : (.fieldLink "SecretBuyers" 170 "SecretBuyers$Book" "appealCount" "I" : Cond) ∈ qw_tbl := qt_1 (List.mem_of_getElem? (i := 76) rfl) rfl
theorem w_175 : (.fieldLink "SecretBuyers$Scorer" 106 "SecretBuyers$Book" "briefCount" "I" : Cond) ∈ qw_tbl := qt_1 (List.mem_of_getElem? (i := 77) rfl) rfl
theorem w_176 : (.fieldLink "SecretBuyers" 187 "SecretBuyers$Book" "briefCount" "I" : Cond) ∈ qw_tbl := qt_1 (List.mem_of_getElem? (i := 78) rfl) rfl
theorem w_177 : (.fieldLink "SecretBuyers$Book" 120 "SecretBuyers$Book" "briefCount" "I" : Cond) ∈ qw_tbl := qt_1 (List.mem_of_getElem? (i := 79) rfl) rfl
theorem w_178 : (.fieldLink "SecretBuyers" 75 "SecretBuyers$Book" "now" "I" : Cond) ∈ qw_tbl := qt_1 (List.mem_of_getElem? (i := 80) rfl) rfl
theorem w_179 : (.fieldLink "SecretBuyers$Book" 71 "SecretBuyers$Book" "now" "I" : Cond) ∈ qw_tbl := qt_1 (List.mem_of_getElem? (i := 81) rfl) rfl
theorem w_180 : (.fieldLink "SecretBuyers$Book" 48 "SecretBuyers$Book" "fixedView" "I" : Cond) ∈ qw_tbl := qt_1 (List.mem_of_getElem? (i := 82) rfl) rfl
theorem w_181 : (.fieldLink "SecretBuyers$Book" 52 "SecretBuyers$Book" "pace" "I" : Cond) ∈ qw_tbl := qt_1 (List.mem_of_getElem? (i := 83) rfl) rfl
theorem w_182 : (.fieldLink "SecretBuyers$Truth" 165 "SecretBuyers$Book" "pace" "I" : Cond) ∈ qw_tbl := qt_1 (List.mem_of_getElem? (i := 84) rfl) rfl
theorem w_183 : (.fieldLink "SecretBuyers" 371 "SecretBuyers$Book" "pace" "I" : Cond) ∈ qw_tbl := qt_1 (List.mem_of_getElem? (i := 85) rfl) rfl
theorem w_184 : (.fieldLink "SecretBuyers$Book" 55 "SecretBuyers$Book" "restDays" "I" : Cond) ∈ qw_tbl := qt_1 (List.mem_of_getElem? (i := 86) rfl) rfl
theorem w_185 : (.fieldLink "SecretBuyers" 120 "SecretBuyers$Book" "restDays" "I" : Cond) ∈ qw_tbl := qt_1 (List.mem_of_getElem? (i := 87) rfl) rfl
theorem w_186 : (.fieldLink "SecretBuyers$Book" 58 "SecretBuyers$Book" "reach" "I" : Cond) ∈ qw_tbl := qt_1 (List.mem_of_getElem? (i := 88) rfl) rfl
theorem w_187 : (.fieldLink "SecretBuyers" 123 "SecretBuyers$Book" "reach" "I" : Cond) ∈ qw_tbl := qt_1 (List.mem_of_getElem? (i := 89) rfl) rfl
theorem w_188 : (.fieldLink "SecretBuyers$Truth" 36 "SecretBuyers$Book" "edition" "I" : Cond) ∈ qw_tbl := qt_1 (List.mem_of_getElem? (i := 90) rfl) rfl
theorem w_189 : (.fieldLink "SecretBuyers$Scorer" 29 "SecretBuyers$Book" "edition" "I" : Cond) ∈ qw_tbl := qt_1 (List.mem_of_getElem? (i := 91) rfl) rfl
theorem w_190 : (.fieldLink "SecretBuyers$Means" 49 "SecretBuyers$Book" "edition" "I" : Cond) ∈ qw_tbl := qt_1 (List.mem_of_getElem? (i := 92) rfl) rfl
theorem w_191 : (.fieldLink "SecretBuyers$Book" 101 "SecretBuyers$Book" "edition" "I" : Cond) ∈ qw_tbl := qt_1 (List.mem_of_getElem? (i := 93) rfl) rfl
theorem w_192 : (.laysFinal "SecretBuyers$Book" "SecretBuyers$Book" "shops" "[LSecretBuyers$Shop;" : Cond) ∈ qw_tbl := qt_1 (List.mem_of_getElem? (i := 94) rfl) rfl
theorem w_193 : (.soleField "SecretBuyers$Book" "shops" : Cond) ∈ qw_tbl := qt_1 (List.mem_of_getElem? (i := 95) rfl) rfl
theorem w_194 : (.laysFinal "SecretBuyers$Book" "SecretBuyers$Book" "homes" "[LSecretBuyers$Place;" : Cond) ∈ qw_tbl := qt_1 (List.mem_of_getElem? (i := 96) rfl) rfl
theorem w_195 : (.soleField "SecretBuyers$Book" "homes" : Cond) ∈ qw_tbl := qt_1 (List.mem_of_getElem? (i := 97) rfl) rfl
theorem w_196 : (.laysFinal "SecretBuyers$Book" "SecretBuyers$Book" "visits" "[LSecretBuyers$Visit;" : Cond) ∈ qw_tbl := qt_1 (List.mem_of_getElem? (i := 98) rfl) rfl
theorem w_197 : (.soleField "SecretBuyers$Book" "visits" : Cond) ∈ qw_tbl := qt_1 (List.mem_of_getElem? (i := 99) rfl) rfl
theorem w_198 : (.laysFinal "SecretBuyers$Book" "SecretBuyers$Book" "byTime" "[LSecretBuyers$Visit;" : Cond) ∈ qw_tbl := qt_1 (List.mem_of_getElem? (i := 100) rfl) rfl
theorem w_199 : (.soleField "SecretBuyers$Book" "byTime" : Cond) ∈ qw_tbl := qt_1 (List.mem_of_getElem? (i := 101) rfl) rfl
theorem w_200 : (.laysFinal "SecretBuyers$Book" "SecretBuyers$Book" "briefs" "[LSecretBuyers$Brief;" : Cond) ∈ qw_tbl := qt_1 (List.mem_of_getElem? (i := 102) rfl) rfl
theorem w_201 : (.soleField "SecretBuyers$Book" "briefs" : Cond) ∈ qw_tbl := qt_1 (List.mem_of_getElem? (i := 103) rfl) rfl
theorem w_202 : (.laysFinal "SecretBuyers$Book" "SecretBuyers$Book" "appealVisit" "[I" : Cond) ∈ qw_tbl := qt_1 (List.mem_of_getElem? (i := 104) rfl) rfl
theorem w_203 : (.soleField "SecretBuyers$Book" "appealVisit" : Cond) ∈ qw_tbl := qt_1 (List.mem_of_getElem? (i := 105) rfl) rfl
theorem w_204 : (.laysFinal "SecretBuyers$Book" "SecretBuyers$Book" "appealItem" "[I" : Cond) ∈ qw_tbl := qt_1 (List.mem_of_getElem? (i := 106) rfl) rfl
theorem w_205 : (.soleField "SecretBuyers$Book" "appealItem" : Cond) ∈ qw_tbl := qt_1 (List.mem_of_getElem? (i := 107) rfl) rfl
theorem w_206 : (.laysFinal "SecretBuyers$Book" "SecretBuyers$Book" "appealTold" "[I" : Cond) ∈ qw_tbl := qt_1 (List.mem_of_getElem? (i := 108) rfl) rfl
theorem w_207 : (.soleField "SecretBuyers$Book" "appealTold" : Cond) ∈ qw_tbl := qt_1 (List.mem_of_getElem? (i := 109) rfl) rfl
theorem w_208 : (.lays "SecretBuyers$Book" "SecretBuyers$Book" "shopCount" "I" : Cond) ∈ qw_tbl := qt_1 (List.mem_of_getElem? (i := 110) rfl) rfl
theorem w_209 : (.soleField "SecretBuyers$Book" "shopCount" : Cond) ∈ qw_tbl := qt_1 (List.mem_of_getElem? (i := 111) rfl) rfl
theorem w_210 : (.lays "SecretBuyers$Book" "SecretBuyers$Book" "buyerCount" "I" : Cond) ∈ qw_tbl := qt_1 (List.mem_of_getElem? (i := 112) rfl) rfl
theorem w_211 : (.soleField "SecretBuyers$Book" "buyerCount" : Cond) ∈ qw_tbl := qt_1 (List.mem_of_getElem? (i := 113) rfl) rfl
theorem w_212 : (.lays "SecretBuyers$Book" "SecretBuyers$Book" "visitCount" "I" : Cond) ∈ qw_tbl := qt_1 (List.mem_of_getElem? (i := 114) rfl) rfl
theorem w_213 : (.soleField "SecretBuyers$Book" "visitCount" : Cond) ∈ qw_tbl := qt_1 (List.mem_of_getElem? (i := 115) rfl) rfl
theorem w_214 : (.lays "SecretBuyers$Book" "SecretBuyers$Book" "appealCount" "I" : Cond) ∈ qw_tbl := qt_1 (List.mem_of_getElem? (i := 116) rfl) rfl
theorem w_215 : (.soleField "SecretBuyers$Book" "appealCount" : Cond) ∈ qw_tbl := qt_1 (List.mem_of_getElem? (i := 117) rfl) rfl
theorem w_216 : (.lays "SecretBuyers$Book" "SecretBuyers$Book" "briefCount" "I" : Cond) ∈ qw_tbl := qt_1 (List.mem_of_getElem? (i := 118) rfl) rfl
theorem w_217 : (.soleField "SecretBuyers$Book" "briefCount" : Cond) ∈ qw_tbl := qt_1 (List.mem_of_getElem? (i := 119) rfl) rfl
theorem w_218 : (.lays "SecretBuyers$Book" "SecretBuyers$Book" "now" "I" : Cond) ∈ qw_tbl := qt_1 (List.mem_of_getElem? (i := 120) rfl) rfl
theorem w_219 : (.soleField "SecretBuyers$Book" "now" : Cond) ∈ qw_tbl := qt_1 (List.mem_of_getElem? (i := 121) rfl) rfl
theorem w_220 : (.lays "SecretBuyers$Book" "SecretBuyers$Book" "fixedView" "I" : Cond) ∈ qw_tbl := qt_1 (List.mem_of_getElem? (i := 122) rfl) rfl
theorem w_221 : (.soleField "SecretBuyers$Book" "fixedView" : Cond) ∈ qw_tbl := qt_1 (List.mem_of_getElem? (i := 123) rfl) rfl
theorem w_222 : (.lays "SecretBuyers$Book" "SecretBuyers$Book" "pace" "I" : Cond) ∈ qw_tbl := qt_1 (List.mem_of_getElem? (i := 124) rfl) rfl
theorem w_223 : (.soleField "SecretBuyers$Book" "pace" : Cond) ∈ qw_tbl := qt_1 (List.mem_of_getElem? (i := 125) rfl) rfl
theorem w_224 : (.lays "SecretBuyers$Book" "SecretBuyers$Book" "restDays" "I" : Cond) ∈ qw_tbl := qt_1 (List.mem_of_getElem? (i := 126) rfl) rfl
theorem w_225 : (.soleField "SecretBuyers$Book" "restDays" : Cond) ∈ qw_tbl := qt_1 (List.mem_of_getElem? (i := 127) rfl) rfl
theorem w_226 : (.lays "SecretBuyers$Book" "SecretBuyers$Book" "reach" "I" : Cond) ∈ qw_tbl := qt_1 (List.mem_of_getElem? (i := 128) rfl) rfl
theorem w_227 : (.soleField "SecretBuyers$Book" "reach" : Cond) ∈ qw_tbl := qt_1 (List.mem_of_getElem? (i := 129) rfl) rfl
theorem w_228 : (.lays "SecretBuyers$Book" "SecretBuyers$Book" "edition" "I" : Cond) ∈ qw_tbl := qt_1 (List.mem_of_getElem? (i := 130) rfl) rfl
theorem w_229 : (.soleField "SecretBuyers$Book" "edition" : Cond) ∈ qw_tbl := qt_1 (List.mem_of_getElem? (i := 131) rfl) rfl
theorem w_231 : (.arrayClass Jvm.ClassFile.FieldType.int : Cond) ∈ qw_tbl := qt_1 (List.mem_of_getElem? (i := 133) rfl) rfl
theorem w_232 : (.classLink "SecretBuyers" 16 "SecretBuyers$Tape" : Cond) ∈ qw_tbl := qt_1 (List.mem_of_getElem? (i := 134) rfl) rfl
theorem w_233 : (.instantiable "SecretBuyers$Tape" 7 : Cond) ∈ qw_tbl := qt_1 (List.mem_of_getElem? (i := 135) rfl) rfl
theorem w_234 : (.methodLinkNest "SecretBuyers" 18 (⟨"SecretBuyers$Tape", "<init>", "()V"⟩ : MethodName) "SecretBuyers" : Cond) ∈ lw_tbl := (fun h => List.mem_append_right _ (List.mem_append_left _ h)) (List.mem_of_getElem? (l := tables_1_1) (i := 136) rfl)
theorem w_235 : (.instanceMethod (⟨"SecretBuyers$Tape", "<init>", "()V"⟩ : MethodName) : Cond) ∈ qw_tbl := qt_1 (List.mem_of_getElem? (i := 137) rfl) rfl
theorem w_236 : (.code (⟨"SecretBuyers$Tape", "<init>", "()V"⟩ : MethodName) prog_10_method_1_code 1 (Option.none : Option Jvm.ClassFile.FieldType) : Cond) ∈ qw_tbl := qt_1 (List.mem_of_getElem? (i := 138) rfl) rfl
theorem w_237 : (.methodLink "SecretBuyers$Tape" 3 (⟨"java/lang/Object", "<init>", "()V"⟩ : MethodName) : Cond) ∈ qw_tbl := qt_1 (List.mem_of_getElem? (i := 139) rfl) rfl
theorem w_238 : (.fieldLink "SecretBuyers$Tape" 9 "SecretBuyers$Tape" "signs" "[B" : Cond) ∈ qw_tbl := qt_1 (List.mem_of_getElem? (i := 140) rfl) rfl
theorem w_239 : (.fieldLink "SecretBuyers$Tape" 19 "SecretBuyers$Tape" "length" "I" : Cond) ∈ qw_tbl := qt_1 (List.mem_of_getElem? (i := 141) rfl) rfl
theorem w_240 : (.fieldLink "SecretBuyers" 181 "SecretBuyers$Tape" "length" "I" : Cond) ∈ qw_tbl := qt_1 (List.mem_of_getElem? (i := 142) rfl) rfl
theorem w_241 : (.fieldLink "SecretBuyers$Tape" 33 "SecretBuyers$Tape" "place" "I" : Cond) ∈ qw_tbl := qt_1 (List.mem_of_getElem? (i := 143) rfl) rfl
theorem w_242 : (.fieldLink "SecretBuyers$Reader" 105 "SecretBuyers$Tape" "place" "I" : Cond) ∈ qw_tbl := qt_1 (List.mem_of_getElem? (i := 144) rfl) rfl
theorem w_243 : (.fieldLink "SecretBuyers$Reader" 44 "SecretBuyers$Tape" "kind" "I" : Cond) ∈ qw_tbl := qt_1 (List.mem_of_getElem? (i := 145) rfl) rfl
theorem w_244 : (.fieldLink "SecretBuyers$Tape" 36 "SecretBuyers$Tape" "kind" "I" : Cond) ∈ qw_tbl := qt_1 (List.mem_of_getElem? (i := 146) rfl) rfl
theorem w_245 : (.fieldLink "SecretBuyers$Tape" 63 "SecretBuyers$Tape" "number" "I" : Cond) ∈ qw_tbl := qt_1 (List.mem_of_getElem? (i := 147) rfl) rfl
theorem w_246 : (.fieldLink "SecretBuyers$Reader" 81 "SecretBuyers$Tape" "number" "I" : Cond) ∈ qw_tbl := qt_1 (List.mem_of_getElem? (i := 148) rfl) rfl
theorem w_247 : (.fieldLink "SecretBuyers$Tape" 55 "SecretBuyers$Tape" "word" "J" : Cond) ∈ qw_tbl := qt_1 (List.mem_of_getElem? (i := 149) rfl) rfl
theorem w_248 : (.fieldLink "SecretBuyers$Reader" 77 "SecretBuyers$Tape" "word" "J" : Cond) ∈ qw_tbl := qt_1 (List.mem_of_getElem? (i := 150) rfl) rfl
theorem w_249 : (.fieldLink "SecretBuyers$Tape" 23 "SecretBuyers$Tape" "next" "I" : Cond) ∈ qw_tbl := qt_1 (List.mem_of_getElem? (i := 151) rfl) rfl
theorem w_250 : (.laysFinal "SecretBuyers$Tape" "SecretBuyers$Tape" "signs" "[B" : Cond) ∈ qw_tbl := qt_1 (List.mem_of_getElem? (i := 152) rfl) rfl
theorem w_251 : (.soleField "SecretBuyers$Tape" "signs" : Cond) ∈ qw_tbl := qt_1 (List.mem_of_getElem? (i := 153) rfl) rfl
theorem w_252 : (.lays "SecretBuyers$Tape" "SecretBuyers$Tape" "length" "I" : Cond) ∈ qw_tbl := qt_1 (List.mem_of_getElem? (i := 154) rfl) rfl
theorem w_253 : (.soleField "SecretBuyers$Tape" "length" : Cond) ∈ qw_tbl := qt_1 (List.mem_of_getElem? (i := 155) rfl) rfl
theorem w_254 : (.lays "SecretBuyers$Tape" "SecretBuyers$Tape" "place" "I" : Cond) ∈ qw_tbl := qt_1 (List.mem_of_getElem? (i := 156) rfl) rfl
theorem w_255 : (.soleField "SecretBuyers$Tape" "place" : Cond) ∈ qw_tbl := qt_1 (List.mem_of_getElem? (i := 157) rfl) rfl
theorem w_256 : (.lays "SecretBuyers$Tape" "SecretBuyers$Tape" "kind" "I" : Cond) ∈ qw_tbl := qt_1 (List.mem_of_getElem? (i := 158) rfl) rfl
theorem w_257 : (.soleField "SecretBuyers$Tape" "kind" : Cond) ∈ qw_tbl := qt_1 (List.mem_of_getElem? (i := 159) rfl) rfl
theorem w_258 : (.lays "SecretBuyers$Tape" "SecretBuyers$Tape" "number" "I" : Cond) ∈ qw_tbl := qt_1 (List.mem_of_getElem? (i := 160) rfl) rfl
theorem w_259 : (.soleField "SecretBuyers$Tape" "number" : Cond) ∈ qw_tbl := qt_1 (List.mem_of_getElem? (i := 161) rfl) rfl
theorem w_260 : (.lays "SecretBuyers$Tape" "SecretBuyers$Tape" "word" "J" : Cond) ∈ qw_tbl := qt_1 (List.mem_of_getElem? (i := 162) rfl) rfl
theorem w_261 : (.soleField "SecretBuyers$Tape" "word" : Cond) ∈ qw_tbl := qt_1 (List.mem_of_getElem? (i := 163) rfl) rfl
theorem w_262 : (.lays "SecretBuyers$Tape" "SecretBuyers$Tape" "next" "I" : Cond) ∈ qw_tbl := qt_1 (List.mem_of_getElem? (i := 164) rfl) rfl
theorem w_263 : (.soleField "SecretBuyers$Tape" "next" : Cond) ∈ qw_tbl := qt_1 (List.mem_of_getElem? (i := 165) rfl) rfl
theorem w_265 : (.arrayClass Jvm.ClassFile.FieldType.byte : Cond) ∈ qw_tbl := qt_1 (List.mem_of_getElem? (i := 167) rfl) rfl
theorem w_266 : (.classLink "SecretBuyers" 23 "SecretBuyers$Reader" : Cond) ∈ qw_tbl := qt_1 (List.mem_of_getElem? (i := 168) rfl) rfl
theorem w_267 : (.instantiable "SecretBuyers$Reader" 6 : Cond) ∈ qw_tbl := qt_1 (List.mem_of_getElem? (i := 169) rfl) rfl
theorem w_268 : (.methodLink "SecretBuyers" 25 (⟨"SecretBuyers$Reader", "<init>", "(LSecretBuyers$Tape;)V"⟩ : MethodName) : Cond) ∈ qw_tbl := qt_1 (List.mem_of_getElem? (i := 170) rfl) rfl
theorem w_269 : (.instanceMethod (⟨"SecretBuyers$Reader", "<init>", "(LSecretBuyers$Tape;)V"⟩ : MethodName) : Cond) ∈ qw_tbl := qt_1 (List.mem_of_getElem? (i := 171) rfl) rfl
theorem w_270 : (.code (⟨"SecretBuyers$Reader", "<init>", "(LSecretBuyers$Tape;)V"⟩ : MethodName) prog_7_method_1_code 2 (Option.none : Option Jvm.ClassFile.FieldType) : Cond) ∈ qw_tbl := qt_1 (List.mem_of_getElem? (i := 172) rfl) rfl
theorem w_271 : (.methodLink "SecretBuyers$Reader" 3 (⟨"java/lang/Object", "<init>", "()V"⟩ : MethodName) : Cond) ∈ qw_tbl := qt_1 (List.mem_of_getElem? (i := 173) rfl) rfl
theorem w_272 : (.fieldLink "SecretBuyers$Reader" 19 "SecretBuyers$Reader" "tape" "LSecretBuyers$Tape;" : Cond) ∈ qw_tbl := qt_1 (List.mem_of_getElem? (i := 174) rfl) rfl
theorem w_273 : (.fieldLink "SecretBuyers$Reader" 9 "SecretBuyers$Reader" "names" "[J" : Cond) ∈ qw_tbl := qt_1 (List.mem_of_getElem? (i := 175) rfl) rfl
theorem w_274 : (.fieldLink "SecretBuyers$Reader" 15 "SecretBuyers$Reader" "code" "[I" : Cond) ∈ qw_tbl := qt_1 (List.mem_of_getElem? (i := 176) rfl) rfl
theorem w_275 : (.fieldLink "SecretBuyers$Reader" 36 "SecretBuyers$Reader" "nameCount" "I" : Cond) ∈ qw_tbl := qt_1 (List.mem_of_getElem? (i := 177) rfl) rfl
theorem w_276 : (.fieldLink "SecretBuyers$Reader" 23 "SecretBuyers$Reader" "codeLength" "I" : Cond) ∈ qw_tbl := qt_1 (List.mem_of_getElem? (i := 178) rfl) rfl
theorem w_277 : (.fieldLink "SecretBuyers$Reader" 33 "SecretBuyers$Reader" "fault" "I" : Cond) ∈ qw_tbl := qt_1 (List.mem_of_getElem? (i := 179) rfl) rfl
theorem w_278 : (.laysFinal "SecretBuyers$Reader" "SecretBuyers$Reader" "tape" "LSecretBuyers$Tape;" : Cond) ∈ qw_tbl := qt_1 (List.mem_of_getElem? (i := 180) rfl) rfl
theorem w_279 : (.soleField "SecretBuyers$Reader" "tape" : Cond) ∈ qw_tbl := qt_1 (List.mem_of_getElem? (i := 181) rfl) rfl
theorem w_280 : (.laysFinal "SecretBuyers$Reader" "SecretBuyers$Reader" "names" "[J" : Cond) ∈ qw_tbl := qt_1 (List.mem_of_getElem? (i := 182) rfl) rfl
theorem w_281 : (.soleField "SecretBuyers$Reader" "names" : Cond) ∈ qw_tbl := qt_1 (List.mem_of_getElem? (i := 183) rfl) rfl
theorem w_282 : (.laysFinal "SecretBuyers$Reader" "SecretBuyers$Reader" "code" "[I" : Cond) ∈ qw_tbl := qt_1 (List.mem_of_getElem? (i := 184) rfl) rfl
theorem w_283 : (.soleField "SecretBuyers$Reader" "code" : Cond) ∈ qw_tbl := qt_1 (List.mem_of_getElem? (i := 185) rfl) rfl
theorem w_284 : (.lays "SecretBuyers$Reader" "SecretBuyers$Reader" "nameCount" "I" : Cond) ∈ qw_tbl := qt_1 (List.mem_of_getElem? (i := 186) rfl) rfl
theorem w_285 : (.soleField "SecretBuyers$Reader" "nameCount" : Cond) ∈ qw_tbl := qt_1 (List.mem_of_getElem? (i := 187) rfl) rfl
theorem w_286 : (.lays "SecretBuyers$Reader" "SecretBuyers$Reader" "codeLength" "I" : Cond) ∈ qw_tbl := qt_1 (List.mem_of_getElem? (i := 188) rfl) rfl
theorem w_287 : (.soleField "SecretBuyers$Reader" "codeLength" : Cond) ∈ qw_tbl := qt_1 (List.mem_of_getElem? (i := 189) rfl) rfl
theorem w_288 : (.lays "SecretBuyers$Reader" "SecretBuyers$Reader" "fault" "I" : Cond) ∈ qw_tbl := qt_1 (List.mem_of_getElem? (i := 190) rfl) rfl
theorem w_289 : (.soleField "SecretBuyers$Reader" "fault" : Cond) ∈ qw_tbl := qt_1 (List.mem_of_getElem? (i := 191) rfl) rfl
theorem w_291 : (.arrayClass Jvm.ClassFile.FieldType.long : Cond) ∈ qw_tbl := qt_1 (List.mem_of_getElem? (i := 193) rfl) rfl
theorem w_292 : (.classLink "SecretBuyers" 32 "SecretBuyers$Truth" : Cond) ∈ qw_tbl := qt_1 (List.mem_of_getElem? (i := 194) rfl) rfl
theorem w_293 : (.instantiable "SecretBuyers$Truth" 10 : Cond) ∈ qw_tbl := qt_1 (List.mem_of_getElem? (i := 195) rfl) rfl
theorem w_294 : (.methodLink "SecretBuyers" 34 (⟨"SecretBuyers$Truth", "<init>", "(LSecretBuyers$Book;)V"⟩ : MethodName) : Cond) ∈ qw_tbl := qt_1 (List.mem_of_getElem? (i := 196) rfl) rfl
theorem w_295 : (.instanceMethod (⟨"SecretBuyers$Truth", "<init>", "(LSecretBuyers$Book;)V"⟩ : MethodName) : Cond) ∈ qw_tbl := qt_1 (List.mem_of_getElem? (i := 197) rfl) rfl
theorem w_296 : (.code (⟨"SecretBuyers$Truth", "<init>", "(LSecretBuyers$Book;)V"⟩ : MethodName) prog_11_method_1_code 2 (Option.none : Option Jvm.ClassFile.FieldType) : Cond) ∈ qw_tbl := qt_1 (List.mem_of_getElem? (i := 198) rfl) rfl
theorem w_297 : (.methodLink "SecretBuyers$Truth" 3 (⟨"java/lang/Object", "<init>", "()V"⟩ : MethodName) : Cond) ∈ qw_tbl := qt_1 (List.mem_of_getElem? (i := 199) rfl) rfl
theorem w_298 : (.classLink "SecretBuyers$Truth" 9 "SecretBuyers$Visit" : Cond) ∈ qw_tbl := qt_1 (List.mem_of_getElem? (i := 200) rfl) rfl
theorem w_299 : (.fieldLink "SecretBuyers$Truth" 125 "SecretBuyers$Truth" "counting" "I" : Cond) ∈ qw_tbl := qt_1 (List.mem_of_getElem? (i := 201) rfl) rfl
theorem w_300 : (.fieldLink "SecretBuyers" 356 "SecretBuyers$Truth" "counting" "I" : Cond) ∈ qw_tbl := qt_1 (List.mem_of_getElem? (i := 202) rfl) rfl
theorem w_301 : (.fieldLink "SecretBuyers$Truth" 128 "SecretBuyers$Truth" "falseAlone" "I" : Cond) ∈ qw_tbl := qt_1 (List.mem_of_getElem? (i := 203) rfl) rfl
theorem w_302 : (.fieldLink "SecretBuyers" 359 "SecretBuyers$Truth" "falseAlone" "I" : Cond) ∈ qw_tbl := qt_1 (List.mem_of_getElem? (i := 204) rfl) rfl
theorem w_303 : (.fieldLink "SecretBuyers$Truth" 42 "SecretBuyers$Truth" "fewestOfAll" "I" : Cond) ∈ qw_tbl := qt_1 (List.mem_of_getElem? (i := 205) rfl) rfl
theorem w_304 : (.fieldLink "SecretBuyers" 362 "SecretBuyers$Truth" "fewestOfAll" "I" : Cond) ∈ qw_tbl := qt_1 (List.mem_of_getElem? (i := 206) rfl) rfl
theorem w_305 : (.fieldLink "SecretBuyers$Truth" 28 "SecretBuyers$Truth" "book" "LSecretBuyers$Book;" : Cond) ∈ qw_tbl := qt_1 (List.mem_of_getElem? (i := 207) rfl) rfl
theorem w_306 : (.fieldLink "SecretBuyers$Truth" 11 "SecretBuyers$Truth" "group" "[LSecretBuyers$Visit;" : Cond) ∈ qw_tbl := qt_1 (List.mem_of_getElem? (i := 208) rfl) rfl
theorem w_307 : (.fieldLink "SecretBuyers$Truth" 17 "SecretBuyers$Truth" "upTo" "[I" : Cond) ∈ qw_tbl := qt_1 (List.mem_of_getElem? (i := 209) rfl) rfl
theorem w_308 : (.fieldLink "SecretBuyers$Truth" 21 "SecretBuyers$Truth" "downFrom" "[I" : Cond) ∈ qw_tbl := qt_1 (List.mem_of_getElem? (i := 210) rfl) rfl
theorem w_309 : (.fieldLink "SecretBuyers$Truth" 24 "SecretBuyers$Truth" "isOut" "[Z" : Cond) ∈ qw_tbl := qt_1 (List.mem_of_getElem? (i := 211) rfl) rfl
theorem w_310 : (.fieldLink "SecretBuyers$Truth" 74 "SecretBuyers$Truth" "size" "I" : Cond) ∈ qw_tbl := qt_1 (List.mem_of_getElem? (i := 212) rfl) rfl
theorem w_311 : (.fieldLink "SecretBuyers$Truth" 32 "SecretBuyers$Truth" "edition" "I" : Cond) ∈ qw_tbl := qt_1 (List.mem_of_getElem? (i := 213) rfl) rfl
theorem w_312 : (.lays "SecretBuyers$Truth" "SecretBuyers$Truth" "counting" "I" : Cond) ∈ qw_tbl := qt_1 (List.mem_of_getElem? (i := 214) rfl) rfl
theorem w_313 : (.soleField "SecretBuyers$Truth" "counting" : Cond) ∈ qw_tbl := qt_1 (List.mem_of_getElem? (i := 215) rfl) rfl
theorem w_314 : (.lays "SecretBuyers$Truth" "SecretBuyers$Truth" "falseAlone" "I" : Cond) ∈ qw_tbl := qt_1 (List.mem_of_getElem? (i := 216) rfl) rfl
theorem w_315 : (.soleField "SecretBuyers$Truth" "falseAlone" : Cond) ∈ qw_tbl := qt_1 (List.mem_of_getElem? (i := 217) rfl) rfl
theorem w_316 : (.lays "SecretBuyers$Truth" "SecretBuyers$Truth" "fewestOfAll" "I" : Cond) ∈ qw_tbl := qt_1 (List.mem_of_getElem? (i := 218) rfl) rfl
theorem w_317 : (.soleField "SecretBuyers$Truth" "fewestOfAll" : Cond) ∈ qw_tbl := qt_1 (List.mem_of_getElem? (i := 219) rfl) rfl
theorem w_318 : (.laysFinal "SecretBuyers$Truth" "SecretBuyers$Truth" "book" "LSecretBuyers$Book;" : Cond) ∈ qw_tbl := qt_1 (List.mem_of_getElem? (i := 220) rfl) rfl
theorem w_319 : (.soleField "SecretBuyers$Truth" "book" : Cond) ∈ qw_tbl := qt_1 (List.mem_of_getElem? (i := 221) rfl) rfl
theorem w_320 : (.laysFinal "SecretBuyers$Truth" "SecretBuyers$Truth" "group" "[LSecretBuyers$Visit;" : Cond) ∈ qw_tbl := qt_1 (List.mem_of_getElem? (i := 222) rfl) rfl
theorem w_321 : (.soleField "SecretBuyers$Truth" "group" : Cond) ∈ qw_tbl := qt_1 (List.mem_of_getElem? (i := 223) rfl) rfl
theorem w_322 : (.laysFinal "SecretBuyers$Truth" "SecretBuyers$Truth" "upTo" "[I" : Cond) ∈ qw_tbl := qt_1 (List.mem_of_getElem? (i := 224) rfl) rfl
theorem w_323 : (.soleField "SecretBuyers$Truth" "upTo" : Cond) ∈ qw_tbl := qt_1 (List.mem_of_getElem? (i := 225) rfl) rfl
theorem w_324 : (.laysFinal "SecretBuyers$Truth" "SecretBuyers$Truth" "downFrom" "[I" : Cond) ∈ qw_tbl := qt_1 (List.mem_of_getElem? (i := 226) rfl) rfl
theorem w_325 : (.soleField "SecretBuyers$Truth" "downFrom" : Cond) ∈ qw_tbl := qt_1 (List.mem_of_getElem? (i := 227) rfl) rfl
theorem w_326 : (.laysFinal "SecretBuyers$Truth" "SecretBuyers$Truth" "isOut" "[Z" : Cond) ∈ qw_tbl := qt_1 (List.mem_of_getElem? (i := 228) rfl) rfl
theorem w_327 : (.soleField "SecretBuyers$Truth" "isOut" : Cond) ∈ qw_tbl := qt_1 (List.mem_of_getElem? (i := 229) rfl) rfl
theorem w_328 : (.lays "SecretBuyers$Truth" "SecretBuyers$Truth" "size" "I" : Cond) ∈ qw_tbl := qt_1 (List.mem_of_getElem? (i := 230) rfl) rfl
theorem w_329 : (.soleField "SecretBuyers$Truth" "size" : Cond) ∈ qw_tbl := qt_1 (List.mem_of_getElem? (i := 231) rfl) rfl
theorem w_330 : (.lays "SecretBuyers$Truth" "SecretBuyers$Truth" "edition" "I" : Cond) ∈ qw_tbl := qt_1 (List.mem_of_getElem? (i := 232) rfl) rfl
theorem w_331 : (.soleField "SecretBuyers$Truth" "edition" : Cond) ∈ qw_tbl := qt_1 (List.mem_of_getElem? (i := 233) rfl) rfl
theorem w_333 : (.arrayClass Jvm.ClassFile.FieldType.boolean : Cond) ∈ qw_tbl := qt_1 (List.mem_of_getElem? (i := 235) rfl) rfl
theorem w_334 : (.classLink "SecretBuyers" 41 "SecretBuyers$Scorer" : Cond) ∈ qw_tbl := qt_1 (List.mem_of_getElem? (i := 236) rfl) rfl
theorem w_335 : (.instantiable "SecretBuyers$Scorer" 10 : Cond) ∈ qw_tbl := qt_1 (List.mem_of_getElem? (i := 237) rfl) rfl
theorem w_336 : (.methodLink "SecretBuyers" 43 (⟨"SecretBuyers$Scorer", "<init>", "(LSecretBuyers$Book;)V"⟩ : MethodName) : Cond) ∈ qw_tbl := qt_1 (List.mem_of_getElem? (i := 238) rfl) rfl
theorem w_337 : (.instanceMethod (⟨"SecretBuyers$Scorer", "<init>", "(LSecretBuyers$Book;)V"⟩ : MethodName) : Cond) ∈ qw_tbl := qt_1 (List.mem_of_getElem? (i := 239) rfl) rfl
theorem w_338 : (.code (⟨"SecretBuyers$Scorer", "<init>", "(LSecretBuyers$Book;)V"⟩ : MethodName) prog_8_method_1_code 2 (Option.none : Option Jvm.ClassFile.FieldType) : Cond) ∈ qw_tbl := qt_2 (List.mem_of_getElem? (i := 0) rfl) rfl
theorem w_339 : (.methodLink "SecretBuyers$Scorer" 3 (⟨"java/lang/Object", "<init>", "()V"⟩ : MethodName) : Cond) ∈ qw_tbl := qt_2 (List.mem_of_getElem? (i := 1) rfl) rfl
theorem w_340 : (.fieldLink "SecretBuyers$Scorer" 21 "SecretBuyers$Scorer" "book" "LSecretBuyers$Book;" : Cond) ∈ qw_tbl := qt_2 (List.mem_of_getElem? (i := 2) rfl) rfl
theorem w_341 : (.fieldLink "SecretBuyers$Scorer" 11 "SecretBuyers$Scorer" "stack" "[I" : Cond) ∈ qw_tbl := qt_2 (List.mem_of_getElem? (i := 3) rfl) rfl
theorem w_342 : (.fieldLink "SecretBuyers$Scorer" 15 "SecretBuyers$Scorer" "names" "[I" : Cond) ∈ qw_tbl := qt_2 (List.mem_of_getElem? (i := 4) rfl) rfl
theorem w_343 : (.fieldLink "SecretBuyers$Scorer" 18 "SecretBuyers$Scorer" "lastScore" "[I" : Cond) ∈ qw_tbl := qt_2 (List.mem_of_getElem? (i := 5) rfl) rfl
theorem w_344 : (.fieldLink "SecretBuyers$Scorer" 100 "SecretBuyers$Scorer" "top" "I" : Cond) ∈ qw_tbl := qt_2 (List.mem_of_getElem? (i := 6) rfl) rfl
theorem w_345 : (.fieldLink "SecretBuyers$Scorer" 79 "SecretBuyers$Scorer" "total" "I" : Cond) ∈ qw_tbl := qt_2 (List.mem_of_getElem? (i := 7) rfl) rfl
theorem w_346 : (.fieldLink "SecretBuyers$Scorer" 94 "SecretBuyers$Scorer" "money" "I" : Cond) ∈ qw_tbl := qt_2 (List.mem_of_getElem? (i := 8) rfl) rfl
theorem w_347 : (.fieldLink "SecretBuyers$Scorer" 103 "SecretBuyers$Scorer" "hasMoney" "Z" : Cond) ∈ qw_tbl := qt_2 (List.mem_of_getElem? (i := 9) rfl) rfl
theorem w_348 : (.fieldLink "SecretBuyers$Scorer" 75 "SecretBuyers$Scorer" "hasFailed" "Z" : Cond) ∈ qw_tbl := qt_2 (List.mem_of_getElem? (i := 10) rfl) rfl
theorem w_349 : (.fieldLink "SecretBuyers$Scorer" 25 "SecretBuyers$Scorer" "edition" "I" : Cond) ∈ qw_tbl := qt_2 (List.mem_of_getElem? (i := 11) rfl) rfl
theorem w_350 : (.laysFinal "SecretBuyers$Scorer" "SecretBuyers$Scorer" "book" "LSecretBuyers$Book;" : Cond) ∈ qw_tbl := qt_2 (List.mem_of_getElem? (i := 12) rfl) rfl
theorem w_351 : (.soleField "SecretBuyers$Scorer" "book" : Cond) ∈ qw_tbl := qt_2 (List.mem_of_getElem? (i := 13) rfl) rfl
theorem w_352 : (.laysFinal "SecretBuyers$Scorer" "SecretBuyers$Scorer" "stack" "[I" : Cond) ∈ qw_tbl := qt_2 (List.mem_of_getElem? (i := 14) rfl) rfl
theorem w_353 : (.soleField "SecretBuyers$Scorer" "stack" : Cond) ∈ qw_tbl := qt_2 (List.mem_of_getElem? (i := 15) rfl) rfl
theorem w_354 : (.laysFinal "SecretBuyers$Scorer" "SecretBuyers$Scorer" "names" "[I" : Cond) ∈ qw_tbl := qt_2 (List.mem_of_getElem? (i := 16) rfl) rfl
theorem w_355 : (.soleField "SecretBuyers$Scorer" "names" : Cond) ∈ qw_tbl := qt_2 (List.mem_of_getElem? (i := 17) rfl) rfl
theorem w_356 : (.laysFinal "SecretBuyers$Scorer" "SecretBuyers$Scorer" "lastScore" "[I" : Cond) ∈ qw_tbl := qt_2 (List.mem_of_getElem? (i := 18) rfl) rfl
theorem w_357 : (.soleField "SecretBuyers$Scorer" "lastScore" : Cond) ∈ qw_tbl := qt_2 (List.mem_of_getElem? (i := 19) rfl) rfl
theorem w_358 : (.lays "SecretBuyers$Scorer" "SecretBuyers$Scorer" "top" "I" : Cond) ∈ qw_tbl := qt_2 (List.mem_of_getElem? (i := 20) rfl) rfl
theorem w_359 : (.soleField "SecretBuyers$Scorer" "top" : Cond) ∈ qw_tbl := qt_2 (List.mem_of_getElem? (i := 21) rfl) rfl
theorem w_360 : (.lays "SecretBuyers$Scorer" "SecretBuyers$Scorer" "total" "I" : Cond) ∈ qw_tbl := qt_2 (List.mem_of_getElem? (i := 22) rfl) rfl
theorem w_361 : (.soleField "SecretBuyers$Scorer" "total" : Cond) ∈ qw_tbl := qt_2 (List.mem_of_getElem? (i := 23) rfl) rfl
theorem w_362 : (.lays "SecretBuyers$Scorer" "SecretBuyers$Scorer" "money" "I" : Cond) ∈ qw_tbl := qt_2 (List.mem_of_getElem? (i := 24) rfl) rfl
theorem w_363 : (.soleField "SecretBuyers$Scorer" "money" : Cond) ∈ qw_tbl := qt_2 (List.mem_of_getElem? (i := 25) rfl) rfl
theorem w_364 : (.lays "SecretBuyers$Scorer" "SecretBuyers$Scorer" "hasMoney" "Z" : Cond) ∈ qw_tbl := qt_2 (List.mem_of_getElem? (i := 26) rfl) rfl
theorem w_365 : (.soleField "SecretBuyers$Scorer" "hasMoney" : Cond) ∈ qw_tbl := qt_2 (List.mem_of_getElem? (i := 27) rfl) rfl
theorem w_366 : (.lays "SecretBuyers$Scorer" "SecretBuyers$Scorer" "hasFailed" "Z" : Cond) ∈ qw_tbl := qt_2 (List.mem_of_getElem? (i := 28) rfl) rfl
theorem w_367 : (.soleField "SecretBuyers$Scorer" "hasFailed" : Cond) ∈ qw_tbl := qt_2 (List.mem_of_getElem? (i := 29) rfl) rfl
theorem w_368 : (.lays "SecretBuyers$Scorer" "SecretBuyers$Scorer" "edition" "I" : Cond) ∈ qw_tbl := qt_2 (List.mem_of_getElem? (i := 30) rfl) rfl
theorem w_369 : (.soleField "SecretBuyers$Scorer" "edition" : Cond) ∈ qw_tbl := qt_2 (List.mem_of_getElem? (i := 31) rfl) rfl
theorem w_371 : (.classLink "SecretBuyers" 48 "SecretBuyers$Means" : Cond) ∈ qw_tbl := qt_2 (List.mem_of_getElem? (i := 33) rfl) rfl
theorem w_372 : (.instantiable "SecretBuyers$Means" 12 : Cond) ∈ qw_tbl := qt_2 (List.mem_of_getElem? (i := 34) rfl) rfl
theorem w_373 : (.methodLink "SecretBuyers" 50 (⟨"SecretBuyers$Means", "<init>", "(LSecretBuyers$Book;LSecretBuyers$Truth;LSecretBuyers$Scorer;)V"⟩ : MethodName) : Cond) ∈ qw_tbl := qt_2 (List.mem_of_getElem? (i := 35) rfl) rfl
theorem w_374 : (.instanceMethod (⟨"SecretBuyers$Means", "<init>", "(LSecretBuyers$Book;LSecretBuyers$Truth;LSecretBuyers$Scorer;)V"⟩ : MethodName) : Cond) ∈ qw_tbl := qt_2 (List.mem_of_getElem? (i := 36) rfl) rfl
theorem w_375 : (.code (⟨"SecretBuyers$Means", "<init>", "(LSecretBuyers$Book;LSecretBuyers$Truth;LSecretBuyers$Scorer;)V"⟩ : MethodName) prog_5_method_1_code 4 (Option.none : Option Jvm.ClassFile.FieldType) : Cond) ∈ qw_tbl := qt_2 (List.mem_of_getElem? (i := 37) rfl) rfl
theorem w_376 : (.methodLink "SecretBuyers$Means" 3 (⟨"java/lang/Object", "<init>", "()V"⟩ : MethodName) : Cond) ∈ qw_tbl := qt_2 (List.mem_of_getElem? (i := 38) rfl) rfl
theorem w_377 : (.fieldLink "SecretBuyers$Means" 33 "SecretBuyers$Means" "book" "LSecretBuyers$Book;" : Cond) ∈ qw_tbl := qt_2 (List.mem_of_getElem? (i := 39) rfl) rfl
theorem w_378 : (.fieldLink "SecretBuyers$Means" 37 "SecretBuyers$Means" "truth" "LSecretBuyers$Truth;" : Cond) ∈ qw_tbl := qt_2 (List.mem_of_getElem? (i := 40) rfl) rfl
theorem w_379 : (.fieldLink "SecretBuyers$Means" 41 "SecretBuyers$Means" "scorer" "LSecretBuyers$Scorer;" : Cond) ∈ qw_tbl := qt_2 (List.mem_of_getElem? (i := 41) rfl) rfl
theorem w_380 : (.fieldLink "SecretBuyers$Means" 9 "SecretBuyers$Means" "leanSum" "[I" : Cond) ∈ qw_tbl := qt_2 (List.mem_of_getElem? (i := 42) rfl) rfl
theorem w_381 : (.fieldLink "SecretBuyers$Means" 15 "SecretBuyers$Means" "leanCount" "[I" : Cond) ∈ qw_tbl := qt_2 (List.mem_of_getElem? (i := 43) rfl) rfl
theorem w_382 : (.fieldLink "SecretBuyers$Means" 18 "SecretBuyers$Means" "pairs" "[I" : Cond) ∈ qw_tbl := qt_2 (List.mem_of_getElem? (i := 44) rfl) rfl
theorem w_383 : (.fieldLink "SecretBuyers$Means" 21 "SecretBuyers$Means" "fairSum" "[I" : Cond) ∈ qw_tbl := qt_2 (List.mem_of_getElem? (i := 45) rfl) rfl
theorem w_384 : (.fieldLink "SecretBuyers$Means" 24 "SecretBuyers$Means" "visitSum" "[I" : Cond) ∈ qw_tbl := qt_2 (List.mem_of_getElem? (i := 46) rfl) rfl
theorem w_385 : (.fieldLink "SecretBuyers$Means" 27 "SecretBuyers$Means" "ranked" "[I" : Cond) ∈ qw_tbl := qt_2 (List.mem_of_getElem? (i := 47) rfl) rfl
theorem w_386 : (.fieldLink "SecretBuyers$Means" 30 "SecretBuyers$Means" "rows" "[I" : Cond) ∈ qw_tbl := qt_2 (List.mem_of_getElem? (i := 48) rfl) rfl
theorem w_387 : (.fieldLink "SecretBuyers$Means" 132 "SecretBuyers$Means" "rankedCount" "I" : Cond) ∈ qw_tbl := qt_2 (List.mem_of_getElem? (i := 49) rfl) rfl
theorem w_388 : (.fieldLink "SecretBuyers$Means" 45 "SecretBuyers$Means" "edition" "I" : Cond) ∈ qw_tbl := qt_2 (List.mem_of_getElem? (i := 50) rfl) rfl
theorem w_389 : (.laysFinal "SecretBuyers$Means" "SecretBuyers$Means" "book" "LSecretBuyers$Book;" : Cond) ∈ qw_tbl := qt_2 (List.mem_of_getElem? (i := 51) rfl) rfl
theorem w_390 : (.soleField "SecretBuyers$Means" "book" : Cond) ∈ qw_tbl := qt_2 (List.mem_of_getElem? (i := 52) rfl) rfl
theorem w_391 : (.laysFinal "SecretBuyers$Means" "SecretBuyers$Means" "truth" "LSecretBuyers$Truth;" : Cond) ∈ qw_tbl := qt_2 (List.mem_of_getElem? (i := 53) rfl) rfl
theorem w_392 : (.soleField "SecretBuyers$Means" "truth" : Cond) ∈ qw_tbl := qt_2 (List.mem_of_getElem? (i := 54) rfl) rfl
theorem w_393 : (.laysFinal "SecretBuyers$Means" "SecretBuyers$Means" "scorer" "LSecretBuyers$Scorer;" : Cond) ∈ qw_tbl := qt_2 (List.mem_of_getElem? (i := 55) rfl) rfl
theorem w_394 : (.soleField "SecretBuyers$Means" "scorer" : Cond) ∈ qw_tbl := qt_2 (List.mem_of_getElem? (i := 56) rfl) rfl
theorem w_395 : (.laysFinal "SecretBuyers$Means" "SecretBuyers$Means" "leanSum" "[I" : Cond) ∈ qw_tbl := qt_2 (List.mem_of_getElem? (i := 57) rfl) rfl
theorem w_396 : (.soleField "SecretBuyers$Means" "leanSum" : Cond) ∈ qw_tbl := qt_2 (List.mem_of_getElem? (i := 58) rfl) rfl
theorem w_397 : (.laysFinal "SecretBuyers$Means" "SecretBuyers$Means" "leanCount" "[I" : Cond) ∈ qw_tbl := qt_2 (List.mem_of_getElem? (i := 59) rfl) rfl
theorem w_398 : (.soleField "SecretBuyers$Means" "leanCount" : Cond) ∈ qw_tbl := qt_2 (List.mem_of_getElem? (i := 60) rfl) rfl
theorem w_399 : (.laysFinal "SecretBuyers$Means" "SecretBuyers$Means" "pairs" "[I" : Cond) ∈ qw_tbl := qt_2 (List.mem_of_getElem? (i := 61) rfl) rfl
theorem w_400 : (.soleField "SecretBuyers$Means" "pairs" : Cond) ∈ qw_tbl := qt_2 (List.mem_of_getElem? (i := 62) rfl) rfl
theorem w_401 : (.laysFinal "SecretBuyers$Means" "SecretBuyers$Means" "fairSum" "[I" : Cond) ∈ qw_tbl := qt_2 (List.mem_of_getElem? (i := 63) rfl) rfl
theorem w_402 : (.soleField "SecretBuyers$Means" "fairSum" : Cond) ∈ qw_tbl := qt_2 (List.mem_of_getElem? (i := 64) rfl) rfl
theorem w_403 : (.laysFinal "SecretBuyers$Means" "SecretBuyers$Means" "visitSum" "[I" : Cond) ∈ qw_tbl := qt_2 (List.mem_of_getElem? (i := 65) rfl) rfl
theorem w_404 : (.soleField "SecretBuyers$Means" "visitSum" : Cond) ∈ qw_tbl := qt_2 (List.mem_of_getElem? (i := 66) rfl) rfl
theorem w_405 : (.laysFinal "SecretBuyers$Means" "SecretBuyers$Means" "ranked" "[I" : Cond) ∈ qw_tbl := qt_2 (List.mem_of_getElem? (i := 67) rfl) rfl
theorem w_406 : (.soleField "SecretBuyers$Means" "ranked" : Cond) ∈ qw_tbl := qt_2 (List.mem_of_getElem? (i := 68) rfl) rfl
theorem w_407 : (.laysFinal "SecretBuyers$Means" "SecretBuyers$Means" "rows" "[I" : Cond) ∈ qw_tbl := qt_2 (List.mem_of_getElem? (i := 69) rfl) rfl
theorem w_408 : (.soleField "SecretBuyers$Means" "rows" : Cond) ∈ qw_tbl := qt_2 (List.mem_of_getElem? (i := 70) rfl) rfl
theorem w_409 : (.lays "SecretBuyers$Means" "SecretBuyers$Means" "rankedCount" "I" : Cond) ∈ qw_tbl := qt_2 (List.mem_of_getElem? (i := 71) rfl) rfl
theorem w_410 : (.soleField "SecretBuyers$Means" "rankedCount" : Cond) ∈ qw_tbl := qt_2 (List.mem_of_getElem? (i := 72) rfl) rfl
theorem w_411 : (.lays "SecretBuyers$Means" "SecretBuyers$Means" "edition" "I" : Cond) ∈ qw_tbl := qt_2 (List.mem_of_getElem? (i := 73) rfl) rfl
theorem w_412 : (.soleField "SecretBuyers$Means" "edition" : Cond) ∈ qw_tbl := qt_2 (List.mem_of_getElem? (i := 74) rfl) rfl
theorem w_414 : (.classLink "SecretBuyers" 57 "SecretBuyers$Giver" : Cond) ∈ qw_tbl := qt_2 (List.mem_of_getElem? (i := 76) rfl) rfl
theorem w_415 : (.instantiable "SecretBuyers$Giver" 5 : Cond) ∈ qw_tbl := qt_2 (List.mem_of_getElem? (i := 77) rfl) rfl
theorem w_416 : (.methodLink "SecretBuyers" 59 (⟨"SecretBuyers$Giver", "<init>", "(LSecretBuyers$Book;)V"⟩ : MethodName) : Cond) ∈ qw_tbl := qt_2 (List.mem_of_getElem? (i := 78) rfl) rfl
theorem w_417 : (.instanceMethod (⟨"SecretBuyers$Giver", "<init>", "(LSecretBuyers$Book;)V"⟩ : MethodName) : Cond) ∈ qw_tbl := qt_2 (List.mem_of_getElem? (i := 79) rfl) rfl
theorem w_418 : (.code (⟨"SecretBuyers$Giver", "<init>", "(LSecretBuyers$Book;)V"⟩ : MethodName) prog_4_method_1_code 2 (Option.none : Option Jvm.ClassFile.FieldType) : Cond) ∈ qw_tbl := qt_2 (List.mem_of_getElem? (i := 80) rfl) rfl
theorem w_419 : (.methodLink "SecretBuyers$Giver" 5 (⟨"java/lang/Object", "<init>", "()V"⟩ : MethodName) : Cond) ∈ qw_tbl := qt_2 (List.mem_of_getElem? (i := 81) rfl) rfl
theorem w_420 : (.fieldLink "SecretBuyers$Giver" 22 "SecretBuyers$Giver" "book" "LSecretBuyers$Book;" : Cond) ∈ qw_tbl := qt_2 (List.mem_of_getElem? (i := 82) rfl) rfl
theorem w_421 : (.fieldLink "SecretBuyers$Giver" 11 "SecretBuyers$Giver" "best" "[J" : Cond) ∈ qw_tbl := qt_2 (List.mem_of_getElem? (i := 83) rfl) rfl
theorem w_422 : (.fieldLink "SecretBuyers$Giver" 15 "SecretBuyers$Giver" "price" "[J" : Cond) ∈ qw_tbl := qt_2 (List.mem_of_getElem? (i := 84) rfl) rfl
theorem w_423 : (.fieldLink "SecretBuyers$Giver" 18 "SecretBuyers$Giver" "shops" "[I" : Cond) ∈ qw_tbl := qt_2 (List.mem_of_getElem? (i := 85) rfl) rfl
theorem w_424 : (.fieldLink "SecretBuyers$Giver" 51 "SecretBuyers$Giver" "size" "I" : Cond) ∈ qw_tbl := qt_2 (List.mem_of_getElem? (i := 86) rfl) rfl
theorem w_425 : (.laysFinal "SecretBuyers$Giver" "SecretBuyers$Giver" "book" "LSecretBuyers$Book;" : Cond) ∈ qw_tbl := qt_2 (List.mem_of_getElem? (i := 87) rfl) rfl
theorem w_426 : (.soleField "SecretBuyers$Giver" "book" : Cond) ∈ qw_tbl := qt_2 (List.mem_of_getElem? (i := 88) rfl) rfl
theorem w_427 : (.laysFinal "SecretBuyers$Giver" "SecretBuyers$Giver" "best" "[J" : Cond) ∈ qw_tbl := qt_2 (List.mem_of_getElem? (i := 89) rfl) rfl
theorem w_428 : (.soleField "SecretBuyers$Giver" "best" : Cond) ∈ qw_tbl := qt_2 (List.mem_of_getElem? (i := 90) rfl) rfl
theorem w_429 : (.laysFinal "SecretBuyers$Giver" "SecretBuyers$Giver" "price" "[J" : Cond) ∈ qw_tbl := qt_2 (List.mem_of_getElem? (i := 91) rfl) rfl
theorem w_430 : (.soleField "SecretBuyers$Giver" "price" : Cond) ∈ qw_tbl := qt_2 (List.mem_of_getElem? (i := 92) rfl) rfl
theorem w_431 : (.laysFinal "SecretBuyers$Giver" "SecretBuyers$Giver" "shops" "[I" : Cond) ∈ qw_tbl := qt_2 (List.mem_of_getElem? (i := 93) rfl) rfl
theorem w_432 : (.soleField "SecretBuyers$Giver" "shops" : Cond) ∈ qw_tbl := qt_2 (List.mem_of_getElem? (i := 94) rfl) rfl
theorem w_433 : (.lays "SecretBuyers$Giver" "SecretBuyers$Giver" "size" "I" : Cond) ∈ qw_tbl := qt_2 (List.mem_of_getElem? (i := 95) rfl) rfl
theorem w_434 : (.soleField "SecretBuyers$Giver" "size" : Cond) ∈ qw_tbl := qt_2 (List.mem_of_getElem? (i := 96) rfl) rfl
theorem w_436 : (.fieldLink "SecretBuyers" 10 "SecretBuyers" "book" "LSecretBuyers$Book;" : Cond) ∈ qw_tbl := qt_2 (List.mem_of_getElem? (i := 98) rfl) rfl
theorem w_437 : (.fieldLink "SecretBuyers" 19 "SecretBuyers" "tape" "LSecretBuyers$Tape;" : Cond) ∈ qw_tbl := qt_2 (List.mem_of_getElem? (i := 99) rfl) rfl
theorem w_438 : (.fieldLink "SecretBuyers" 28 "SecretBuyers" "reader" "LSecretBuyers$Reader;" : Cond) ∈ qw_tbl := qt_2 (List.mem_of_getElem? (i := 100) rfl) rfl
theorem w_439 : (.fieldLink "SecretBuyers" 37 "SecretBuyers" "truth" "LSecretBuyers$Truth;" : Cond) ∈ qw_tbl := qt_2 (List.mem_of_getElem? (i := 101) rfl) rfl
theorem w_440 : (.fieldLink "SecretBuyers" 44 "SecretBuyers" "scorer" "LSecretBuyers$Scorer;" : Cond) ∈ qw_tbl := qt_2 (List.mem_of_getElem? (i := 102) rfl) rfl
theorem w_441 : (.fieldLink "SecretBuyers" 53 "SecretBuyers" "means" "LSecretBuyers$Means;" : Cond) ∈ qw_tbl := qt_2 (List.mem_of_getElem? (i := 103) rfl) rfl
theorem w_442 : (.fieldLink "SecretBuyers" 60 "SecretBuyers" "giver" "LSecretBuyers$Giver;" : Cond) ∈ qw_tbl := qt_2 (List.mem_of_getElem? (i := 104) rfl) rfl
theorem w_443 : (.fieldLink "SecretBuyers" 64 "SecretBuyers" "fee" "I" : Cond) ∈ qw_tbl := qt_2 (List.mem_of_getElem? (i := 105) rfl) rfl
theorem w_444 : (.fieldLink "SecretBuyers" 68 "SecretBuyers" "spread" "I" : Cond) ∈ qw_tbl := qt_2 (List.mem_of_getElem? (i := 106) rfl) rfl
theorem w_445 : (.laysFinal "SecretBuyers" "SecretBuyers" "book" "LSecretBuyers$Book;" : Cond) ∈ qw_tbl := qt_2 (List.mem_of_getElem? (i := 107) rfl) rfl
theorem w_446 : (.soleField "SecretBuyers" "book" : Cond) ∈ qw_tbl := qt_2 (List.mem_of_getElem? (i := 108) rfl) rfl
theorem w_447 : (.laysFinal "SecretBuyers" "SecretBuyers" "tape" "LSecretBuyers$Tape;" : Cond) ∈ qw_tbl := qt_2 (List.mem_of_getElem? (i := 109) rfl) rfl
theorem w_448 : (.soleField "SecretBuyers" "tape" : Cond) ∈ qw_tbl := qt_2 (List.mem_of_getElem? (i := 110) rfl) rfl
theorem w_449 : (.laysFinal "SecretBuyers" "SecretBuyers" "reader" "LSecretBuyers$Reader;" : Cond) ∈ qw_tbl := qt_2 (List.mem_of_getElem? (i := 111) rfl) rfl
theorem w_450 : (.soleField "SecretBuyers" "reader" : Cond) ∈ qw_tbl := qt_2 (List.mem_of_getElem? (i := 112) rfl) rfl
theorem w_451 : (.laysFinal "SecretBuyers" "SecretBuyers" "truth" "LSecretBuyers$Truth;" : Cond) ∈ qw_tbl := qt_2 (List.mem_of_getElem? (i := 113) rfl) rfl
theorem w_452 : (.soleField "SecretBuyers" "truth" : Cond) ∈ qw_tbl := qt_2 (List.mem_of_getElem? (i := 114) rfl) rfl
theorem w_453 : (.laysFinal "SecretBuyers" "SecretBuyers" "scorer" "LSecretBuyers$Scorer;" : Cond) ∈ qw_tbl := qt_2 (List.mem_of_getElem? (i := 115) rfl) rfl
theorem w_454 : (.soleField "SecretBuyers" "scorer" : Cond) ∈ qw_tbl := qt_2 (List.mem_of_getElem? (i := 116) rfl) rfl
theorem w_455 : (.laysFinal "SecretBuyers" "SecretBuyers" "means" "LSecretBuyers$Means;" : Cond) ∈ qw_tbl := qt_2 (List.mem_of_getElem? (i := 117) rfl) rfl
theorem w_456 : (.soleField "SecretBuyers" "means" : Cond) ∈ qw_tbl := qt_2 (List.mem_of_getElem? (i := 118) rfl) rfl
theorem w_457 : (.laysFinal "SecretBuyers" "SecretBuyers" "giver" "LSecretBuyers$Giver;" : Cond) ∈ qw_tbl := qt_2 (List.mem_of_getElem? (i := 119) rfl) rfl
theorem w_458 : (.soleField "SecretBuyers" "giver" : Cond) ∈ qw_tbl := qt_2 (List.mem_of_getElem? (i := 120) rfl) rfl
theorem w_459 : (.lays "SecretBuyers" "SecretBuyers" "fee" "I" : Cond) ∈ qw_tbl := qt_2 (List.mem_of_getElem? (i := 121) rfl) rfl
theorem w_460 : (.soleField "SecretBuyers" "fee" : Cond) ∈ qw_tbl := qt_2 (List.mem_of_getElem? (i := 122) rfl) rfl
theorem w_461 : (.lays "SecretBuyers" "SecretBuyers" "spread" "I" : Cond) ∈ qw_tbl := qt_2 (List.mem_of_getElem? (i := 123) rfl) rfl
theorem w_462 : (.soleField "SecretBuyers" "spread" : Cond) ∈ qw_tbl := qt_2 (List.mem_of_getElem? (i := 124) rfl) rfl
theorem w_464 : (.methodLink "SecretBuyersLaw" 30 (⟨"SecretBuyers", "days", "(I)I"⟩ : MethodName) : Cond) ∈ qw_tbl := qt_2 (List.mem_of_getElem? (i := 126) rfl) rfl
theorem w_465 : (.instanceMethod (⟨"SecretBuyers", "days", "(I)I"⟩ : MethodName) : Cond) ∈ qw_tbl := qt_2 (List.mem_of_getElem? (i := 127) rfl) rfl
theorem w_466 : (.selects "SecretBuyers" (⟨"SecretBuyers", "days", "(I)I"⟩ : MethodName) (⟨"SecretBuyers", "days", "(I)I"⟩ : MethodName) : Cond) ∈ qw_tbl := qt_2 (List.mem_of_getElem? (i := 128) rfl) rfl
theorem w_467 : (.code (⟨"SecretBuyers", "days", "(I)I"⟩ : MethodName) prog_1_method_2_code 2 (Option.some Jvm.ClassFile.FieldType.int) : Cond) ∈ qw_tbl := qt_2 (List.mem_of_getElem? (i := 129) rfl) rfl
theorem w_468 : (.methodLink "SecretBuyers" 71 (⟨"SecretBuyers", "isWithin", "(III)Z"⟩ : MethodName) : Cond) ∈ qw_tbl := qt_2 (List.mem_of_getElem? (i := 130) rfl) rfl
theorem w_469 : (.static (⟨"SecretBuyers", "isWithin", "(III)Z"⟩ : MethodName) : Cond) ∈ qw_tbl := qt_2 (List.mem_of_getElem? (i := 131) rfl) rfl
theorem w_470 : (.code (⟨"SecretBuyers", "isWithin", "(III)Z"⟩ : MethodName) prog_1_method_33_code 3 (Option.some Jvm.ClassFile.FieldType.boolean) : Cond) ∈ qw_tbl := qt_2 (List.mem_of_getElem? (i := 132) rfl) rfl
theorem w_471 : (.methodLink "SecretBuyersLaw" 34 (⟨"SecretBuyers", "view", "(I)Z"⟩ : MethodName) : Cond) ∈ qw_tbl := qt_2 (List.mem_of_getElem? (i := 133) rfl) rfl
theorem w_472 : (.instanceMethod (⟨"SecretBuyers", "view", "(I)Z"⟩ : MethodName) : Cond) ∈ qw_tbl := qt_2 (List.mem_of_getElem? (i := 134) rfl) rfl
theorem w_473 : (.selects "SecretBuyers" (⟨"SecretBuyers", "view", "(I)Z"⟩ : MethodName) (⟨"SecretBuyers", "view", "(I)Z"⟩ : MethodName) : Cond) ∈ qw_tbl := qt_2 (List.mem_of_getElem? (i := 135) rfl) rfl
theorem w_474 : (.code (⟨"SecretBuyers", "view", "(I)Z"⟩ : MethodName) prog_1_method_3_code 2 (Option.some Jvm.ClassFile.FieldType.boolean) : Cond) ∈ qw_tbl := qt_2 (List.mem_of_getElem? (i := 136) rfl) rfl
theorem w_475 : (.methodLink "SecretBuyers" 78 (⟨"SecretBuyers$Book", "lookFrom", "(I)V"⟩ : MethodName) : Cond) ∈ qw_tbl := qt_2 (List.mem_of_getElem? (i := 137) rfl) rfl
theorem w_476 : (.instanceMethod (⟨"SecretBuyers$Book", "lookFrom", "(I)V"⟩ : MethodName) : Cond) ∈ qw_tbl := qt_2 (List.mem_of_getElem? (i := 138) rfl) rfl
theorem w_477 : (.selects "SecretBuyers$Book" (⟨"SecretBuyers$Book", "lookFrom", "(I)V"⟩ : MethodName) (⟨"SecretBuyers$Book", "lookFrom", "(I)V"⟩ : MethodName) : Cond) ∈ qw_tbl := qt_2 (List.mem_of_getElem? (i := 139) rfl) rfl
theorem w_478 : (.code (⟨"SecretBuyers$Book", "lookFrom", "(I)V"⟩ : MethodName) prog_2_method_8_code 3 (Option.none : Option Jvm.ClassFile.FieldType) : Cond) ∈ qw_tbl := qt_2 (List.mem_of_getElem? (i := 140) rfl) rfl
theorem w_479 : (.methodLink "SecretBuyers$Book" 97 (⟨"SecretBuyers$Book", "turnIfSeen", "(I)V"⟩ : MethodName) : Cond) ∈ qw_tbl := qt_2 (List.mem_of_getElem? (i := 141) rfl) rfl
theorem w_481 : (.instanceMethod (⟨"SecretBuyers$Book", "turnIfSeen", "(I)V"⟩ : MethodName) : Cond) ∈ qw_tbl := qt_2 (List.mem_of_getElem? (i := 143) rfl) rfl
theorem w_482 : (.code (⟨"SecretBuyers$Book", "turnIfSeen", "(I)V"⟩ : MethodName) prog_2_method_10_code 2 (Option.none : Option Jvm.ClassFile.FieldType) : Cond) ∈ qw_tbl := qt_2 (List.mem_of_getElem? (i := 144) rfl) rfl
theorem w_483 : (.methodLink "SecretBuyers$Book" 84 (⟨"SecretBuyers$Book", "seenDay", "()I"⟩ : MethodName) : Cond) ∈ qw_tbl := qt_2 (List.mem_of_getElem? (i := 145) rfl) rfl
theorem w_484 : (.instanceMethod (⟨"SecretBuyers$Book", "seenDay", "()I"⟩ : MethodName) : Cond) ∈ qw_tbl := qt_2 (List.mem_of_getElem? (i := 146) rfl) rfl
theorem w_485 : (.selects "SecretBuyers$Book" (⟨"SecretBuyers$Book", "seenDay", "()I"⟩ : MethodName) (⟨"SecretBuyers$Book", "seenDay", "()I"⟩ : MethodName) : Cond) ∈ qw_tbl := qt_2 (List.mem_of_getElem? (i := 147) rfl) rfl
theorem w_486 : (.code (⟨"SecretBuyers$Book", "seenDay", "()I"⟩ : MethodName) prog_2_method_4_code 1 (Option.some Jvm.ClassFile.FieldType.int) : Cond) ∈ qw_tbl := qt_2 (List.mem_of_getElem? (i := 148) rfl) rfl
theorem w_487 : (.methodLink "SecretBuyersLaw" 39 (⟨"SecretBuyers", "shop", "(IIIIIZ)I"⟩ : MethodName) : Cond) ∈ qw_tbl := qt_2 (List.mem_of_getElem? (i := 149) rfl) rfl
theorem w_488 : (.instanceMethod (⟨"SecretBuyers", "shop", "(IIIIIZ)I"⟩ : MethodName) : Cond) ∈ qw_tbl := qt_2 (List.mem_of_getElem? (i := 150) rfl) rfl
theorem w_489 : (.selects "SecretBuyers" (⟨"SecretBuyers", "shop", "(IIIIIZ)I"⟩ : MethodName) (⟨"SecretBuyers", "shop", "(IIIIIZ)I"⟩ : MethodName) : Cond) ∈ qw_tbl := qt_2 (List.mem_of_getElem? (i := 151) rfl) rfl
theorem w_490 : (.code (⟨"SecretBuyers", "shop", "(IIIIIZ)I"⟩ : MethodName) prog_1_method_4_code 7 (Option.some Jvm.ClassFile.FieldType.int) : Cond) ∈ qw_tbl := qt_2 (List.mem_of_getElem? (i := 152) rfl) rfl
theorem w_491 : (.methodLink "SecretBuyers" 82 (⟨"SecretBuyers", "isPlace", "(II)Z"⟩ : MethodName) : Cond) ∈ qw_tbl := qt_2 (List.mem_of_getElem? (i := 153) rfl) rfl
theorem w_492 : (.static (⟨"SecretBuyers", "isPlace", "(II)Z"⟩ : MethodName) : Cond) ∈ qw_tbl := qt_2 (List.mem_of_getElem? (i := 154) rfl) rfl
theorem w_493 : (.code (⟨"SecretBuyers", "isPlace", "(II)Z"⟩ : MethodName) prog_1_method_37_code 2 (Option.some Jvm.ClassFile.FieldType.boolean) : Cond) ∈ qw_tbl := qt_2 (List.mem_of_getElem? (i := 155) rfl) rfl
theorem w_494 : (.methodLink "SecretBuyers" 86 (⟨"SecretBuyers", "isChain", "(I)Z"⟩ : MethodName) : Cond) ∈ qw_tbl := qt_2 (List.mem_of_getElem? (i := 156) rfl) rfl
theorem w_495 : (.static (⟨"SecretBuyers", "isChain", "(I)Z"⟩ : MethodName) : Cond) ∈ qw_tbl := qt_2 (List.mem_of_getElem? (i := 157) rfl) rfl
theorem w_496 : (.code (⟨"SecretBuyers", "isChain", "(I)Z"⟩ : MethodName) prog_1_method_38_code 1 (Option.some Jvm.ClassFile.FieldType.boolean) : Cond) ∈ qw_tbl := qt_2 (List.mem_of_getElem? (i := 158) rfl) rfl
theorem w_497 : (.methodLink "SecretBuyers" 90 (⟨"SecretBuyers", "isMinute", "(I)Z"⟩ : MethodName) : Cond) ∈ qw_tbl := qt_2 (List.mem_of_getElem? (i := 159) rfl) rfl
theorem w_498 : (.static (⟨"SecretBuyers", "isMinute", "(I)Z"⟩ : MethodName) : Cond) ∈ qw_tbl := qt_2 (List.mem_of_getElem? (i := 160) rfl) rfl
theorem w_499 : (.code (⟨"SecretBuyers", "isMinute", "(I)Z"⟩ : MethodName) prog_1_method_36_code 1 (Option.some Jvm.ClassFile.FieldType.boolean) : Cond) ∈ qw_tbl := qt_2 (List.mem_of_getElem? (i := 161) rfl) rfl
theorem w_500 : (.classLink "SecretBuyers" 100 "SecretBuyers$Shop" : Cond) ∈ qw_tbl := qt_2 (List.mem_of_getElem? (i := 162) rfl) rfl
theorem w_501 : (.instantiable "SecretBuyers$Shop" 5 : Cond) ∈ qw_tbl := qt_2 (List.mem_of_getElem? (i := 163) rfl) rfl
theorem w_502 : (.classLink "SecretBuyers" 102 "SecretBuyers$Place" : Cond) ∈ qw_tbl := qt_2 (List.mem_of_getElem? (i := 164) rfl) rfl
theorem w_503 : (.instantiable "SecretBuyers$Place" 2 : Cond) ∈ qw_tbl := qt_2 (List.mem_of_getElem? (i := 165) rfl) rfl
theorem w_504 : (.methodLink "SecretBuyers" 104 (⟨"SecretBuyers$Place", "<init>", "(II)V"⟩ : MethodName) : Cond) ∈ qw_tbl := qt_2 (List.mem_of_getElem? (i := 166) rfl) rfl
theorem w_505 : (.instanceMethod (⟨"SecretBuyers$Place", "<init>", "(II)V"⟩ : MethodName) : Cond) ∈ qw_tbl := qt_2 (List.mem_of_getElem? (i := 167) rfl) rfl
theorem w_506 : (.code (⟨"SecretBuyers$Place", "<init>", "(II)V"⟩ : MethodName) prog_6_method_1_code 3 (Option.none : Option Jvm.ClassFile.FieldType) : Cond) ∈ qw_tbl := qt_2 (List.mem_of_getElem? (i := 168) rfl) rfl
theorem w_507 : (.methodLink "SecretBuyers$Place" 1 (⟨"java/lang/Object", "<init>", "()V"⟩ : MethodName) : Cond) ∈ qw_tbl := qt_2 (List.mem_of_getElem? (i := 169) rfl) rfl
theorem w_508 : (.fieldLink "SecretBuyers$Place" 7 "SecretBuyers$Place" "x" "I" : Cond) ∈ qw_tbl := qt_2 (List.mem_of_getElem? (i := 170) rfl) rfl
theorem w_509 : (.fieldLink "SecretBuyers$Place" 13 "SecretBuyers$Place" "y" "I" : Cond) ∈ qw_tbl := qt_2 (List.mem_of_getElem? (i := 171) rfl) rfl
theorem w_510 : (.laysFinal "SecretBuyers$Place" "SecretBuyers$Place" "x" "I" : Cond) ∈ qw_tbl := qt_2 (List.mem_of_getElem? (i := 172) rfl) rfl
theorem w_511 : (.soleField "SecretBuyers$Place" "x" : Cond) ∈ qw_tbl := qt_2 (List.mem_of_getElem? (i := 173) rfl) rfl
theorem w_512 : (.laysFinal "SecretBuyers$Place" "SecretBuyers$Place" "y" "I" : Cond) ∈ qw_tbl := qt_2 (List.mem_of_getElem? (i := 174) rfl) rfl
theorem w_513 : (.soleField "SecretBuyers$Place" "y" : Cond) ∈ qw_tbl := qt_2 (List.mem_of_getElem? (i := 175) rfl) rfl
theorem w_515 : (.methodLink "SecretBuyers" 107 (⟨"SecretBuyers$Shop", "<init>", "(LSecretBuyers$Place;IIIZ)V"⟩ : MethodName) : Cond) ∈ qw_tbl := qt_2 (List.mem_of_getElem? (i := 177) rfl) rfl
theorem w_516 : (.instanceMethod (⟨"SecretBuyers$Shop", "<init>", "(LSecretBuyers$Place;IIIZ)V"⟩ : MethodName) : Cond) ∈ qw_tbl := qt_2 (List.mem_of_getElem? (i := 178) rfl) rfl
theorem w_517 : (.code (⟨"SecretBuyers$Shop", "<init>", "(LSecretBuyers$Place;IIIZ)V"⟩ : MethodName) prog_9_method_1_code 6 (Option.none : Option Jvm.ClassFile.FieldType) : Cond) ∈ qw_tbl := qt_2 (List.mem_of_getElem? (i := 179) rfl) rfl
theorem w_518 : (.methodLink "SecretBuyers$Shop" 1 (⟨"java/lang/Object", "<init>", "()V"⟩ : MethodName) : Cond) ∈ qw_tbl := qt_2 (List.mem_of_getElem? (i := 180) rfl) rfl
theorem w_519 : (.fieldLink "SecretBuyers$Shop" 7 "SecretBuyers$Shop" "place" "LSecretBuyers$Place;" : Cond) ∈ qw_tbl := qt_2 (List.mem_of_getElem? (i := 181) rfl) rfl
theorem w_520 : (.fieldLink "SecretBuyers$Truth" 155 "SecretBuyers$Shop" "place" "LSecretBuyers$Place;" : Cond) ∈ qw_tbl := qt_2 (List.mem_of_getElem? (i := 182) rfl) rfl
theorem w_521 : (.fieldLink "SecretBuyers$Book" 134 "SecretBuyers$Shop" "place" "LSecretBuyers$Place;" : Cond) ∈ qw_tbl := qt_2 (List.mem_of_getElem? (i := 183) rfl) rfl
theorem w_522 : (.fieldLink "SecretBuyers$Shop" 13 "SecretBuyers$Shop" "chain" "I" : Cond) ∈ qw_tbl := qt_2 (List.mem_of_getElem? (i := 184) rfl) rfl
theorem w_523 : (.fieldLink "SecretBuyers$Means" 142 "SecretBuyers$Shop" "chain" "I" : Cond) ∈ qw_tbl := qt_2 (List.mem_of_getElem? (i := 185) rfl) rfl
theorem w_524 : (.fieldLink "SecretBuyers$Book" 126 "SecretBuyers$Shop" "chain" "I" : Cond) ∈ qw_tbl := qt_2 (List.mem_of_getElem? (i := 186) rfl) rfl
theorem w_525 : (.fieldLink "SecretBuyers" 365 "SecretBuyers$Shop" "chain" "I" : Cond) ∈ qw_tbl := qt_2 (List.mem_of_getElem? (i := 187) rfl) rfl
theorem w_526 : (.fieldLink "SecretBuyers$Shop" 17 "SecretBuyers$Shop" "opens" "I" : Cond) ∈ qw_tbl := qt_2 (List.mem_of_getElem? (i := 188) rfl) rfl
theorem w_527 : (.fieldLink "SecretBuyers$Truth" 104 "SecretBuyers$Shop" "opens" "I" : Cond) ∈ qw_tbl := qt_2 (List.mem_of_getElem? (i := 189) rfl) rfl
theorem w_528 : (.fieldLink "SecretBuyers$Shop" 20 "SecretBuyers$Shop" "closes" "I" : Cond) ∈ qw_tbl := qt_2 (List.mem_of_getElem? (i := 190) rfl) rfl
theorem w_529 : (.fieldLink "SecretBuyers$Truth" 112 "SecretBuyers$Shop" "closes" "I" : Cond) ∈ qw_tbl := qt_2 (List.mem_of_getElem? (i := 191) rfl) rfl
theorem w_530 : (.fieldLink "SecretBuyers$Shop" 23 "SecretBuyers$Shop" "records" "Z" : Cond) ∈ qw_tbl := qt_2 (List.mem_of_getElem? (i := 192) rfl) rfl
theorem w_531 : (.fieldLink "SecretBuyers" 163 "SecretBuyers$Shop" "records" "Z" : Cond) ∈ qw_tbl := qt_2 (List.mem_of_getElem? (i := 193) rfl) rfl
theorem w_532 : (.laysFinal "SecretBuyers$Shop" "SecretBuyers$Shop" "place" "LSecretBuyers$Place;" : Cond) ∈ qw_tbl := qt_2 (List.mem_of_getElem? (i := 194) rfl) rfl
theorem w_533 : (.soleField "SecretBuyers$Shop" "place" : Cond) ∈ qw_tbl := qt_2 (List.mem_of_getElem? (i := 195) rfl) rfl
theorem w_534 : (.laysFinal "SecretBuyers$Shop" "SecretBuyers$Shop" "chain" "I" : Cond) ∈ qw_tbl := qt_2 (List.mem_of_getElem? (i := 196) rfl) rfl
theorem w_535 : (.soleField "SecretBuyers$Shop" "chain" : Cond) ∈ qw_tbl := qt_2 (List.mem_of_getElem? (i := 197) rfl) rfl
theorem w_536 : (.laysFinal "SecretBuyers$Shop" "SecretBuyers$Shop" "opens" "I" : Cond) ∈ qw_tbl := qt_2 (List.mem_of_getElem? (i := 198) rfl) rfl
theorem w_537 : (.soleField "SecretBuyers$Shop" "opens" : Cond) ∈ qw_tbl := qt_2 (List.mem_of_getElem? (i := 199) rfl) rfl
theorem w_538 : (.laysFinal "SecretBuyers$Shop" "SecretBuyers$Shop" "closes" "I" : Cond) ∈ qw_tbl := qt_2 (List.mem_of_getElem? (i := 200) rfl) rfl
theorem w_539 : (.soleField "SecretBuyers$Shop" "closes" : Cond) ∈ qw_tbl := qt_2 (List.mem_of_getElem? (i := 201) rfl) rfl
theorem w_540 : (.laysFinal "SecretBuyers$Shop" "SecretBuyers$Shop" "records" "Z" : Cond) ∈ qw_tbl := qt_2 (List.mem_of_getElem? (i := 202) rfl) rfl
theorem w_541 : (.soleField "SecretBuyers$Shop" "records" : Cond) ∈ qw_tbl := qt_2 (List.mem_of_getElem? (i := 203) rfl) rfl
theorem w_543 : (.methodLink "SecretBuyersLaw" 44 (⟨"SecretBuyers", "buyer", "(II)I"⟩ : MethodName) : Cond) ∈ qw_tbl := qt_2 (List.mem_of_getElem? (i := 205) rfl) rfl
theorem w_544 : (.instanceMethod (⟨"SecretBuyers", "buyer", "(II)I"⟩ : MethodName) : Cond) ∈ qw_tbl := qt_2 (List.mem_of_getElem? (i := 206) rfl) rfl
theorem w_545 : (.selects "SecretBuyers" (⟨"SecretBuyers", "buyer", "(II)I"⟩ : MethodName) (⟨"SecretBuyers", "buyer", "(II)I"⟩ : MethodName) : Cond) ∈ qw_tbl := qt_2 (List.mem_of_getElem? (i := 207) rfl) rfl
theorem w_546 : (.code (⟨"SecretBuyers", "buyer", "(II)I"⟩ : MethodName) prog_1_method_5_code 3 (Option.some Jvm.ClassFile.FieldType.int) : Cond) ∈ qw_tbl := qt_2 (List.mem_of_getElem? (i := 208) rfl) rfl
theorem w_547 : (.methodLink "SecretBuyersLaw" 48 (⟨"SecretBuyers", "terms", "(III)Z"⟩ : MethodName) : Cond) ∈ qw_tbl := qt_2 (List.mem_of_getElem? (i := 209) rfl) rfl
theorem w_548 : (.instanceMethod (⟨"SecretBuyers", "terms", "(III)Z"⟩ : MethodName) : Cond) ∈ qw_tbl := qt_2 (List.mem_of_getElem? (i := 210) rfl) rfl
theorem w_549 : (.selects "SecretBuyers" (⟨"SecretBuyers", "terms", "(III)Z"⟩ : MethodName) (⟨"SecretBuyers", "terms", "(III)Z"⟩ : MethodName) : Cond) ∈ qw_tbl := qt_2 (List.mem_of_getElem? (i := 211) rfl) rfl
theorem w_550 : (.code (⟨"SecretBuyers", "terms", "(III)Z"⟩ : MethodName) prog_1_method_6_code 4 (Option.some Jvm.ClassFile.FieldType.boolean) : Cond) ∈ qw_tbl := qt_2 (List.mem_of_getElem? (i := 212) rfl) rfl
theorem w_551 : (.methodLink "SecretBuyers" 117 (⟨"SecretBuyers$Book", "walkAt", "(I)V"⟩ : MethodName) : Cond) ∈ qw_tbl := qt_2 (List.mem_of_getElem? (i := 213) rfl) rfl
theorem w_552 : (.instanceMethod (⟨"SecretBuyers$Book", "walkAt", "(I)V"⟩ : MethodName) : Cond) ∈ qw_tbl := qt_2 (List.mem_of_getElem? (i := 214) rfl) rfl
theorem w_553 : (.selects "SecretBuyers$Book" (⟨"SecretBuyers$Book", "walkAt", "(I)V"⟩ : MethodName) (⟨"SecretBuyers$Book", "walkAt", "(I)V"⟩ : MethodName) : Cond) ∈ qw_tbl := qt_2 (List.mem_of_getElem? (i := 215) rfl) rfl
theorem w_554 : (.code (⟨"SecretBuyers$Book", "walkAt", "(I)V"⟩ : MethodName) prog_2_method_9_code 2 (Option.none : Option Jvm.ClassFile.FieldType) : Cond) ∈ qw_tbl := qt_2 (List.mem_of_getElem? (i := 216) rfl) rfl
theorem w_555 : (.methodLink "SecretBuyersLaw" 53 (⟨"SecretBuyers", "rest", "(II)Z"⟩ : MethodName) : Cond) ∈ qw_tbl := qt_2 (List.mem_of_getElem? (i := 217) rfl) rfl
theorem w_556 : (.instanceMethod (⟨"SecretBuyers", "rest", "(II)Z"⟩ : MethodName) : Cond) ∈ qw_tbl := qt_2 (List.mem_of_getElem? (i := 218) rfl) rfl
theorem w_557 : (.selects "SecretBuyers" (⟨"SecretBuyers", "rest", "(II)Z"⟩ : MethodName) (⟨"SecretBuyers", "rest", "(II)Z"⟩ : MethodName) : Cond) ∈ qw_tbl := qt_2 (List.mem_of_getElem? (i := 219) rfl) rfl
theorem w_558 : (.code (⟨"SecretBuyers", "rest", "(II)Z"⟩ : MethodName) prog_1_method_7_code 3 (Option.some Jvm.ClassFile.FieldType.boolean) : Cond) ∈ qw_tbl := qt_2 (List.mem_of_getElem? (i := 220) rfl) rfl
theorem w_559 : (.methodLink "SecretBuyersLaw" 58 (⟨"SecretBuyers", "visit", "(IIIIIII)I"⟩ : MethodName) : Cond) ∈ qw_tbl := qt_2 (List.mem_of_getElem? (i := 221) rfl) rfl
theorem w_560 : (.instanceMethod (⟨"SecretBuyers", "visit", "(IIIIIII)I"⟩ : MethodName) : Cond) ∈ qw_tbl := qt_2 (List.mem_of_getElem? (i := 222) rfl) rfl
theorem w_561 : (.selects "SecretBuyers" (⟨"SecretBuyers", "visit", "(IIIIIII)I"⟩ : MethodName) (⟨"SecretBuyers", "visit", "(IIIIIII)I"⟩ : MethodName) : Cond) ∈ qw_tbl := qt_2 (List.mem_of_getElem? (i := 223) rfl) rfl
theorem w_562 : (.code (⟨"SecretBuyers", "visit", "(IIIIIII)I"⟩ : MethodName) prog_1_method_8_code 9 (Option.some Jvm.ClassFile.FieldType.int) : Cond) ∈ qw_tbl := qt_2 (List.mem_of_getElem? (i := 224) rfl) rfl
theorem w_563 : (.methodLink "SecretBuyers" 126 (⟨"SecretBuyers$Book", "hasShop", "(I)Z"⟩ : MethodName) : Cond) ∈ qw_tbl := qt_2 (List.mem_of_getElem? (i := 225) rfl) rfl
theorem w_564 : (.instanceMethod (⟨"SecretBuyers$Book", "hasShop", "(I)Z"⟩ : MethodName) : Cond) ∈ qw_tbl := qt_2 (List.mem_of_getElem? (i := 226) rfl) rfl
theorem w_565 : (.selects "SecretBuyers$Book" (⟨"SecretBuyers$Book", "hasShop", "(I)Z"⟩ : MethodName) (⟨"SecretBuyers$Book", "hasShop", "(I)Z"⟩ : MethodName) : Cond) ∈ qw_tbl := qt_2 (List.mem_of_getElem? (i := 227) rfl) rfl
theorem w_566 : (.code (⟨"SecretBuyers$Book", "hasShop", "(I)Z"⟩ : MethodName) prog_2_method_2_code 2 (Option.some Jvm.ClassFile.FieldType.boolean) : Cond) ∈ qw_tbl := qt_2 (List.mem_of_getElem? (i := 228) rfl) rfl
theorem w_567 : (.methodLinkNest "SecretBuyers$Book" 64 (⟨"SecretBuyers", "isWithin", "(III)Z"⟩ : MethodName) "SecretBuyers" : Cond) ∈ lw_tbl := (fun h => List.mem_append_right _ (List.mem_append_right _ (List.mem_append_left _ h))) (List.mem_of_getElem? (l := tables_1_2) (i := 229) rfl)
theorem w_568 : (.methodLink "SecretBuyers" 129 (⟨"SecretBuyers$Book", "hasBuyer", "(I)Z"⟩ : MethodName) : Cond) ∈ qw_tbl := qt_2 (List.mem_of_getElem? (i := 230) rfl) rfl
theorem w_569 : (.instanceMethod (⟨"SecretBuyers$Book", "hasBuyer", "(I)Z"⟩ : MethodName) : Cond) ∈ qw_tbl := qt_2 (List.mem_of_getElem? (i := 231) rfl) rfl
theorem w_570 : (.selects "SecretBuyers$Book" (⟨"SecretBuyers$Book", "hasBuyer", "(I)Z"⟩ : MethodName) (⟨"SecretBuyers$Book", "hasBuyer", "(I)Z"⟩ : MethodName) : Cond) ∈ qw_tbl := qt_2 (List.mem_of_getElem? (i := 232) rfl) rfl
theorem w_571 : (.code (⟨"SecretBuyers$Book", "hasBuyer", "(I)Z"⟩ : MethodName) prog_2_method_3_code 2 (Option.some Jvm.ClassFile.FieldType.boolean) : Cond) ∈ qw_tbl := qt_2 (List.mem_of_getElem? (i := 233) rfl) rfl
theorem w_572 : (.methodLink "SecretBuyers" 135 (⟨"SecretBuyers$Book", "toldOf", "(II)I"⟩ : MethodName) : Cond) ∈ qw_tbl := qt_2 (List.mem_of_getElem? (i := 234) rfl) rfl
theorem w_573 : (.instanceMethod (⟨"SecretBuyers$Book", "toldOf", "(II)I"⟩ : MethodName) : Cond) ∈ qw_tbl := qt_2 (List.mem_of_getElem? (i := 235) rfl) rfl
theorem w_574 : (.selects "SecretBuyers$Book" (⟨"SecretBuyers$Book", "toldOf", "(II)I"⟩ : MethodName) (⟨"SecretBuyers$Book", "toldOf", "(II)I"⟩ : MethodName) : Cond) ∈ qw_tbl := qt_2 (List.mem_of_getElem? (i := 236) rfl) rfl
theorem w_575 : (.code (⟨"SecretBuyers$Book", "toldOf", "(II)I"⟩ : MethodName) prog_2_method_11_code 5 (Option.some Jvm.ClassFile.FieldType.int) : Cond) ∈ qw_tbl := qt_2 (List.mem_of_getElem? (i := 237) rfl) rfl
theorem w_576 : (.classLink "SecretBuyers" 139 "SecretBuyers$Visit" : Cond) ∈ qw_tbl := qt_2 (List.mem_of_getElem? (i := 238) rfl) rfl
theorem w_577 : (.instantiable "SecretBuyers$Visit" 15 : Cond) ∈ qw_tbl := qt_2 (List.mem_of_getElem? (i := 239) rfl) rfl
theorem w_578 : (.methodLink "SecretBuyers" 141 (⟨"SecretBuyers$Visit", "<init>", "(II)V"⟩ : MethodName) : Cond) ∈ qw_tbl := qt_3 (List.mem_of_getElem? (i := 0) rfl) rfl
theorem w_579 : (.instanceMethod (⟨"SecretBuyers$Visit", "<init>", "(II)V"⟩ : MethodName) : Cond) ∈ qw_tbl := qt_3 (List.mem_of_getElem? (i := 1) rfl) rfl
theorem w_580 : (.code (⟨"SecretBuyers$Visit", "<init>", "(II)V"⟩ : MethodName) prog_12_method_1_code 3 (Option.none : Option Jvm.ClassFile.FieldType) : Cond) ∈ qw_tbl := qt_3 (List.mem_of_getElem? (i := 2) rfl) rfl
theorem w_581 : (.methodLink "SecretBuyers$Visit" 3 (⟨"java/lang/Object", "<init>", "()V"⟩ : MethodName) : Cond) ∈ qw_tbl := qt_3 (List.mem_of_getElem? (i := 3) rfl) rfl
theorem w_582 : (.fieldLink "SecretBuyers$Visit" 9 "SecretBuyers$Visit" "number" "I" : Cond) ∈ qw_tbl := qt_3 (List.mem_of_getElem? (i := 4) rfl) rfl
theorem w_583 : (.fieldLink "SecretBuyers$Truth" 85 "SecretBuyers$Visit" "number" "I" : Cond) ∈ qw_tbl := qt_3 (List.mem_of_getElem? (i := 5) rfl) rfl
theorem w_584 : (.fieldLink "SecretBuyers" 153 "SecretBuyers$Visit" "number" "I" : Cond) ∈ qw_tbl := qt_3 (List.mem_of_getElem? (i := 6) rfl) rfl
theorem w_585 : (.fieldLink "SecretBuyers$Book" 117 "SecretBuyers$Visit" "number" "I" : Cond) ∈ qw_tbl := qt_3 (List.mem_of_getElem? (i := 7) rfl) rfl
theorem w_586 : (.fieldLink "SecretBuyers$Visit" 15 "SecretBuyers$Visit" "told" "I" : Cond) ∈ qw_tbl := qt_3 (List.mem_of_getElem? (i := 8) rfl) rfl
theorem w_587 : (.fieldLink "SecretBuyers$Book" 81 "SecretBuyers$Visit" "told" "I" : Cond) ∈ qw_tbl := qt_3 (List.mem_of_getElem? (i := 9) rfl) rfl
theorem w_588 : (.fieldLink "SecretBuyers" 167 "SecretBuyers$Visit" "told" "I" : Cond) ∈ qw_tbl := qt_3 (List.mem_of_getElem? (i := 10) rfl) rfl
theorem w_589 : (.fieldLink "SecretBuyers$Visit" 18 "SecretBuyers$Visit" "shop" "I" : Cond) ∈ qw_tbl := qt_3 (List.mem_of_getElem? (i := 11) rfl) rfl
theorem w_590 : (.fieldLink "SecretBuyers$Scorer" 53 "SecretBuyers$Visit" "shop" "I" : Cond) ∈ qw_tbl := qt_3 (List.mem_of_getElem? (i := 12) rfl) rfl
theorem w_591 : (.fieldLink "SecretBuyers$Means" 94 "SecretBuyers$Visit" "shop" "I" : Cond) ∈ qw_tbl := qt_3 (List.mem_of_getElem? (i := 13) rfl) rfl
theorem w_592 : (.fieldLink "SecretBuyers$Truth" 98 "SecretBuyers$Visit" "shop" "I" : Cond) ∈ qw_tbl := qt_3 (List.mem_of_getElem? (i := 14) rfl) rfl
theorem w_593 : (.fieldLink "SecretBuyers" 160 "SecretBuyers$Visit" "shop" "I" : Cond) ∈ qw_tbl := qt_3 (List.mem_of_getElem? (i := 15) rfl) rfl
theorem w_594 : (.fieldLink "SecretBuyers$Book" 123 "SecretBuyers$Visit" "shop" "I" : Cond) ∈ qw_tbl := qt_3 (List.mem_of_getElem? (i := 16) rfl) rfl
theorem w_595 : (.fieldLink "SecretBuyers$Visit" 21 "SecretBuyers$Visit" "buyer" "I" : Cond) ∈ qw_tbl := qt_3 (List.mem_of_getElem? (i := 17) rfl) rfl
theorem w_596 : (.fieldLink "SecretBuyers$Truth" 58 "SecretBuyers$Visit" "buyer" "I" : Cond) ∈ qw_tbl := qt_3 (List.mem_of_getElem? (i := 18) rfl) rfl
theorem w_597 : (.fieldLink "SecretBuyers$Means" 97 "SecretBuyers$Visit" "buyer" "I" : Cond) ∈ qw_tbl := qt_3 (List.mem_of_getElem? (i := 19) rfl) rfl
theorem w_598 : (.fieldLink "SecretBuyers$Book" 104 "SecretBuyers$Visit" "buyer" "I" : Cond) ∈ qw_tbl := qt_3 (List.mem_of_getElem? (i := 20) rfl) rfl
theorem w_599 : (.fieldLink "SecretBuyers" 368 "SecretBuyers$Visit" "buyer" "I" : Cond) ∈ qw_tbl := qt_3 (List.mem_of_getElem? (i := 21) rfl) rfl
theorem w_600 : (.fieldLink "SecretBuyers$Visit" 24 "SecretBuyers$Visit" "day" "I" : Cond) ∈ qw_tbl := qt_3 (List.mem_of_getElem? (i := 22) rfl) rfl
theorem w_601 : (.fieldLink "SecretBuyers$Truth" 61 "SecretBuyers$Visit" "day" "I" : Cond) ∈ qw_tbl := qt_3 (List.mem_of_getElem? (i := 23) rfl) rfl
theorem w_602 : (.fieldLink "SecretBuyers$Means" 114 "SecretBuyers$Visit" "day" "I" : Cond) ∈ qw_tbl := qt_3 (List.mem_of_getElem? (i := 24) rfl) rfl
theorem w_603 : (.fieldLink "SecretBuyers$Book" 107 "SecretBuyers$Visit" "day" "I" : Cond) ∈ qw_tbl := qt_3 (List.mem_of_getElem? (i := 25) rfl) rfl
theorem w_604 : (.fieldLink "SecretBuyers" 334 "SecretBuyers$Visit" "day" "I" : Cond) ∈ qw_tbl := qt_3 (List.mem_of_getElem? (i := 26) rfl) rfl
theorem w_605 : (.fieldLink "SecretBuyers$Visit" 27 "SecretBuyers$Visit" "minute" "I" : Cond) ∈ qw_tbl := qt_3 (List.mem_of_getElem? (i := 27) rfl) rfl
theorem w_606 : (.fieldLink "SecretBuyers$Scorer" 139 "SecretBuyers$Visit" "minute" "I" : Cond) ∈ qw_tbl := qt_3 (List.mem_of_getElem? (i := 28) rfl) rfl
theorem w_607 : (.fieldLink "SecretBuyers$Truth" 101 "SecretBuyers$Visit" "minute" "I" : Cond) ∈ qw_tbl := qt_3 (List.mem_of_getElem? (i := 29) rfl) rfl
theorem w_608 : (.fieldLink "SecretBuyers$Book" 114 "SecretBuyers$Visit" "minute" "I" : Cond) ∈ qw_tbl := qt_3 (List.mem_of_getElem? (i := 30) rfl) rfl
theorem w_609 : (.fieldLink "SecretBuyers$Visit" 30 "SecretBuyers$Visit" "minutes" "I" : Cond) ∈ qw_tbl := qt_3 (List.mem_of_getElem? (i := 31) rfl) rfl
theorem w_610 : (.fieldLink "SecretBuyers$Scorer" 136 "SecretBuyers$Visit" "minutes" "I" : Cond) ∈ qw_tbl := qt_3 (List.mem_of_getElem? (i := 32) rfl) rfl
theorem w_611 : (.fieldLink "SecretBuyers$Visit" 33 "SecretBuyers$Visit" "form" "I" : Cond) ∈ qw_tbl := qt_3 (List.mem_of_getElem? (i := 33) rfl) rfl
theorem w_612 : (.fieldLink "SecretBuyers$Book" 88 "SecretBuyers$Visit" "form" "I" : Cond) ∈ qw_tbl := qt_3 (List.mem_of_getElem? (i := 34) rfl) rfl
theorem w_613 : (.fieldLink "SecretBuyers$Visit" 39 "SecretBuyers$Visit" "receipt" "I" : Cond) ∈ qw_tbl := qt_3 (List.mem_of_getElem? (i := 35) rfl) rfl
theorem w_614 : (.fieldLink "SecretBuyers$Scorer" 142 "SecretBuyers$Visit" "receipt" "I" : Cond) ∈ qw_tbl := qt_3 (List.mem_of_getElem? (i := 36) rfl) rfl
theorem w_615 : (.fieldLink "SecretBuyers$Truth" 115 "SecretBuyers$Visit" "receipt" "I" : Cond) ∈ qw_tbl := qt_3 (List.mem_of_getElem? (i := 37) rfl) rfl
theorem w_616 : (.fieldLink "SecretBuyers$Visit" 36 "SecretBuyers$Visit" "seenForm" "I" : Cond) ∈ qw_tbl := qt_3 (List.mem_of_getElem? (i := 38) rfl) rfl
theorem w_617 : (.fieldLink "SecretBuyers$Scorer" 68 "SecretBuyers$Visit" "seenForm" "I" : Cond) ∈ qw_tbl := qt_3 (List.mem_of_getElem? (i := 39) rfl) rfl
theorem w_618 : (.fieldLink "SecretBuyers$Truth" 122 "SecretBuyers$Visit" "seenForm" "I" : Cond) ∈ qw_tbl := qt_3 (List.mem_of_getElem? (i := 40) rfl) rfl
theorem w_619 : (.fieldLink "SecretBuyers$Book" 91 "SecretBuyers$Visit" "seenForm" "I" : Cond) ∈ qw_tbl := qt_3 (List.mem_of_getElem? (i := 41) rfl) rfl
theorem w_620 : (.fieldLink "SecretBuyers" 217 "SecretBuyers$Visit" "seenForm" "I" : Cond) ∈ qw_tbl := qt_3 (List.mem_of_getElem? (i := 42) rfl) rfl
theorem w_621 : (.fieldLink "SecretBuyers$Truth" 55 "SecretBuyers$Visit" "state" "I" : Cond) ∈ qw_tbl := qt_3 (List.mem_of_getElem? (i := 43) rfl) rfl
theorem w_622 : (.fieldLink "SecretBuyers$Visit" 42 "SecretBuyers$Visit" "state" "I" : Cond) ∈ qw_tbl := qt_3 (List.mem_of_getElem? (i := 44) rfl) rfl
theorem w_623 : (.fieldLink "SecretBuyers" 223 "SecretBuyers$Visit" "state" "I" : Cond) ∈ qw_tbl := qt_3 (List.mem_of_getElem? (i := 45) rfl) rfl
theorem w_624 : (.fieldLink "SecretBuyers$Scorer" 91 "SecretBuyers$Visit" "score" "I" : Cond) ∈ qw_tbl := qt_3 (List.mem_of_getElem? (i := 46) rfl) rfl
theorem w_625 : (.fieldLink "SecretBuyers$Means" 104 "SecretBuyers$Visit" "score" "I" : Cond) ∈ qw_tbl := qt_3 (List.mem_of_getElem? (i := 47) rfl) rfl
theorem w_626 : (.fieldLink "SecretBuyers" 231 "SecretBuyers$Visit" "score" "I" : Cond) ∈ qw_tbl := qt_3 (List.mem_of_getElem? (i := 48) rfl) rfl
theorem w_627 : (.fieldLink "SecretBuyers$Scorer" 97 "SecretBuyers$Visit" "bonus" "I" : Cond) ∈ qw_tbl := qt_3 (List.mem_of_getElem? (i := 49) rfl) rfl
theorem w_628 : (.fieldLink "SecretBuyers" 234 "SecretBuyers$Visit" "bonus" "I" : Cond) ∈ qw_tbl := qt_3 (List.mem_of_getElem? (i := 50) rfl) rfl
theorem w_629 : (.fieldLink "SecretBuyers$Scorer" 58 "SecretBuyers$Visit" "before" "I" : Cond) ∈ qw_tbl := qt_3 (List.mem_of_getElem? (i := 51) rfl) rfl
theorem w_630 : (.fieldLink "SecretBuyers$Scorer" 65 "SecretBuyers$Visit" "brief" "I" : Cond) ∈ qw_tbl := qt_3 (List.mem_of_getElem? (i := 52) rfl) rfl
theorem w_631 : (.fieldLink "SecretBuyers" 237 "SecretBuyers$Visit" "brief" "I" : Cond) ∈ qw_tbl := qt_3 (List.mem_of_getElem? (i := 53) rfl) rfl
theorem w_632 : (.laysFinal "SecretBuyers$Visit" "SecretBuyers$Visit" "number" "I" : Cond) ∈ qw_tbl := qt_3 (List.mem_of_getElem? (i := 54) rfl) rfl
theorem w_633 : (.soleField "SecretBuyers$Visit" "number" : Cond) ∈ qw_tbl := qt_3 (List.mem_of_getElem? (i := 55) rfl) rfl
theorem w_634 : (.laysFinal "SecretBuyers$Visit" "SecretBuyers$Visit" "told" "I" : Cond) ∈ qw_tbl := qt_3 (List.mem_of_getElem? (i := 56) rfl) rfl
theorem w_635 : (.soleField "SecretBuyers$Visit" "told" : Cond) ∈ qw_tbl := qt_3 (List.mem_of_getElem? (i := 57) rfl) rfl
theorem w_636 : (.lays "SecretBuyers$Visit" "SecretBuyers$Visit" "shop" "I" : Cond) ∈ qw_tbl := qt_3 (List.mem_of_getElem? (i := 58) rfl) rfl
theorem w_637 : (.soleField "SecretBuyers$Visit" "shop" : Cond) ∈ qw_tbl := qt_3 (List.mem_of_getElem? (i := 59) rfl) rfl
theorem w_638 : (.lays "SecretBuyers$Visit" "SecretBuyers$Visit" "buyer" "I" : Cond) ∈ qw_tbl := qt_3 (List.mem_of_getElem? (i := 60) rfl) rfl
theorem w_639 : (.soleField "SecretBuyers$Visit" "buyer" : Cond) ∈ qw_tbl := qt_3 (List.mem_of_getElem? (i := 61) rfl) rfl
theorem w_640 : (.lays "SecretBuyers$Visit" "SecretBuyers$Visit" "day" "I" : Cond) ∈ qw_tbl := qt_3 (List.mem_of_getElem? (i := 62) rfl) rfl
theorem w_641 : (.soleField "SecretBuyers$Visit" "day" : Cond) ∈ qw_tbl := qt_3 (List.mem_of_getElem? (i := 63) rfl) rfl
theorem w_642 : (.lays "SecretBuyers$Visit" "SecretBuyers$Visit" "minute" "I" : Cond) ∈ qw_tbl := qt_3 (List.mem_of_getElem? (i := 64) rfl) rfl
theorem w_643 : (.soleField "SecretBuyers$Visit" "minute" : Cond) ∈ qw_tbl := qt_3 (List.mem_of_getElem? (i := 65) rfl) rfl
theorem w_644 : (.lays "SecretBuyers$Visit" "SecretBuyers$Visit" "minutes" "I" : Cond) ∈ qw_tbl := qt_3 (List.mem_of_getElem? (i := 66) rfl) rfl
theorem w_645 : (.soleField "SecretBuyers$Visit" "minutes" : Cond) ∈ qw_tbl := qt_3 (List.mem_of_getElem? (i := 67) rfl) rfl
theorem w_646 : (.lays "SecretBuyers$Visit" "SecretBuyers$Visit" "form" "I" : Cond) ∈ qw_tbl := qt_3 (List.mem_of_getElem? (i := 68) rfl) rfl
theorem w_647 : (.soleField "SecretBuyers$Visit" "form" : Cond) ∈ qw_tbl := qt_3 (List.mem_of_getElem? (i := 69) rfl) rfl
theorem w_648 : (.lays "SecretBuyers$Visit" "SecretBuyers$Visit" "receipt" "I" : Cond) ∈ qw_tbl := qt_3 (List.mem_of_getElem? (i := 70) rfl) rfl
theorem w_649 : (.soleField "SecretBuyers$Visit" "receipt" : Cond) ∈ qw_tbl := qt_3 (List.mem_of_getElem? (i := 71) rfl) rfl
theorem w_650 : (.lays "SecretBuyers$Visit" "SecretBuyers$Visit" "seenForm" "I" : Cond) ∈ qw_tbl := qt_3 (List.mem_of_getElem? (i := 72) rfl) rfl
theorem w_651 : (.soleField "SecretBuyers$Visit" "seenForm" : Cond) ∈ qw_tbl := qt_3 (List.mem_of_getElem? (i := 73) rfl) rfl
theorem w_652 : (.lays "SecretBuyers$Visit" "SecretBuyers$Visit" "state" "I" : Cond) ∈ qw_tbl := qt_3 (List.mem_of_getElem? (i := 74) rfl) rfl
theorem w_653 : (.soleField "SecretBuyers$Visit" "state" : Cond) ∈ qw_tbl := qt_3 (List.mem_of_getElem? (i := 75) rfl) rfl
theorem w_654 : (.lays "SecretBuyers$Visit" "SecretBuyers$Visit" "score" "I" : Cond) ∈ qw_tbl := qt_3 (List.mem_of_getElem? (i := 76) rfl) rfl
theorem w_655 : (.soleField "SecretBuyers$Visit" "score" : Cond) ∈ qw_tbl := qt_3 (List.mem_of_getElem? (i := 77) rfl) rfl
theorem w_656 : (.lays "SecretBuyers$Visit" "SecretBuyers$Visit" "bonus" "I" : Cond) ∈ qw_tbl := qt_3 (List.mem_of_getElem? (i := 78) rfl) rfl
theorem w_657 : (.soleField "SecretBuyers$Visit" "bonus" : Cond) ∈ qw_tbl := qt_3 (List.mem_of_getElem? (i := 79) rfl) rfl
theorem w_658 : (.lays "SecretBuyers$Visit" "SecretBuyers$Visit" "before" "I" : Cond) ∈ qw_tbl := qt_3 (List.mem_of_getElem? (i := 80) rfl) rfl
theorem w_659 : (.soleField "SecretBuyers$Visit" "before" : Cond) ∈ qw_tbl := qt_3 (List.mem_of_getElem? (i := 81) rfl) rfl
theorem w_660 : (.lays "SecretBuyers$Visit" "SecretBuyers$Visit" "brief" "I" : Cond) ∈ qw_tbl := qt_3 (List.mem_of_getElem? (i := 82) rfl) rfl
theorem w_661 : (.soleField "SecretBuyers$Visit" "brief" : Cond) ∈ qw_tbl := qt_3 (List.mem_of_getElem? (i := 83) rfl) rfl
theorem w_663 : (.methodLink "SecretBuyers" 142 (⟨"SecretBuyers$Visit", "goes", "(IIIII)V"⟩ : MethodName) : Cond) ∈ qw_tbl := qt_3 (List.mem_of_getElem? (i := 85) rfl) rfl
theorem w_664 : (.instanceMethod (⟨"SecretBuyers$Visit", "goes", "(IIIII)V"⟩ : MethodName) : Cond) ∈ qw_tbl := qt_3 (List.mem_of_getElem? (i := 86) rfl) rfl
theorem w_665 : (.selects "SecretBuyers$Visit" (⟨"SecretBuyers$Visit", "goes", "(IIIII)V"⟩ : MethodName) (⟨"SecretBuyers$Visit", "goes", "(IIIII)V"⟩ : MethodName) : Cond) ∈ qw_tbl := qt_3 (List.mem_of_getElem? (i := 87) rfl) rfl
theorem w_666 : (.code (⟨"SecretBuyers$Visit", "goes", "(IIIII)V"⟩ : MethodName) prog_12_method_2_code 6 (Option.none : Option Jvm.ClassFile.FieldType) : Cond) ∈ qw_tbl := qt_3 (List.mem_of_getElem? (i := 88) rfl) rfl
theorem w_667 : (.methodLink "SecretBuyers" 146 (⟨"SecretBuyers$Visit", "tells", "(II)V"⟩ : MethodName) : Cond) ∈ qw_tbl := qt_3 (List.mem_of_getElem? (i := 89) rfl) rfl
theorem w_668 : (.instanceMethod (⟨"SecretBuyers$Visit", "tells", "(II)V"⟩ : MethodName) : Cond) ∈ qw_tbl := qt_3 (List.mem_of_getElem? (i := 90) rfl) rfl
theorem w_669 : (.selects "SecretBuyers$Visit" (⟨"SecretBuyers$Visit", "tells", "(II)V"⟩ : MethodName) (⟨"SecretBuyers$Visit", "tells", "(II)V"⟩ : MethodName) : Cond) ∈ qw_tbl := qt_3 (List.mem_of_getElem? (i := 91) rfl) rfl
theorem w_670 : (.code (⟨"SecretBuyers$Visit", "tells", "(II)V"⟩ : MethodName) prog_12_method_3_code 3 (Option.none : Option Jvm.ClassFile.FieldType) : Cond) ∈ qw_tbl := qt_3 (List.mem_of_getElem? (i := 92) rfl) rfl
theorem w_671 : (.methodLink "SecretBuyers" 149 (⟨"SecretBuyers$Book", "keepVisit", "(LSecretBuyers$Visit;)V"⟩ : MethodName) : Cond) ∈ qw_tbl := qt_3 (List.mem_of_getElem? (i := 93) rfl) rfl
theorem w_672 : (.instanceMethod (⟨"SecretBuyers$Book", "keepVisit", "(LSecretBuyers$Visit;)V"⟩ : MethodName) : Cond) ∈ qw_tbl := qt_3 (List.mem_of_getElem? (i := 94) rfl) rfl
theorem w_673 : (.selects "SecretBuyers$Book" (⟨"SecretBuyers$Book", "keepVisit", "(LSecretBuyers$Visit;)V"⟩ : MethodName) (⟨"SecretBuyers$Book", "keepVisit", "(LSecretBuyers$Visit;)V"⟩ : MethodName) : Cond) ∈ qw_tbl := qt_3 (List.mem_of_getElem? (i := 95) rfl) rfl
theorem w_674 : (.code (⟨"SecretBuyers$Book", "keepVisit", "(LSecretBuyers$Visit;)V"⟩ : MethodName) prog_2_method_12_code 3 (Option.none : Option Jvm.ClassFile.FieldType) : Cond) ∈ qw_tbl := qt_3 (List.mem_of_getElem? (i := 96) rfl) rfl
theorem w_675 : (.methodLink "SecretBuyers$Book" 110 (⟨"SecretBuyers$Book", "isLater", "(LSecretBuyers$Visit;LSecretBuyers$Visit;)Z"⟩ : MethodName) : Cond) ∈ qw_tbl := qt_3 (List.mem_of_getElem? (i := 97) rfl) rfl
theorem w_676 : (.static (⟨"SecretBuyers$Book", "isLater", "(LSecretBuyers$Visit;LSecretBuyers$Visit;)Z"⟩ : MethodName) : Cond) ∈ qw_tbl := qt_3 (List.mem_of_getElem? (i := 98) rfl) rfl
theorem w_677 : (.code (⟨"SecretBuyers$Book", "isLater", "(LSecretBuyers$Visit;LSecretBuyers$Visit;)Z"⟩ : MethodName) prog_2_method_13_code 2 (Option.some Jvm.ClassFile.FieldType.boolean) : Cond) ∈ qw_tbl := qt_3 (List.mem_of_getElem? (i := 99) rfl) rfl
theorem w_678 : (.methodLink "SecretBuyersLaw" 63 (⟨"SecretBuyers", "appeal", "(II)Z"⟩ : MethodName) : Cond) ∈ qw_tbl := qt_3 (List.mem_of_getElem? (i := 100) rfl) rfl
theorem w_679 : (.instanceMethod (⟨"SecretBuyers", "appeal", "(II)Z"⟩ : MethodName) : Cond) ∈ qw_tbl := qt_3 (List.mem_of_getElem? (i := 101) rfl) rfl
theorem w_680 : (.selects "SecretBuyers" (⟨"SecretBuyers", "appeal", "(II)Z"⟩ : MethodName) (⟨"SecretBuyers", "appeal", "(II)Z"⟩ : MethodName) : Cond) ∈ qw_tbl := qt_3 (List.mem_of_getElem? (i := 102) rfl) rfl
theorem w_681 : (.code (⟨"SecretBuyers", "appeal", "(II)Z"⟩ : MethodName) prog_1_method_9_code 4 (Option.some Jvm.ClassFile.FieldType.boolean) : Cond) ∈ qw_tbl := qt_3 (List.mem_of_getElem? (i := 103) rfl) rfl
theorem w_682 : (.methodLink "SecretBuyers" 173 (⟨"SecretBuyers$Book", "keepAppeal", "(LSecretBuyers$Visit;I)V"⟩ : MethodName) : Cond) ∈ qw_tbl := qt_3 (List.mem_of_getElem? (i := 104) rfl) rfl
theorem w_683 : (.instanceMethod (⟨"SecretBuyers$Book", "keepAppeal", "(LSecretBuyers$Visit;I)V"⟩ : MethodName) : Cond) ∈ qw_tbl := qt_3 (List.mem_of_getElem? (i := 105) rfl) rfl
theorem w_684 : (.selects "SecretBuyers$Book" (⟨"SecretBuyers$Book", "keepAppeal", "(LSecretBuyers$Visit;I)V"⟩ : MethodName) (⟨"SecretBuyers$Book", "keepAppeal", "(LSecretBuyers$Visit;I)V"⟩ : MethodName) : Cond) ∈ qw_tbl := qt_3 (List.mem_of_getElem? (i := 106) rfl) rfl
theorem w_685 : (.code (⟨"SecretBuyers$Book", "keepAppeal", "(LSecretBuyers$Visit;I)V"⟩ : MethodName) prog_2_method_14_code 3 (Option.none : Option Jvm.ClassFile.FieldType) : Cond) ∈ qw_tbl := qt_3 (List.mem_of_getElem? (i := 107) rfl) rfl
theorem w_686 : (.methodLink "SecretBuyersLaw" 69 (⟨"SecretBuyers", "feed", "(JJJ)I"⟩ : MethodName) : Cond) ∈ qw_tbl := qt_3 (List.mem_of_getElem? (i := 108) rfl) rfl
theorem w_687 : (.instanceMethod (⟨"SecretBuyers", "feed", "(JJJ)I"⟩ : MethodName) : Cond) ∈ qw_tbl := qt_3 (List.mem_of_getElem? (i := 109) rfl) rfl
theorem w_688 : (.selects "SecretBuyers" (⟨"SecretBuyers", "feed", "(JJJ)I"⟩ : MethodName) (⟨"SecretBuyers", "feed", "(JJJ)I"⟩ : MethodName) : Cond) ∈ qw_tbl := qt_3 (List.mem_of_getElem? (i := 110) rfl) rfl
theorem w_689 : (.code (⟨"SecretBuyers", "feed", "(JJJ)I"⟩ : MethodName) prog_1_method_10_code 7 (Option.some Jvm.ClassFile.FieldType.int) : Cond) ∈ qw_tbl := qt_3 (List.mem_of_getElem? (i := 111) rfl) rfl
theorem w_690 : (.methodLink "SecretBuyers" 177 (⟨"SecretBuyers$Tape", "addBytes", "(J)V"⟩ : MethodName) : Cond) ∈ qw_tbl := qt_3 (List.mem_of_getElem? (i := 112) rfl) rfl
theorem w_691 : (.instanceMethod (⟨"SecretBuyers$Tape", "addBytes", "(J)V"⟩ : MethodName) : Cond) ∈ qw_tbl := qt_3 (List.mem_of_getElem? (i := 113) rfl) rfl
theorem w_692 : (.selects "SecretBuyers$Tape" (⟨"SecretBuyers$Tape", "addBytes", "(J)V"⟩ : MethodName) (⟨"SecretBuyers$Tape", "addBytes", "(J)V"⟩ : MethodName) : Cond) ∈ qw_tbl := qt_3 (List.mem_of_getElem? (i := 114) rfl) rfl
theorem w_693 : (.code (⟨"SecretBuyers$Tape", "addBytes", "(J)V"⟩ : MethodName) prog_10_method_2_code 6 (Option.none : Option Jvm.ClassFile.FieldType) : Cond) ∈ qw_tbl := qt_3 (List.mem_of_getElem? (i := 115) rfl) rfl
theorem w_694 : (.methodLinkNest "SecretBuyers$Tape" 15 (⟨"SecretBuyers", "isWithin", "(III)Z"⟩ : MethodName) "SecretBuyers" : Cond) ∈ lw_tbl := (fun h => List.mem_append_right _ (List.mem_append_right _ (List.mem_append_right _ (List.mem_append_left _ h)))) (List.mem_of_getElem? (l := tables_1_3) (i := 116) rfl)
theorem w_695 : (.methodLink "SecretBuyersLaw" 74 (⟨"SecretBuyers", "brief", "(II)I"⟩ : MethodName) : Cond) ∈ qw_tbl := qt_3 (List.mem_of_getElem? (i := 117) rfl) rfl
theorem w_696 : (.instanceMethod (⟨"SecretBuyers", "brief", "(II)I"⟩ : MethodName) : Cond) ∈ qw_tbl := qt_3 (List.mem_of_getElem? (i := 118) rfl) rfl
theorem w_697 : (.selects "SecretBuyers" (⟨"SecretBuyers", "brief", "(II)I"⟩ : MethodName) (⟨"SecretBuyers", "brief", "(II)I"⟩ : MethodName) : Cond) ∈ qw_tbl := qt_3 (List.mem_of_getElem? (i := 119) rfl) rfl
theorem w_698 : (.code (⟨"SecretBuyers", "brief", "(II)I"⟩ : MethodName) prog_1_method_11_code 4 (Option.some Jvm.ClassFile.FieldType.int) : Cond) ∈ qw_tbl := qt_3 (List.mem_of_getElem? (i := 120) rfl) rfl
theorem w_699 : (.methodLink "SecretBuyers" 184 (⟨"SecretBuyers", "isDay", "(I)Z"⟩ : MethodName) : Cond) ∈ qw_tbl := qt_3 (List.mem_of_getElem? (i := 121) rfl) rfl
theorem w_700 : (.static (⟨"SecretBuyers", "isDay", "(I)Z"⟩ : MethodName) : Cond) ∈ qw_tbl := qt_3 (List.mem_of_getElem? (i := 122) rfl) rfl
theorem w_701 : (.code (⟨"SecretBuyers", "isDay", "(I)Z"⟩ : MethodName) prog_1_method_34_code 1 (Option.some Jvm.ClassFile.FieldType.boolean) : Cond) ∈ qw_tbl := qt_3 (List.mem_of_getElem? (i := 123) rfl) rfl
theorem w_702 : (.methodLink "SecretBuyers" 190 (⟨"SecretBuyers$Reader", "readBrief", "()I"⟩ : MethodName) : Cond) ∈ qw_tbl := qt_3 (List.mem_of_getElem? (i := 124) rfl) rfl
theorem w_703 : (.instanceMethod (⟨"SecretBuyers$Reader", "readBrief", "()I"⟩ : MethodName) : Cond) ∈ qw_tbl := qt_3 (List.mem_of_getElem? (i := 125) rfl) rfl
theorem w_704 : (.selects "SecretBuyers$Reader" (⟨"SecretBuyers$Reader", "readBrief", "()I"⟩ : MethodName) (⟨"SecretBuyers$Reader", "readBrief", "()I"⟩ : MethodName) : Cond) ∈ qw_tbl := qt_3 (List.mem_of_getElem? (i := 126) rfl) rfl
theorem w_705 : (.code (⟨"SecretBuyers$Reader", "readBrief", "()I"⟩ : MethodName) prog_7_method_3_code 3 (Option.some Jvm.ClassFile.FieldType.int) : Cond) ∈ qw_tbl := qt_3 (List.mem_of_getElem? (i := 127) rfl) rfl
theorem w_706 : (.methodLink "SecretBuyers$Reader" 39 (⟨"SecretBuyers$Tape", "rewind", "()V"⟩ : MethodName) : Cond) ∈ qw_tbl := qt_3 (List.mem_of_getElem? (i := 128) rfl) rfl
theorem w_707 : (.instanceMethod (⟨"SecretBuyers$Tape", "rewind", "()V"⟩ : MethodName) : Cond) ∈ qw_tbl := qt_3 (List.mem_of_getElem? (i := 129) rfl) rfl
theorem w_708 : (.selects "SecretBuyers$Tape" (⟨"SecretBuyers$Tape", "rewind", "()V"⟩ : MethodName) (⟨"SecretBuyers$Tape", "rewind", "()V"⟩ : MethodName) : Cond) ∈ qw_tbl := qt_3 (List.mem_of_getElem? (i := 130) rfl) rfl
theorem w_709 : (.code (⟨"SecretBuyers$Tape", "rewind", "()V"⟩ : MethodName) prog_10_method_3_code 1 (Option.none : Option Jvm.ClassFile.FieldType) : Cond) ∈ qw_tbl := qt_3 (List.mem_of_getElem? (i := 131) rfl) rfl
theorem w_710 : (.methodLink "SecretBuyers$Tape" 26 (⟨"SecretBuyers$Tape", "step", "()V"⟩ : MethodName) : Cond) ∈ qw_tbl := qt_3 (List.mem_of_getElem? (i := 132) rfl) rfl
theorem w_711 : (.instanceMethod (⟨"SecretBuyers$Tape", "step", "()V"⟩ : MethodName) : Cond) ∈ qw_tbl := qt_3 (List.mem_of_getElem? (i := 133) rfl) rfl
theorem w_712 : (.selects "SecretBuyers$Tape" (⟨"SecretBuyers$Tape", "step", "()V"⟩ : MethodName) (⟨"SecretBuyers$Tape", "step", "()V"⟩ : MethodName) : Cond) ∈ qw_tbl := qt_3 (List.mem_of_getElem? (i := 134) rfl) rfl
theorem w_713 : (.code (⟨"SecretBuyers$Tape", "step", "()V"⟩ : MethodName) prog_10_method_4_code 1 (Option.none : Option Jvm.ClassFile.FieldType) : Cond) ∈ qw_tbl := qt_3 (List.mem_of_getElem? (i := 135) rfl) rfl
theorem w_714 : (.methodLink "SecretBuyers$Tape" 29 (⟨"SecretBuyers$Tape", "isBlank", "(I)Z"⟩ : MethodName) : Cond) ∈ qw_tbl := qt_3 (List.mem_of_getElem? (i := 136) rfl) rfl
theorem w_715 : (.static (⟨"SecretBuyers$Tape", "isBlank", "(I)Z"⟩ : MethodName) : Cond) ∈ qw_tbl := qt_3 (List.mem_of_getElem? (i := 137) rfl) rfl
theorem w_716 : (.code (⟨"SecretBuyers$Tape", "isBlank", "(I)Z"⟩ : MethodName) prog_10_method_7_code 1 (Option.some Jvm.ClassFile.FieldType.boolean) : Cond) ∈ qw_tbl := qt_3 (List.mem_of_getElem? (i := 138) rfl) rfl
theorem w_717 : (.methodLink "SecretBuyers$Tape" 39 (⟨"SecretBuyers$Tape", "isLetter", "(I)Z"⟩ : MethodName) : Cond) ∈ qw_tbl := qt_3 (List.mem_of_getElem? (i := 139) rfl) rfl
theorem w_718 : (.static (⟨"SecretBuyers$Tape", "isLetter", "(I)Z"⟩ : MethodName) : Cond) ∈ qw_tbl := qt_3 (List.mem_of_getElem? (i := 140) rfl) rfl
theorem w_719 : (.code (⟨"SecretBuyers$Tape", "isLetter", "(I)Z"⟩ : MethodName) prog_10_method_8_code 1 (Option.some Jvm.ClassFile.FieldType.boolean) : Cond) ∈ qw_tbl := qt_3 (List.mem_of_getElem? (i := 141) rfl) rfl
theorem w_720 : (.methodLink "SecretBuyers$Tape" 42 (⟨"SecretBuyers$Tape", "stepWord", "()V"⟩ : MethodName) : Cond) ∈ qw_tbl := qt_3 (List.mem_of_getElem? (i := 142) rfl) rfl
theorem w_722 : (.instanceMethod (⟨"SecretBuyers$Tape", "stepWord", "()V"⟩ : MethodName) : Cond) ∈ qw_tbl := qt_3 (List.mem_of_getElem? (i := 144) rfl) rfl
theorem w_723 : (.code (⟨"SecretBuyers$Tape", "stepWord", "()V"⟩ : MethodName) prog_10_method_5_code 1 (Option.none : Option Jvm.ClassFile.FieldType) : Cond) ∈ qw_tbl := qt_3 (List.mem_of_getElem? (i := 145) rfl) rfl
theorem w_724 : (.methodLink "SecretBuyers$Tape" 59 (⟨"SecretBuyers$Tape", "kindOfWord", "()I"⟩ : MethodName) : Cond) ∈ qw_tbl := qt_3 (List.mem_of_getElem? (i := 146) rfl) rfl
theorem w_726 : (.instanceMethod (⟨"SecretBuyers$Tape", "kindOfWord", "()I"⟩ : MethodName) : Cond) ∈ qw_tbl := qt_3 (List.mem_of_getElem? (i := 148) rfl) rfl
theorem w_727 : (.code (⟨"SecretBuyers$Tape", "kindOfWord", "()I"⟩ : MethodName) prog_10_method_11_code 2 (Option.some Jvm.ClassFile.FieldType.int) : Cond) ∈ qw_tbl := qt_3 (List.mem_of_getElem? (i := 149) rfl) rfl
theorem w_728 : (.fieldLinkNest "SecretBuyers$Tape" 66 "SecretBuyers" "WORDS" "[J" "SecretBuyers" : Cond) ∈ lw_tbl := (fun h => List.mem_append_right _ (List.mem_append_right _ (List.mem_append_right _ (List.mem_append_left _ h)))) (List.mem_of_getElem? (l := tables_1_3) (i := 150) rfl)
theorem w_729 : (.laysStatic "SecretBuyers" "WORDS" "[J" : Cond) ∈ lw_tbl := (fun h => List.mem_append_right _ (List.mem_append_right _ (List.mem_append_right _ (List.mem_append_left _ h)))) (List.mem_of_getElem? (l := tables_1_3) (i := 151) rfl)
theorem w_730 : (.methodLink "SecretBuyers$Tape" 45 (⟨"SecretBuyers$Tape", "isDigit", "(I)Z"⟩ : MethodName) : Cond) ∈ qw_tbl := qt_3 (List.mem_of_getElem? (i := 152) rfl) rfl
theorem w_731 : (.static (⟨"SecretBuyers$Tape", "isDigit", "(I)Z"⟩ : MethodName) : Cond) ∈ qw_tbl := qt_3 (List.mem_of_getElem? (i := 153) rfl) rfl
theorem w_732 : (.code (⟨"SecretBuyers$Tape", "isDigit", "(I)Z"⟩ : MethodName) prog_10_method_9_code 1 (Option.some Jvm.ClassFile.FieldType.boolean) : Cond) ∈ qw_tbl := qt_3 (List.mem_of_getElem? (i := 154) rfl) rfl
theorem w_733 : (.methodLink "SecretBuyers$Tape" 48 (⟨"SecretBuyers$Tape", "stepNumber", "()V"⟩ : MethodName) : Cond) ∈ qw_tbl := qt_3 (List.mem_of_getElem? (i := 155) rfl) rfl
theorem w_735 : (.instanceMethod (⟨"SecretBuyers$Tape", "stepNumber", "()V"⟩ : MethodName) : Cond) ∈ qw_tbl := qt_3 (List.mem_of_getElem? (i := 157) rfl) rfl
theorem w_736 : (.code (⟨"SecretBuyers$Tape", "stepNumber", "()V"⟩ : MethodName) prog_10_method_6_code 1 (Option.none : Option Jvm.ClassFile.FieldType) : Cond) ∈ qw_tbl := qt_3 (List.mem_of_getElem? (i := 158) rfl) rfl
theorem w_737 : (.methodLink "SecretBuyers$Tape" 51 (⟨"SecretBuyers$Tape", "kindOfSign", "(I)I"⟩ : MethodName) : Cond) ∈ qw_tbl := qt_3 (List.mem_of_getElem? (i := 159) rfl) rfl
theorem w_738 : (.static (⟨"SecretBuyers$Tape", "kindOfSign", "(I)I"⟩ : MethodName) : Cond) ∈ qw_tbl := qt_3 (List.mem_of_getElem? (i := 160) rfl) rfl
theorem w_739 : (.code (⟨"SecretBuyers$Tape", "kindOfSign", "(I)I"⟩ : MethodName) prog_10_method_10_code 1 (Option.some Jvm.ClassFile.FieldType.int) : Cond) ∈ qw_tbl := qt_3 (List.mem_of_getElem? (i := 161) rfl) rfl
theorem w_740 : (.methodLink "SecretBuyers$Reader" 47 (⟨"SecretBuyers$Reader", "fail", "(I)V"⟩ : MethodName) : Cond) ∈ qw_tbl := qt_3 (List.mem_of_getElem? (i := 162) rfl) rfl
theorem w_742 : (.instanceMethod (⟨"SecretBuyers$Reader", "fail", "(I)V"⟩ : MethodName) : Cond) ∈ qw_tbl := qt_3 (List.mem_of_getElem? (i := 164) rfl) rfl
theorem w_743 : (.code (⟨"SecretBuyers$Reader", "fail", "(I)V"⟩ : MethodName) prog_7_method_15_code 2 (Option.none : Option Jvm.ClassFile.FieldType) : Cond) ∈ qw_tbl := qt_3 (List.mem_of_getElem? (i := 165) rfl) rfl
theorem w_744 : (.methodLink "SecretBuyers$Reader" 51 (⟨"SecretBuyers$Tape", "step", "()V"⟩ : MethodName) : Cond) ∈ qw_tbl := qt_3 (List.mem_of_getElem? (i := 166) rfl) rfl
theorem w_745 : (.methodLink "SecretBuyers$Reader" 54 (⟨"SecretBuyers$Reader", "readLet", "()V"⟩ : MethodName) : Cond) ∈ qw_tbl := qt_3 (List.mem_of_getElem? (i := 167) rfl) rfl
theorem w_747 : (.instanceMethod (⟨"SecretBuyers$Reader", "readLet", "()V"⟩ : MethodName) : Cond) ∈ qw_tbl := qt_3 (List.mem_of_getElem? (i := 169) rfl) rfl
theorem w_748 : (.code (⟨"SecretBuyers$Reader", "readLet", "()V"⟩ : MethodName) prog_7_method_5_code 3 (Option.none : Option Jvm.ClassFile.FieldType) : Cond) ∈ qw_tbl := qt_3 (List.mem_of_getElem? (i := 170) rfl) rfl
theorem w_749 : (.methodLink "SecretBuyers$Reader" 73 (⟨"SecretBuyers$Reader", "nameIndex", "()I"⟩ : MethodName) : Cond) ∈ qw_tbl := qt_3 (List.mem_of_getElem? (i := 171) rfl) rfl
theorem w_751 : (.instanceMethod (⟨"SecretBuyers$Reader", "nameIndex", "()I"⟩ : MethodName) : Cond) ∈ qw_tbl := qt_3 (List.mem_of_getElem? (i := 173) rfl) rfl
theorem w_752 : (.code (⟨"SecretBuyers$Reader", "nameIndex", "()I"⟩ : MethodName) prog_7_method_13_code 2 (Option.some Jvm.ClassFile.FieldType.int) : Cond) ∈ qw_tbl := qt_3 (List.mem_of_getElem? (i := 174) rfl) rfl
theorem w_753 : (.methodLink "SecretBuyers$Reader" 67 (⟨"SecretBuyers$Reader", "pass", "(I)V"⟩ : MethodName) : Cond) ∈ qw_tbl := qt_3 (List.mem_of_getElem? (i := 175) rfl) rfl
theorem w_755 : (.instanceMethod (⟨"SecretBuyers$Reader", "pass", "(I)V"⟩ : MethodName) : Cond) ∈ qw_tbl := qt_3 (List.mem_of_getElem? (i := 177) rfl) rfl
theorem w_756 : (.code (⟨"SecretBuyers$Reader", "pass", "(I)V"⟩ : MethodName) prog_7_method_14_code 2 (Option.none : Option Jvm.ClassFile.FieldType) : Cond) ∈ qw_tbl := qt_3 (List.mem_of_getElem? (i := 178) rfl) rfl
theorem w_757 : (.methodLink "SecretBuyers$Reader" 63 (⟨"SecretBuyers$Reader", "readLevel", "(II)V"⟩ : MethodName) : Cond) ∈ qw_tbl := qt_3 (List.mem_of_getElem? (i := 179) rfl) rfl
theorem w_759 : (.instanceMethod (⟨"SecretBuyers$Reader", "readLevel", "(II)V"⟩ : MethodName) : Cond) ∈ qw_tbl := qt_3 (List.mem_of_getElem? (i := 181) rfl) rfl
theorem w_760 : (.code (⟨"SecretBuyers$Reader", "readLevel", "(II)V"⟩ : MethodName) prog_7_method_8_code 6 (Option.none : Option Jvm.ClassFile.FieldType) : Cond) ∈ qw_tbl := qt_3 (List.mem_of_getElem? (i := 182) rfl) rfl
theorem w_761 : (.methodLink "SecretBuyers$Reader" 87 (⟨"SecretBuyers$Reader", "readPart", "(I)V"⟩ : MethodName) : Cond) ∈ qw_tbl := qt_3 (List.mem_of_getElem? (i := 183) rfl) rfl
theorem w_763 : (.instanceMethod (⟨"SecretBuyers$Reader", "readPart", "(I)V"⟩ : MethodName) : Cond) ∈ qw_tbl := qt_3 (List.mem_of_getElem? (i := 185) rfl) rfl
theorem w_764 : (.code (⟨"SecretBuyers$Reader", "readPart", "(I)V"⟩ : MethodName) prog_7_method_10_code 3 (Option.none : Option Jvm.ClassFile.FieldType) : Cond) ∈ qw_tbl := qt_3 (List.mem_of_getElem? (i := 186) rfl) rfl
theorem w_765 : (.methodLink "SecretBuyers$Reader" 94 (⟨"SecretBuyers$Reader", "canStartPart", "(I)Z"⟩ : MethodName) : Cond) ∈ qw_tbl := qt_3 (List.mem_of_getElem? (i := 187) rfl) rfl
theorem w_766 : (.static (⟨"SecretBuyers$Reader", "canStartPart", "(I)Z"⟩ : MethodName) : Cond) ∈ qw_tbl := qt_3 (List.mem_of_getElem? (i := 188) rfl) rfl
theorem w_767 : (.code (⟨"SecretBuyers$Reader", "canStartPart", "(I)Z"⟩ : MethodName) prog_7_method_12_code 1 (Option.some Jvm.ClassFile.FieldType.boolean) : Cond) ∈ qw_tbl := qt_3 (List.mem_of_getElem? (i := 189) rfl) rfl
theorem w_768 : (.methodLinkNest "SecretBuyers$Reader" 101 (⟨"SecretBuyers", "isWithin", "(III)Z"⟩ : MethodName) "SecretBuyers" : Cond) ∈ lw_tbl := (fun h => List.mem_append_right _ (List.mem_append_right _ (List.mem_append_right _ (List.mem_append_left _ h)))) (List.mem_of_getElem? (l := tables_1_3) (i := 190) rfl)
theorem w_769 : (.methodLink "SecretBuyers$Reader" 84 (⟨"SecretBuyers$Reader", "write", "(II)V"⟩ : MethodName) : Cond) ∈ qw_tbl := qt_3 (List.mem_of_getElem? (i := 191) rfl) rfl
theorem w_771 : (.instanceMethod (⟨"SecretBuyers$Reader", "write", "(II)V"⟩ : MethodName) : Cond) ∈ qw_tbl := qt_3 (List.mem_of_getElem? (i := 193) rfl) rfl
theorem w_772 : (.code (⟨"SecretBuyers$Reader", "write", "(II)V"⟩ : MethodName) prog_7_method_16_code 3 (Option.none : Option Jvm.ClassFile.FieldType) : Cond) ∈ qw_tbl := qt_3 (List.mem_of_getElem? (i := 194) rfl) rfl
theorem w_773 : (.methodLink "SecretBuyers$Reader" 98 (⟨"SecretBuyers$Reader", "readItem", "()V"⟩ : MethodName) : Cond) ∈ qw_tbl := qt_3 (List.mem_of_getElem? (i := 195) rfl) rfl
theorem w_775 : (.instanceMethod (⟨"SecretBuyers$Reader", "readItem", "()V"⟩ : MethodName) : Cond) ∈ qw_tbl := qt_3 (List.mem_of_getElem? (i := 197) rfl) rfl
theorem w_776 : (.code (⟨"SecretBuyers$Reader", "readItem", "()V"⟩ : MethodName) prog_7_method_11_code 1 (Option.none : Option Jvm.ClassFile.FieldType) : Cond) ∈ qw_tbl := qt_3 (List.mem_of_getElem? (i := 198) rfl) rfl
theorem w_777 : (.methodLink "SecretBuyers$Reader" 90 (⟨"SecretBuyers$Reader", "levelOf", "(I)I"⟩ : MethodName) : Cond) ∈ qw_tbl := qt_3 (List.mem_of_getElem? (i := 199) rfl) rfl
theorem w_778 : (.static (⟨"SecretBuyers$Reader", "levelOf", "(I)I"⟩ : MethodName) : Cond) ∈ qw_tbl := qt_3 (List.mem_of_getElem? (i := 200) rfl) rfl
theorem w_779 : (.code (⟨"SecretBuyers$Reader", "levelOf", "(I)I"⟩ : MethodName) prog_7_method_9_code 1 (Option.some Jvm.ClassFile.FieldType.int) : Cond) ∈ qw_tbl := qt_3 (List.mem_of_getElem? (i := 201) rfl) rfl
theorem w_780 : (.methodLink "SecretBuyers$Reader" 70 (⟨"SecretBuyers$Reader", "endLine", "(II)V"⟩ : MethodName) : Cond) ∈ qw_tbl := qt_3 (List.mem_of_getElem? (i := 202) rfl) rfl
theorem w_782 : (.instanceMethod (⟨"SecretBuyers$Reader", "endLine", "(II)V"⟩ : MethodName) : Cond) ∈ qw_tbl := qt_3 (List.mem_of_getElem? (i := 204) rfl) rfl
theorem w_783 : (.code (⟨"SecretBuyers$Reader", "endLine", "(II)V"⟩ : MethodName) prog_7_method_7_code 3 (Option.none : Option Jvm.ClassFile.FieldType) : Cond) ∈ qw_tbl := qt_3 (List.mem_of_getElem? (i := 205) rfl) rfl
theorem w_784 : (.methodLink "SecretBuyers$Reader" 57 (⟨"SecretBuyers$Reader", "readBonus", "()V"⟩ : MethodName) : Cond) ∈ qw_tbl := qt_3 (List.mem_of_getElem? (i := 206) rfl) rfl
theorem w_786 : (.instanceMethod (⟨"SecretBuyers$Reader", "readBonus", "()V"⟩ : MethodName) : Cond) ∈ qw_tbl := qt_3 (List.mem_of_getElem? (i := 208) rfl) rfl
theorem w_787 : (.code (⟨"SecretBuyers$Reader", "readBonus", "()V"⟩ : MethodName) prog_7_method_6_code 2 (Option.none : Option Jvm.ClassFile.FieldType) : Cond) ∈ qw_tbl := qt_3 (List.mem_of_getElem? (i := 209) rfl) rfl
theorem w_788 : (.methodLink "SecretBuyers$Reader" 60 (⟨"SecretBuyers$Reader", "readAddOrMust", "(I)V"⟩ : MethodName) : Cond) ∈ qw_tbl := qt_3 (List.mem_of_getElem? (i := 210) rfl) rfl
theorem w_790 : (.instanceMethod (⟨"SecretBuyers$Reader", "readAddOrMust", "(I)V"⟩ : MethodName) : Cond) ∈ qw_tbl := qt_3 (List.mem_of_getElem? (i := 212) rfl) rfl
theorem w_791 : (.code (⟨"SecretBuyers$Reader", "readAddOrMust", "(I)V"⟩ : MethodName) prog_7_method_4_code 2 (Option.none : Option Jvm.ClassFile.FieldType) : Cond) ∈ qw_tbl := qt_3 (List.mem_of_getElem? (i := 213) rfl) rfl
theorem w_792 : (.classLink "SecretBuyers" 194 "SecretBuyers$Brief" : Cond) ∈ qw_tbl := qt_3 (List.mem_of_getElem? (i := 214) rfl) rfl
theorem w_793 : (.instantiable "SecretBuyers$Brief" 4 : Cond) ∈ qw_tbl := qt_3 (List.mem_of_getElem? (i := 215) rfl) rfl
theorem w_794 : (.methodLink "SecretBuyers" 196 (⟨"SecretBuyers$Reader", "codeRead", "()[I"⟩ : MethodName) : Cond) ∈ qw_tbl := qt_3 (List.mem_of_getElem? (i := 216) rfl) rfl
theorem w_795 : (.instanceMethod (⟨"SecretBuyers$Reader", "codeRead", "()[I"⟩ : MethodName) : Cond) ∈ qw_tbl := qt_3 (List.mem_of_getElem? (i := 217) rfl) rfl
theorem w_796 : (.selects "SecretBuyers$Reader" (⟨"SecretBuyers$Reader", "codeRead", "()[I"⟩ : MethodName) (⟨"SecretBuyers$Reader", "codeRead", "()[I"⟩ : MethodName) : Cond) ∈ qw_tbl := qt_3 (List.mem_of_getElem? (i := 218) rfl) rfl
theorem w_797 : (.code (⟨"SecretBuyers$Reader", "codeRead", "()[I"⟩ : MethodName) prog_7_method_2_code 1 (Option.some (Jvm.ClassFile.FieldType.array Jvm.ClassFile.FieldType.int)) : Cond) ∈ qw_tbl := qt_3 (List.mem_of_getElem? (i := 219) rfl) rfl
theorem w_798 : (.methodLink "SecretBuyers$Reader" 27 (⟨"java/util/Arrays", "copyOf", "([II)[I"⟩ : MethodName) : Cond) ∈ qw_tbl := qt_3 (List.mem_of_getElem? (i := 220) rfl) rfl
theorem w_799 : (.static (⟨"java/util/Arrays", "copyOf", "([II)[I"⟩ : MethodName) : Cond) ∈ qw_tbl := qt_3 (List.mem_of_getElem? (i := 221) rfl) rfl
theorem w_800 : (.code (⟨"java/util/Arrays", "copyOf", "([II)[I"⟩ : MethodName) prog_23_method_123_code 3 (Option.some (Jvm.ClassFile.FieldType.array Jvm.ClassFile.FieldType.int)) : Cond) ∈ qw_tbl := qt_3 (List.mem_of_getElem? (i := 222) rfl) rfl
theorem w_801 : (.methodLink "java/util/Arrays" 316 (⟨"[I", "clone", "()Ljava/lang/Object;"⟩ : MethodName) : Cond) ∈ qw_tbl := qt_3 (List.mem_of_getElem? (i := 223) rfl) rfl
theorem w_802 : (.sameMethod "[I" "java/lang/Object" "clone" "()Ljava/lang/Object;" : Cond) ∈ qw_tbl := qt_3 (List.mem_of_getElem? (i := 224) rfl) rfl
theorem w_803 : (.native (⟨"java/lang/Object", "clone", "()Ljava/lang/Object;"⟩ : MethodName) : Cond) ∈ qw_tbl := qt_3 (List.mem_of_getElem? (i := 225) rfl) rfl
theorem w_804 : (.instanceMethod (⟨"java/lang/Object", "clone", "()Ljava/lang/Object;"⟩ : MethodName) : Cond) ∈ qw_tbl := qt_3 (List.mem_of_getElem? (i := 226) rfl) rfl
theorem w_805 : (.selects "[I" (⟨"[I", "clone", "()Ljava/lang/Object;"⟩ : MethodName) (⟨"java/lang/Object", "clone", "()Ljava/lang/Object;"⟩ : MethodName) : Cond) ∈ qw_tbl := qt_3 (List.mem_of_getElem? (i := 227) rfl) rfl
theorem w_806 : (.castable "[I" "java/lang/Cloneable" : Cond) ∈ lw_tbl := (fun h => List.mem_append_right _ (List.mem_append_right _ (List.mem_append_right _ (List.mem_append_left _ h)))) (List.mem_of_getElem? (l := tables_1_3) (i := 228) rfl)
theorem w_807 : (.classLink "java/util/Arrays" 317 "[I" : Cond) ∈ qw_tbl := qt_3 (List.mem_of_getElem? (i := 229) rfl) rfl
theorem w_808 : (.methodLink "java/util/Arrays" 304 (⟨"java/lang/Math", "min", "(II)I"⟩ : MethodName) : Cond) ∈ qw_tbl := qt_3 (List.mem_of_getElem? (i := 230) rfl) rfl
theorem w_809 : (.static (⟨"java/lang/Math", "min", "(II)I"⟩ : MethodName) : Cond) ∈ qw_tbl := qt_3 (List.mem_of_getElem? (i := 231) rfl) rfl
theorem w_810 : (.code (⟨"java/lang/Math", "min", "(II)I"⟩ : MethodName) prog_18_method_69_code 2 (Option.some Jvm.ClassFile.FieldType.int) : Cond) ∈ qw_tbl := qt_3 (List.mem_of_getElem? (i := 232) rfl) rfl
theorem w_811 : (.methodLink "java/util/Arrays" 150 (⟨"java/lang/System", "arraycopy", "(Ljava/lang/Object;ILjava/lang/Object;II)V"⟩ : MethodName) : Cond) ∈ qw_tbl := qt_3 (List.mem_of_getElem? (i := 233) rfl) rfl
theorem w_812 : (.static (⟨"java/lang/System", "arraycopy", "(Ljava/lang/Object;ILjava/lang/Object;II)V"⟩ : MethodName) : Cond) ∈ qw_tbl := qt_3 (List.mem_of_getElem? (i := 234) rfl) rfl
theorem w_813 : (.native (⟨"java/lang/System", "arraycopy", "(Ljava/lang/Object;ILjava/lang/Object;II)V"⟩ : MethodName) : Cond) ∈ qw_tbl := qt_3 (List.mem_of_getElem? (i := 235) rfl) rfl
theorem w_814 : (.methodLink "SecretBuyers" 200 (⟨"SecretBuyers$Brief", "<init>", "(III[I)V"⟩ : MethodName) : Cond) ∈ qw_tbl := qt_3 (List.mem_of_getElem? (i := 236) rfl) rfl
theorem w_815 : (.instanceMethod (⟨"SecretBuyers$Brief", "<init>", "(III[I)V"⟩ : MethodName) : Cond) ∈ qw_tbl := qt_3 (List.mem_of_getElem? (i := 237) rfl) rfl
theorem w_816 : (.code (⟨"SecretBuyers$Brief", "<init>", "(III[I)V"⟩ : MethodName) prog_3_method_1_code 5 (Option.none : Option Jvm.ClassFile.FieldType) : Cond) ∈ qw_tbl := qt_3 (List.mem_of_getElem? (i := 238) rfl) rfl
theorem w_817 : (.methodLink "SecretBuyers$Brief" 1 (⟨"java/lang/Object", "<init>", "()V"⟩ : MethodName) : Cond) ∈ qw_tbl := qt_3 (List.mem_of_getElem? (i := 239) rfl) rfl
theorem w_818 : (.fieldLink "SecretBuyers$Brief" 7 "SecretBuyers$Brief" "chain" "I" : Cond) ∈ qw_tbl := qt_4 (List.mem_of_getElem? (i := 0) rfl) rfl
theorem w_819 : (.fieldLink "SecretBuyers$Book" 129 "SecretBuyers$Brief" "chain" "I" : Cond) ∈ qw_tbl := qt_4 (List.mem_of_getElem? (i := 1) rfl) rfl
theorem w_820 : (.fieldLink "SecretBuyers$Brief" 13 "SecretBuyers$Brief" "from" "I" : Cond) ∈ qw_tbl := qt_4 (List.mem_of_getElem? (i := 2) rfl) rfl
theorem w_821 : (.fieldLink "SecretBuyers$Book" 130 "SecretBuyers$Brief" "from" "I" : Cond) ∈ qw_tbl := qt_4 (List.mem_of_getElem? (i := 3) rfl) rfl
theorem w_822 : (.fieldLink "SecretBuyers$Brief" 16 "SecretBuyers$Brief" "told" "I" : Cond) ∈ qw_tbl := qt_4 (List.mem_of_getElem? (i := 4) rfl) rfl
theorem w_823 : (.fieldLink "SecretBuyers$Book" 133 "SecretBuyers$Brief" "told" "I" : Cond) ∈ qw_tbl := qt_4 (List.mem_of_getElem? (i := 5) rfl) rfl
theorem w_824 : (.fieldLink "SecretBuyers$Brief" 19 "SecretBuyers$Brief" "code" "[I" : Cond) ∈ qw_tbl := qt_4 (List.mem_of_getElem? (i := 6) rfl) rfl
theorem w_825 : (.fieldLink "SecretBuyers$Scorer" 117 "SecretBuyers$Brief" "code" "[I" : Cond) ∈ qw_tbl := qt_4 (List.mem_of_getElem? (i := 7) rfl) rfl
theorem w_826 : (.laysFinal "SecretBuyers$Brief" "SecretBuyers$Brief" "chain" "I" : Cond) ∈ qw_tbl := qt_4 (List.mem_of_getElem? (i := 8) rfl) rfl
theorem w_827 : (.soleField "SecretBuyers$Brief" "chain" : Cond) ∈ qw_tbl := qt_4 (List.mem_of_getElem? (i := 9) rfl) rfl
theorem w_828 : (.laysFinal "SecretBuyers$Brief" "SecretBuyers$Brief" "from" "I" : Cond) ∈ qw_tbl := qt_4 (List.mem_of_getElem? (i := 10) rfl) rfl
theorem w_829 : (.soleField "SecretBuyers$Brief" "from" : Cond) ∈ qw_tbl := qt_4 (List.mem_of_getElem? (i := 11) rfl) rfl
theorem w_830 : (.laysFinal "SecretBuyers$Brief" "SecretBuyers$Brief" "told" "I" : Cond) ∈ qw_tbl := qt_4 (List.mem_of_getElem? (i := 12) rfl) rfl
theorem w_831 : (.soleField "SecretBuyers$Brief" "told" : Cond) ∈ qw_tbl := qt_4 (List.mem_of_getElem? (i := 13) rfl) rfl
theorem w_832 : (.laysFinal "SecretBuyers$Brief" "SecretBuyers$Brief" "code" "[I" : Cond) ∈ qw_tbl := qt_4 (List.mem_of_getElem? (i := 14) rfl) rfl
theorem w_833 : (.soleField "SecretBuyers$Brief" "code" : Cond) ∈ qw_tbl := qt_4 (List.mem_of_getElem? (i := 15) rfl) rfl
theorem w_835 : (.methodLink "SecretBuyers" 203 (⟨"SecretBuyers$Book", "keepBrief", "(LSecretBuyers$Brief;)V"⟩ : MethodName) : Cond) ∈ qw_tbl := qt_4 (List.mem_of_getElem? (i := 17) rfl) rfl
theorem w_836 : (.instanceMethod (⟨"SecretBuyers$Book", "keepBrief", "(LSecretBuyers$Brief;)V"⟩ : MethodName) : Cond) ∈ qw_tbl := qt_4 (List.mem_of_getElem? (i := 18) rfl) rfl
theorem w_837 : (.selects "SecretBuyers$Book" (⟨"SecretBuyers$Book", "keepBrief", "(LSecretBuyers$Brief;)V"⟩ : MethodName) (⟨"SecretBuyers$Book", "keepBrief", "(LSecretBuyers$Brief;)V"⟩ : MethodName) : Cond) ∈ qw_tbl := qt_4 (List.mem_of_getElem? (i := 19) rfl) rfl
theorem w_838 : (.code (⟨"SecretBuyers$Book", "keepBrief", "(LSecretBuyers$Brief;)V"⟩ : MethodName) prog_2_method_15_code 2 (Option.none : Option Jvm.ClassFile.FieldType) : Cond) ∈ qw_tbl := qt_4 (List.mem_of_getElem? (i := 20) rfl) rfl
theorem w_839 : (.methodLink "SecretBuyersLaw" 88 (⟨"SecretBuyers", "fewest", "(II)I"⟩ : MethodName) : Cond) ∈ qw_tbl := qt_4 (List.mem_of_getElem? (i := 21) rfl) rfl
theorem w_840 : (.instanceMethod (⟨"SecretBuyers", "fewest", "(II)I"⟩ : MethodName) : Cond) ∈ qw_tbl := qt_4 (List.mem_of_getElem? (i := 22) rfl) rfl
theorem w_841 : (.selects "SecretBuyers" (⟨"SecretBuyers", "fewest", "(II)I"⟩ : MethodName) (⟨"SecretBuyers", "fewest", "(II)I"⟩ : MethodName) : Cond) ∈ qw_tbl := qt_4 (List.mem_of_getElem? (i := 23) rfl) rfl
theorem w_842 : (.code (⟨"SecretBuyers", "fewest", "(II)I"⟩ : MethodName) prog_1_method_14_code 3 (Option.some Jvm.ClassFile.FieldType.int) : Cond) ∈ qw_tbl := qt_4 (List.mem_of_getElem? (i := 24) rfl) rfl
theorem w_843 : (.methodLink "SecretBuyers" 220 (⟨"SecretBuyers$Truth", "refresh", "()V"⟩ : MethodName) : Cond) ∈ qw_tbl := qt_4 (List.mem_of_getElem? (i := 25) rfl) rfl
theorem w_844 : (.instanceMethod (⟨"SecretBuyers$Truth", "refresh", "()V"⟩ : MethodName) : Cond) ∈ qw_tbl := qt_4 (List.mem_of_getElem? (i := 26) rfl) rfl
theorem w_845 : (.selects "SecretBuyers$Truth" (⟨"SecretBuyers$Truth", "refresh", "()V"⟩ : MethodName) (⟨"SecretBuyers$Truth", "refresh", "()V"⟩ : MethodName) : Cond) ∈ qw_tbl := qt_4 (List.mem_of_getElem? (i := 27) rfl) rfl
theorem w_846 : (.code (⟨"SecretBuyers$Truth", "refresh", "()V"⟩ : MethodName) prog_11_method_2_code 3 (Option.none : Option Jvm.ClassFile.FieldType) : Cond) ∈ qw_tbl := qt_4 (List.mem_of_getElem? (i := 28) rfl) rfl
theorem w_847 : (.methodLink "SecretBuyers$Truth" 39 (⟨"SecretBuyers$Truth", "judgeAlone", "()V"⟩ : MethodName) : Cond) ∈ qw_tbl := qt_4 (List.mem_of_getElem? (i := 29) rfl) rfl
theorem w_849 : (.instanceMethod (⟨"SecretBuyers$Truth", "judgeAlone", "()V"⟩ : MethodName) : Cond) ∈ qw_tbl := qt_4 (List.mem_of_getElem? (i := 31) rfl) rfl
theorem w_850 : (.code (⟨"SecretBuyers$Truth", "judgeAlone", "()V"⟩ : MethodName) prog_11_method_6_code 3 (Option.none : Option Jvm.ClassFile.FieldType) : Cond) ∈ qw_tbl := qt_4 (List.mem_of_getElem? (i := 32) rfl) rfl
theorem w_851 : (.methodLink "SecretBuyers$Truth" 91 (⟨"SecretBuyers$Truth", "canBeAlone", "(LSecretBuyers$Visit;)Z"⟩ : MethodName) : Cond) ∈ qw_tbl := qt_4 (List.mem_of_getElem? (i := 33) rfl) rfl
theorem w_853 : (.instanceMethod (⟨"SecretBuyers$Truth", "canBeAlone", "(LSecretBuyers$Visit;)Z"⟩ : MethodName) : Cond) ∈ qw_tbl := qt_4 (List.mem_of_getElem? (i := 35) rfl) rfl
theorem w_854 : (.code (⟨"SecretBuyers$Truth", "canBeAlone", "(LSecretBuyers$Visit;)Z"⟩ : MethodName) prog_11_method_7_code 3 (Option.some Jvm.ClassFile.FieldType.boolean) : Cond) ∈ qw_tbl := qt_4 (List.mem_of_getElem? (i := 36) rfl) rfl
theorem w_855 : (.methodLink "SecretBuyers$Truth" 109 (⟨"SecretBuyers$Visit", "endMinute", "()I"⟩ : MethodName) : Cond) ∈ qw_tbl := qt_4 (List.mem_of_getElem? (i := 37) rfl) rfl
theorem w_856 : (.instanceMethod (⟨"SecretBuyers$Visit", "endMinute", "()I"⟩ : MethodName) : Cond) ∈ qw_tbl := qt_4 (List.mem_of_getElem? (i := 38) rfl) rfl
theorem w_857 : (.selects "SecretBuyers$Visit" (⟨"SecretBuyers$Visit", "endMinute", "()I"⟩ : MethodName) (⟨"SecretBuyers$Visit", "endMinute", "()I"⟩ : MethodName) : Cond) ∈ qw_tbl := qt_4 (List.mem_of_getElem? (i := 39) rfl) rfl
theorem w_858 : (.code (⟨"SecretBuyers$Visit", "endMinute", "()I"⟩ : MethodName) prog_12_method_5_code 1 (Option.some Jvm.ClassFile.FieldType.int) : Cond) ∈ qw_tbl := qt_4 (List.mem_of_getElem? (i := 40) rfl) rfl
theorem w_859 : (.methodLinkNest "SecretBuyers$Truth" 118 (⟨"SecretBuyers", "isWithin", "(III)Z"⟩ : MethodName) "SecretBuyers" : Cond) ∈ lw_tbl := (fun h => List.mem_append_right _ (List.mem_append_right _ (List.mem_append_right _ (List.mem_append_right _ (List.mem_append_left _ h))))) (List.mem_of_getElem? (l := tables_1_4) (i := 41) rfl)
theorem w_860 : (.methodLink "SecretBuyers$Truth" 51 (⟨"SecretBuyers$Book", "isSeen", "(LSecretBuyers$Visit;)Z"⟩ : MethodName) : Cond) ∈ qw_tbl := qt_4 (List.mem_of_getElem? (i := 42) rfl) rfl
theorem w_861 : (.instanceMethod (⟨"SecretBuyers$Book", "isSeen", "(LSecretBuyers$Visit;)Z"⟩ : MethodName) : Cond) ∈ qw_tbl := qt_4 (List.mem_of_getElem? (i := 43) rfl) rfl
theorem w_862 : (.selects "SecretBuyers$Book" (⟨"SecretBuyers$Book", "isSeen", "(LSecretBuyers$Visit;)Z"⟩ : MethodName) (⟨"SecretBuyers$Book", "isSeen", "(LSecretBuyers$Visit;)Z"⟩ : MethodName) : Cond) ∈ qw_tbl := qt_4 (List.mem_of_getElem? (i := 44) rfl) rfl
theorem w_863 : (.code (⟨"SecretBuyers$Book", "isSeen", "(LSecretBuyers$Visit;)Z"⟩ : MethodName) prog_2_method_6_code 2 (Option.some Jvm.ClassFile.FieldType.boolean) : Cond) ∈ qw_tbl := qt_4 (List.mem_of_getElem? (i := 45) rfl) rfl
theorem w_864 : (.methodLink "SecretBuyers$Truth" 64 (⟨"SecretBuyers$Truth", "gather", "(III)V"⟩ : MethodName) : Cond) ∈ qw_tbl := qt_4 (List.mem_of_getElem? (i := 46) rfl) rfl
theorem w_866 : (.instanceMethod (⟨"SecretBuyers$Truth", "gather", "(III)V"⟩ : MethodName) : Cond) ∈ qw_tbl := qt_4 (List.mem_of_getElem? (i := 48) rfl) rfl
theorem w_867 : (.code (⟨"SecretBuyers$Truth", "gather", "(III)V"⟩ : MethodName) prog_11_method_9_code 7 (Option.none : Option Jvm.ClassFile.FieldType) : Cond) ∈ qw_tbl := qt_4 (List.mem_of_getElem? (i := 49) rfl) rfl
theorem w_868 : (.methodLink "SecretBuyers$Truth" 68 (⟨"SecretBuyers$Truth", "judgeGroup", "()V"⟩ : MethodName) : Cond) ∈ qw_tbl := qt_4 (List.mem_of_getElem? (i := 50) rfl) rfl
theorem w_870 : (.instanceMethod (⟨"SecretBuyers$Truth", "judgeGroup", "()V"⟩ : MethodName) : Cond) ∈ qw_tbl := qt_4 (List.mem_of_getElem? (i := 52) rfl) rfl
theorem w_871 : (.code (⟨"SecretBuyers$Truth", "judgeGroup", "()V"⟩ : MethodName) prog_11_method_10_code 3 (Option.none : Option Jvm.ClassFile.FieldType) : Cond) ∈ qw_tbl := qt_4 (List.mem_of_getElem? (i := 53) rfl) rfl
theorem w_872 : (.methodLink "SecretBuyers$Truth" 77 (⟨"SecretBuyers$Truth", "longestUp", "()I"⟩ : MethodName) : Cond) ∈ qw_tbl := qt_4 (List.mem_of_getElem? (i := 54) rfl) rfl
theorem w_874 : (.instanceMethod (⟨"SecretBuyers$Truth", "longestUp", "()I"⟩ : MethodName) : Cond) ∈ qw_tbl := qt_4 (List.mem_of_getElem? (i := 56) rfl) rfl
theorem w_875 : (.code (⟨"SecretBuyers$Truth", "longestUp", "()I"⟩ : MethodName) prog_11_method_12_code 4 (Option.some Jvm.ClassFile.FieldType.int) : Cond) ∈ qw_tbl := qt_4 (List.mem_of_getElem? (i := 57) rfl) rfl
theorem w_876 : (.methodLink "SecretBuyers$Truth" 145 (⟨"SecretBuyers$Truth", "canBoth", "(LSecretBuyers$Visit;LSecretBuyers$Visit;)Z"⟩ : MethodName) : Cond) ∈ qw_tbl := qt_4 (List.mem_of_getElem? (i := 58) rfl) rfl
theorem w_878 : (.instanceMethod (⟨"SecretBuyers$Truth", "canBoth", "(LSecretBuyers$Visit;LSecretBuyers$Visit;)Z"⟩ : MethodName) : Cond) ∈ qw_tbl := qt_4 (List.mem_of_getElem? (i := 60) rfl) rfl
theorem w_879 : (.code (⟨"SecretBuyers$Truth", "canBoth", "(LSecretBuyers$Visit;LSecretBuyers$Visit;)Z"⟩ : MethodName) prog_11_method_14_code 4 (Option.some Jvm.ClassFile.FieldType.boolean) : Cond) ∈ qw_tbl := qt_4 (List.mem_of_getElem? (i := 61) rfl) rfl
theorem w_880 : (.methodLink "SecretBuyers$Truth" 159 (⟨"SecretBuyers$Place", "wayTo", "(LSecretBuyers$Place;)I"⟩ : MethodName) : Cond) ∈ qw_tbl := qt_4 (List.mem_of_getElem? (i := 62) rfl) rfl
theorem w_881 : (.instanceMethod (⟨"SecretBuyers$Place", "wayTo", "(LSecretBuyers$Place;)I"⟩ : MethodName) : Cond) ∈ qw_tbl := qt_4 (List.mem_of_getElem? (i := 63) rfl) rfl
theorem w_882 : (.selects "SecretBuyers$Place" (⟨"SecretBuyers$Place", "wayTo", "(LSecretBuyers$Place;)I"⟩ : MethodName) (⟨"SecretBuyers$Place", "wayTo", "(LSecretBuyers$Place;)I"⟩ : MethodName) : Cond) ∈ qw_tbl := qt_4 (List.mem_of_getElem? (i := 64) rfl) rfl
theorem w_883 : (.code (⟨"SecretBuyers$Place", "wayTo", "(LSecretBuyers$Place;)I"⟩ : MethodName) prog_6_method_2_code 2 (Option.some Jvm.ClassFile.FieldType.int) : Cond) ∈ qw_tbl := qt_4 (List.mem_of_getElem? (i := 65) rfl) rfl
theorem w_884 : (.methodLink "SecretBuyers$Place" 16 (⟨"java/lang/Math", "abs", "(I)I"⟩ : MethodName) : Cond) ∈ qw_tbl := qt_4 (List.mem_of_getElem? (i := 66) rfl) rfl
theorem w_885 : (.static (⟨"java/lang/Math", "abs", "(I)I"⟩ : MethodName) : Cond) ∈ qw_tbl := qt_4 (List.mem_of_getElem? (i := 67) rfl) rfl
theorem w_886 : (.code (⟨"java/lang/Math", "abs", "(I)I"⟩ : MethodName) prog_18_method_59_code 1 (Option.some Jvm.ClassFile.FieldType.int) : Cond) ∈ qw_tbl := qt_4 (List.mem_of_getElem? (i := 68) rfl) rfl
theorem w_887 : (.methodLink "SecretBuyers$Truth" 149 (⟨"java/lang/Math", "max", "(II)I"⟩ : MethodName) : Cond) ∈ qw_tbl := qt_4 (List.mem_of_getElem? (i := 69) rfl) rfl
theorem w_888 : (.static (⟨"java/lang/Math", "max", "(II)I"⟩ : MethodName) : Cond) ∈ qw_tbl := qt_4 (List.mem_of_getElem? (i := 70) rfl) rfl
theorem w_889 : (.code (⟨"java/lang/Math", "max", "(II)I"⟩ : MethodName) prog_18_method_65_code 2 (Option.some Jvm.ClassFile.FieldType.int) : Cond) ∈ qw_tbl := qt_4 (List.mem_of_getElem? (i := 71) rfl) rfl
theorem w_890 : (.methodLink "SecretBuyers$Truth" 138 (⟨"SecretBuyers$Truth", "workDown", "()V"⟩ : MethodName) : Cond) ∈ qw_tbl := qt_4 (List.mem_of_getElem? (i := 72) rfl) rfl
theorem w_892 : (.instanceMethod (⟨"SecretBuyers$Truth", "workDown", "()V"⟩ : MethodName) : Cond) ∈ qw_tbl := qt_4 (List.mem_of_getElem? (i := 74) rfl) rfl
theorem w_893 : (.code (⟨"SecretBuyers$Truth", "workDown", "()V"⟩ : MethodName) prog_11_method_13_code 3 (Option.none : Option Jvm.ClassFile.FieldType) : Cond) ∈ qw_tbl := qt_4 (List.mem_of_getElem? (i := 75) rfl) rfl
theorem w_894 : (.methodLink "SecretBuyers$Truth" 141 (⟨"SecretBuyers$Truth", "isNeeded", "(II)Z"⟩ : MethodName) : Cond) ∈ qw_tbl := qt_4 (List.mem_of_getElem? (i := 76) rfl) rfl
theorem w_896 : (.instanceMethod (⟨"SecretBuyers$Truth", "isNeeded", "(II)Z"⟩ : MethodName) : Cond) ∈ qw_tbl := qt_4 (List.mem_of_getElem? (i := 78) rfl) rfl
theorem w_897 : (.code (⟨"SecretBuyers$Truth", "isNeeded", "(II)Z"⟩ : MethodName) prog_11_method_11_code 4 (Option.some Jvm.ClassFile.FieldType.boolean) : Cond) ∈ qw_tbl := qt_4 (List.mem_of_getElem? (i := 79) rfl) rfl
theorem w_898 : (.methodLink "SecretBuyers$Truth" 71 (⟨"SecretBuyers$Truth", "countThem", "()V"⟩ : MethodName) : Cond) ∈ qw_tbl := qt_4 (List.mem_of_getElem? (i := 80) rfl) rfl
theorem w_900 : (.instanceMethod (⟨"SecretBuyers$Truth", "countThem", "()V"⟩ : MethodName) : Cond) ∈ qw_tbl := qt_4 (List.mem_of_getElem? (i := 82) rfl) rfl
theorem w_901 : (.code (⟨"SecretBuyers$Truth", "countThem", "()V"⟩ : MethodName) prog_11_method_8_code 4 (Option.none : Option Jvm.ClassFile.FieldType) : Cond) ∈ qw_tbl := qt_4 (List.mem_of_getElem? (i := 83) rfl) rfl
theorem w_902 : (.methodLink "SecretBuyers$Truth" 131 (⟨"SecretBuyers$Book", "knownVisits", "()I"⟩ : MethodName) : Cond) ∈ qw_tbl := qt_4 (List.mem_of_getElem? (i := 84) rfl) rfl
theorem w_903 : (.instanceMethod (⟨"SecretBuyers$Book", "knownVisits", "()I"⟩ : MethodName) : Cond) ∈ qw_tbl := qt_4 (List.mem_of_getElem? (i := 85) rfl) rfl
theorem w_904 : (.selects "SecretBuyers$Book" (⟨"SecretBuyers$Book", "knownVisits", "()I"⟩ : MethodName) (⟨"SecretBuyers$Book", "knownVisits", "()I"⟩ : MethodName) : Cond) ∈ qw_tbl := qt_4 (List.mem_of_getElem? (i := 86) rfl) rfl
theorem w_905 : (.code (⟨"SecretBuyers$Book", "knownVisits", "()I"⟩ : MethodName) prog_2_method_7_code 2 (Option.some Jvm.ClassFile.FieldType.int) : Cond) ∈ qw_tbl := qt_4 (List.mem_of_getElem? (i := 87) rfl) rfl
theorem w_906 : (.methodLink "SecretBuyers$Book" 77 (⟨"SecretBuyers$Book", "isSeen", "(LSecretBuyers$Visit;)Z"⟩ : MethodName) : Cond) ∈ qw_tbl := qt_4 (List.mem_of_getElem? (i := 88) rfl) rfl
theorem w_907 : (.methodLink "SecretBuyers$Truth" 134 (⟨"SecretBuyers$Visit", "counts", "()Z"⟩ : MethodName) : Cond) ∈ qw_tbl := qt_4 (List.mem_of_getElem? (i := 89) rfl) rfl
theorem w_908 : (.instanceMethod (⟨"SecretBuyers$Visit", "counts", "()Z"⟩ : MethodName) : Cond) ∈ qw_tbl := qt_4 (List.mem_of_getElem? (i := 90) rfl) rfl
theorem w_909 : (.selects "SecretBuyers$Visit" (⟨"SecretBuyers$Visit", "counts", "()Z"⟩ : MethodName) (⟨"SecretBuyers$Visit", "counts", "()Z"⟩ : MethodName) : Cond) ∈ qw_tbl := qt_4 (List.mem_of_getElem? (i := 91) rfl) rfl
theorem w_910 : (.code (⟨"SecretBuyers$Visit", "counts", "()Z"⟩ : MethodName) prog_12_method_4_code 1 (Option.some Jvm.ClassFile.FieldType.boolean) : Cond) ∈ qw_tbl := qt_4 (List.mem_of_getElem? (i := 92) rfl) rfl
theorem w_911 : (.methodLink "SecretBuyers" 247 (⟨"SecretBuyers$Truth", "fewestOf", "(II)I"⟩ : MethodName) : Cond) ∈ qw_tbl := qt_4 (List.mem_of_getElem? (i := 93) rfl) rfl
theorem w_912 : (.instanceMethod (⟨"SecretBuyers$Truth", "fewestOf", "(II)I"⟩ : MethodName) : Cond) ∈ qw_tbl := qt_4 (List.mem_of_getElem? (i := 94) rfl) rfl
theorem w_913 : (.selects "SecretBuyers$Truth" (⟨"SecretBuyers$Truth", "fewestOf", "(II)I"⟩ : MethodName) (⟨"SecretBuyers$Truth", "fewestOf", "(II)I"⟩ : MethodName) : Cond) ∈ qw_tbl := qt_4 (List.mem_of_getElem? (i := 95) rfl) rfl
theorem w_914 : (.code (⟨"SecretBuyers$Truth", "fewestOf", "(II)I"⟩ : MethodName) prog_11_method_3_code 3 (Option.some Jvm.ClassFile.FieldType.int) : Cond) ∈ qw_tbl := qt_4 (List.mem_of_getElem? (i := 96) rfl) rfl
theorem w_915 : (.methodLink "SecretBuyersLaw" 92 (⟨"SecretBuyers", "set", "(III)I"⟩ : MethodName) : Cond) ∈ qw_tbl := qt_4 (List.mem_of_getElem? (i := 97) rfl) rfl
theorem w_916 : (.instanceMethod (⟨"SecretBuyers", "set", "(III)I"⟩ : MethodName) : Cond) ∈ qw_tbl := qt_4 (List.mem_of_getElem? (i := 98) rfl) rfl
theorem w_917 : (.selects "SecretBuyers" (⟨"SecretBuyers", "set", "(III)I"⟩ : MethodName) (⟨"SecretBuyers", "set", "(III)I"⟩ : MethodName) : Cond) ∈ qw_tbl := qt_4 (List.mem_of_getElem? (i := 99) rfl) rfl
theorem w_918 : (.code (⟨"SecretBuyers", "set", "(III)I"⟩ : MethodName) prog_1_method_15_code 4 (Option.some Jvm.ClassFile.FieldType.int) : Cond) ∈ qw_tbl := qt_4 (List.mem_of_getElem? (i := 100) rfl) rfl
theorem w_919 : (.methodLink "SecretBuyers" 250 (⟨"SecretBuyers$Truth", "falseAt", "(III)I"⟩ : MethodName) : Cond) ∈ qw_tbl := qt_4 (List.mem_of_getElem? (i := 101) rfl) rfl
theorem w_920 : (.instanceMethod (⟨"SecretBuyers$Truth", "falseAt", "(III)I"⟩ : MethodName) : Cond) ∈ qw_tbl := qt_4 (List.mem_of_getElem? (i := 102) rfl) rfl
theorem w_921 : (.selects "SecretBuyers$Truth" (⟨"SecretBuyers$Truth", "falseAt", "(III)I"⟩ : MethodName) (⟨"SecretBuyers$Truth", "falseAt", "(III)I"⟩ : MethodName) : Cond) ∈ qw_tbl := qt_4 (List.mem_of_getElem? (i := 103) rfl) rfl
theorem w_922 : (.code (⟨"SecretBuyers$Truth", "falseAt", "(III)I"⟩ : MethodName) prog_11_method_4_code 9 (Option.some Jvm.ClassFile.FieldType.int) : Cond) ∈ qw_tbl := qt_4 (List.mem_of_getElem? (i := 104) rfl) rfl
theorem w_923 : (.methodLink "SecretBuyers$Truth" 81 (⟨"SecretBuyers$Truth", "nextByNumber", "(I)I"⟩ : MethodName) : Cond) ∈ qw_tbl := qt_4 (List.mem_of_getElem? (i := 105) rfl) rfl
theorem w_925 : (.instanceMethod (⟨"SecretBuyers$Truth", "nextByNumber", "(I)I"⟩ : MethodName) : Cond) ∈ qw_tbl := qt_4 (List.mem_of_getElem? (i := 107) rfl) rfl
theorem w_926 : (.code (⟨"SecretBuyers$Truth", "nextByNumber", "(I)I"⟩ : MethodName) prog_11_method_5_code 5 (Option.some Jvm.ClassFile.FieldType.int) : Cond) ∈ qw_tbl := qt_4 (List.mem_of_getElem? (i := 108) rfl) rfl
theorem w_927 : (.methodLink "SecretBuyersLaw" 99 (⟨"SecretBuyers", "meetings", "(II)I"⟩ : MethodName) : Cond) ∈ qw_tbl := qt_4 (List.mem_of_getElem? (i := 109) rfl) rfl
theorem w_928 : (.instanceMethod (⟨"SecretBuyers", "meetings", "(II)I"⟩ : MethodName) : Cond) ∈ qw_tbl := qt_4 (List.mem_of_getElem? (i := 110) rfl) rfl
theorem w_929 : (.selects "SecretBuyers" (⟨"SecretBuyers", "meetings", "(II)I"⟩ : MethodName) (⟨"SecretBuyers", "meetings", "(II)I"⟩ : MethodName) : Cond) ∈ qw_tbl := qt_4 (List.mem_of_getElem? (i := 111) rfl) rfl
theorem w_930 : (.code (⟨"SecretBuyers", "meetings", "(II)I"⟩ : MethodName) prog_1_method_17_code 3 (Option.some Jvm.ClassFile.FieldType.int) : Cond) ∈ qw_tbl := qt_4 (List.mem_of_getElem? (i := 112) rfl) rfl
theorem w_931 : (.methodLink "SecretBuyers" 242 (⟨"SecretBuyers$Means", "refresh", "()V"⟩ : MethodName) : Cond) ∈ qw_tbl := qt_4 (List.mem_of_getElem? (i := 113) rfl) rfl
theorem w_932 : (.instanceMethod (⟨"SecretBuyers$Means", "refresh", "()V"⟩ : MethodName) : Cond) ∈ qw_tbl := qt_4 (List.mem_of_getElem? (i := 114) rfl) rfl
theorem w_933 : (.selects "SecretBuyers$Means" (⟨"SecretBuyers$Means", "refresh", "()V"⟩ : MethodName) (⟨"SecretBuyers$Means", "refresh", "()V"⟩ : MethodName) : Cond) ∈ qw_tbl := qt_4 (List.mem_of_getElem? (i := 115) rfl) rfl
theorem w_934 : (.code (⟨"SecretBuyers$Means", "refresh", "()V"⟩ : MethodName) prog_5_method_2_code 2 (Option.none : Option Jvm.ClassFile.FieldType) : Cond) ∈ qw_tbl := qt_4 (List.mem_of_getElem? (i := 116) rfl) rfl
theorem w_935 : (.methodLink "SecretBuyers$Means" 52 (⟨"SecretBuyers$Truth", "refresh", "()V"⟩ : MethodName) : Cond) ∈ qw_tbl := qt_4 (List.mem_of_getElem? (i := 117) rfl) rfl
theorem w_936 : (.methodLink "SecretBuyers$Means" 57 (⟨"SecretBuyers$Scorer", "refresh", "()V"⟩ : MethodName) : Cond) ∈ qw_tbl := qt_4 (List.mem_of_getElem? (i := 118) rfl) rfl
theorem w_937 : (.instanceMethod (⟨"SecretBuyers$Scorer", "refresh", "()V"⟩ : MethodName) : Cond) ∈ qw_tbl := qt_4 (List.mem_of_getElem? (i := 119) rfl) rfl
theorem w_938 : (.selects "SecretBuyers$Scorer" (⟨"SecretBuyers$Scorer", "refresh", "()V"⟩ : MethodName) (⟨"SecretBuyers$Scorer", "refresh", "()V"⟩ : MethodName) : Cond) ∈ qw_tbl := qt_4 (List.mem_of_getElem? (i := 120) rfl) rfl
theorem w_939 : (.code (⟨"SecretBuyers$Scorer", "refresh", "()V"⟩ : MethodName) prog_8_method_2_code 2 (Option.none : Option Jvm.ClassFile.FieldType) : Cond) ∈ qw_tbl := qt_4 (List.mem_of_getElem? (i := 121) rfl) rfl
theorem w_940 : (.methodLink "SecretBuyers$Scorer" 32 (⟨"java/util/Arrays", "fill", "([II)V"⟩ : MethodName) : Cond) ∈ qw_tbl := qt_4 (List.mem_of_getElem? (i := 122) rfl) rfl
theorem w_941 : (.static (⟨"java/util/Arrays", "fill", "([II)V"⟩ : MethodName) : Cond) ∈ qw_tbl := qt_4 (List.mem_of_getElem? (i := 123) rfl) rfl
theorem w_942 : (.code (⟨"java/util/Arrays", "fill", "([II)V"⟩ : MethodName) prog_23_method_103_code 4 (Option.none : Option Jvm.ClassFile.FieldType) : Cond) ∈ qw_tbl := qt_4 (List.mem_of_getElem? (i := 124) rfl) rfl
theorem w_943 : (.methodLink "SecretBuyers$Scorer" 45 (⟨"SecretBuyers$Book", "isSeen", "(LSecretBuyers$Visit;)Z"⟩ : MethodName) : Cond) ∈ qw_tbl := qt_4 (List.mem_of_getElem? (i := 125) rfl) rfl
theorem w_944 : (.methodLink "SecretBuyers$Scorer" 49 (⟨"SecretBuyers$Scorer", "scoreVisit", "(LSecretBuyers$Visit;)V"⟩ : MethodName) : Cond) ∈ qw_tbl := qt_4 (List.mem_of_getElem? (i := 126) rfl) rfl
theorem w_946 : (.instanceMethod (⟨"SecretBuyers$Scorer", "scoreVisit", "(LSecretBuyers$Visit;)V"⟩ : MethodName) : Cond) ∈ qw_tbl := qt_4 (List.mem_of_getElem? (i := 128) rfl) rfl
theorem w_947 : (.code (⟨"SecretBuyers$Scorer", "scoreVisit", "(LSecretBuyers$Visit;)V"⟩ : MethodName) prog_8_method_3_code 2 (Option.none : Option Jvm.ClassFile.FieldType) : Cond) ∈ qw_tbl := qt_4 (List.mem_of_getElem? (i := 129) rfl) rfl
theorem w_948 : (.methodLink "SecretBuyers$Scorer" 61 (⟨"SecretBuyers$Book", "briefFor", "(LSecretBuyers$Visit;)I"⟩ : MethodName) : Cond) ∈ qw_tbl := qt_4 (List.mem_of_getElem? (i := 130) rfl) rfl
theorem w_949 : (.instanceMethod (⟨"SecretBuyers$Book", "briefFor", "(LSecretBuyers$Visit;)I"⟩ : MethodName) : Cond) ∈ qw_tbl := qt_4 (List.mem_of_getElem? (i := 131) rfl) rfl
theorem w_950 : (.selects "SecretBuyers$Book" (⟨"SecretBuyers$Book", "briefFor", "(LSecretBuyers$Visit;)I"⟩ : MethodName) (⟨"SecretBuyers$Book", "briefFor", "(LSecretBuyers$Visit;)I"⟩ : MethodName) : Cond) ∈ qw_tbl := qt_4 (List.mem_of_getElem? (i := 132) rfl) rfl
theorem w_951 : (.code (⟨"SecretBuyers$Book", "briefFor", "(LSecretBuyers$Visit;)I"⟩ : MethodName) prog_2_method_16_code 7 (Option.some Jvm.ClassFile.FieldType.int) : Cond) ∈ qw_tbl := qt_4 (List.mem_of_getElem? (i := 133) rfl) rfl
theorem w_952 : (.methodLink "SecretBuyers$Scorer" 71 (⟨"SecretBuyers$Scorer", "work", "(LSecretBuyers$Visit;I)V"⟩ : MethodName) : Cond) ∈ qw_tbl := qt_4 (List.mem_of_getElem? (i := 134) rfl) rfl
theorem w_954 : (.instanceMethod (⟨"SecretBuyers$Scorer", "work", "(LSecretBuyers$Visit;I)V"⟩ : MethodName) : Cond) ∈ qw_tbl := qt_4 (List.mem_of_getElem? (i := 136) rfl) rfl
theorem w_955 : (.code (⟨"SecretBuyers$Scorer", "work", "(LSecretBuyers$Visit;I)V"⟩ : MethodName) prog_8_method_5_code 5 (Option.none : Option Jvm.ClassFile.FieldType) : Cond) ∈ qw_tbl := qt_4 (List.mem_of_getElem? (i := 137) rfl) rfl
theorem w_956 : (.methodLinkNest "SecretBuyers$Scorer" 109 (⟨"SecretBuyers", "isWithin", "(III)Z"⟩ : MethodName) "SecretBuyers" : Cond) ∈ lw_tbl := (fun h => List.mem_append_right _ (List.mem_append_right _ (List.mem_append_right _ (List.mem_append_right _ (List.mem_append_left _ h))))) (List.mem_of_getElem? (l := tables_1_4) (i := 138) rfl)
theorem w_957 : (.methodLink "SecretBuyers$Scorer" 122 (⟨"SecretBuyers$Scorer", "doStep", "(IILSecretBuyers$Visit;I)V"⟩ : MethodName) : Cond) ∈ qw_tbl := qt_4 (List.mem_of_getElem? (i := 139) rfl) rfl
theorem w_959 : (.instanceMethod (⟨"SecretBuyers$Scorer", "doStep", "(IILSecretBuyers$Visit;I)V"⟩ : MethodName) : Cond) ∈ qw_tbl := qt_4 (List.mem_of_getElem? (i := 141) rfl) rfl
theorem w_960 : (.code (⟨"SecretBuyers$Scorer", "doStep", "(IILSecretBuyers$Visit;I)V"⟩ : MethodName) prog_8_method_6_code 5 (Option.none : Option Jvm.ClassFile.FieldType) : Cond) ∈ qw_tbl := qt_4 (List.mem_of_getElem? (i := 142) rfl) rfl
theorem w_961 : (.methodLink "SecretBuyers$Scorer" 126 (⟨"SecretBuyers$Scorer", "push", "(I)V"⟩ : MethodName) : Cond) ∈ qw_tbl := qt_4 (List.mem_of_getElem? (i := 143) rfl) rfl
theorem w_963 : (.instanceMethod (⟨"SecretBuyers$Scorer", "push", "(I)V"⟩ : MethodName) : Cond) ∈ qw_tbl := qt_4 (List.mem_of_getElem? (i := 145) rfl) rfl
theorem w_964 : (.code (⟨"SecretBuyers$Scorer", "push", "(I)V"⟩ : MethodName) prog_8_method_9_code 2 (Option.none : Option Jvm.ClassFile.FieldType) : Cond) ∈ qw_tbl := qt_4 (List.mem_of_getElem? (i := 146) rfl) rfl
theorem w_965 : (.methodLink "SecretBuyers$Scorer" 130 (⟨"java/lang/Integer", "bitCount", "(I)I"⟩ : MethodName) : Cond) ∈ qw_tbl := qt_4 (List.mem_of_getElem? (i := 147) rfl) rfl
theorem w_966 : (.static (⟨"java/lang/Integer", "bitCount", "(I)I"⟩ : MethodName) : Cond) ∈ qw_tbl := qt_4 (List.mem_of_getElem? (i := 148) rfl) rfl
theorem w_967 : (.code (⟨"java/lang/Integer", "bitCount", "(I)I"⟩ : MethodName) prog_17_method_49_code 1 (Option.some Jvm.ClassFile.FieldType.int) : Cond) ∈ qw_tbl := qt_4 (List.mem_of_getElem? (i := 149) rfl) rfl
theorem w_968 : (.constant "java/lang/Integer" 265 1431655765 : Cond) ∈ qw_tbl := qt_4 (List.mem_of_getElem? (i := 150) rfl) rfl
theorem w_969 : (.constant "java/lang/Integer" 266 858993459 : Cond) ∈ qw_tbl := qt_4 (List.mem_of_getElem? (i := 151) rfl) rfl
theorem w_970 : (.constant "java/lang/Integer" 267 252645135 : Cond) ∈ qw_tbl := qt_4 (List.mem_of_getElem? (i := 152) rfl) rfl
theorem w_971 : (.methodLink "SecretBuyers$Scorer" 145 (⟨"SecretBuyers$Visit", "inWeek", "()I"⟩ : MethodName) : Cond) ∈ qw_tbl := qt_4 (List.mem_of_getElem? (i := 153) rfl) rfl
theorem w_972 : (.instanceMethod (⟨"SecretBuyers$Visit", "inWeek", "()I"⟩ : MethodName) : Cond) ∈ qw_tbl := qt_4 (List.mem_of_getElem? (i := 154) rfl) rfl
theorem w_973 : (.selects "SecretBuyers$Visit" (⟨"SecretBuyers$Visit", "inWeek", "()I"⟩ : MethodName) (⟨"SecretBuyers$Visit", "inWeek", "()I"⟩ : MethodName) : Cond) ∈ qw_tbl := qt_4 (List.mem_of_getElem? (i := 155) rfl) rfl
theorem w_974 : (.code (⟨"SecretBuyers$Visit", "inWeek", "()I"⟩ : MethodName) prog_12_method_6_code 1 (Option.some Jvm.ClassFile.FieldType.int) : Cond) ∈ qw_tbl := qt_4 (List.mem_of_getElem? (i := 156) rfl) rfl
theorem w_975 : (.methodLink "SecretBuyers$Scorer" 149 (⟨"SecretBuyers$Scorer", "pop", "()I"⟩ : MethodName) : Cond) ∈ qw_tbl := qt_4 (List.mem_of_getElem? (i := 157) rfl) rfl
theorem w_977 : (.instanceMethod (⟨"SecretBuyers$Scorer", "pop", "()I"⟩ : MethodName) : Cond) ∈ qw_tbl := qt_4 (List.mem_of_getElem? (i := 159) rfl) rfl
theorem w_978 : (.code (⟨"SecretBuyers$Scorer", "pop", "()I"⟩ : MethodName) prog_8_method_10_code 1 (Option.some Jvm.ClassFile.FieldType.int) : Cond) ∈ qw_tbl := qt_4 (List.mem_of_getElem? (i := 160) rfl) rfl
theorem w_979 : (.methodLink "SecretBuyers$Scorer" 152 (⟨"SecretBuyers$Scorer", "endLine", "(II)V"⟩ : MethodName) : Cond) ∈ qw_tbl := qt_4 (List.mem_of_getElem? (i := 161) rfl) rfl
theorem w_981 : (.instanceMethod (⟨"SecretBuyers$Scorer", "endLine", "(II)V"⟩ : MethodName) : Cond) ∈ qw_tbl := qt_4 (List.mem_of_getElem? (i := 163) rfl) rfl
theorem w_982 : (.code (⟨"SecretBuyers$Scorer", "endLine", "(II)V"⟩ : MethodName) prog_8_method_7_code 5 (Option.none : Option Jvm.ClassFile.FieldType) : Cond) ∈ qw_tbl := qt_4 (List.mem_of_getElem? (i := 164) rfl) rfl
theorem w_983 : (.methodLink "SecretBuyers$Scorer" 156 (⟨"SecretBuyers$Scorer", "joinTwo", "(I)V"⟩ : MethodName) : Cond) ∈ qw_tbl := qt_4 (List.mem_of_getElem? (i := 165) rfl) rfl
theorem w_985 : (.instanceMethod (⟨"SecretBuyers$Scorer", "joinTwo", "(I)V"⟩ : MethodName) : Cond) ∈ qw_tbl := qt_4 (List.mem_of_getElem? (i := 167) rfl) rfl
theorem w_986 : (.code (⟨"SecretBuyers$Scorer", "joinTwo", "(I)V"⟩ : MethodName) prog_8_method_8_code 4 (Option.none : Option Jvm.ClassFile.FieldType) : Cond) ∈ qw_tbl := qt_4 (List.mem_of_getElem? (i := 168) rfl) rfl
theorem w_987 : (.methodLink "SecretBuyers$Scorer" 82 (⟨"java/lang/Math", "min", "(II)I"⟩ : MethodName) : Cond) ∈ qw_tbl := qt_4 (List.mem_of_getElem? (i := 169) rfl) rfl
theorem w_988 : (.methodLink "SecretBuyers$Scorer" 88 (⟨"java/lang/Math", "max", "(II)I"⟩ : MethodName) : Cond) ∈ qw_tbl := qt_4 (List.mem_of_getElem? (i := 170) rfl) rfl
theorem w_989 : (.methodLink "SecretBuyers$Means" 60 (⟨"java/util/Arrays", "fill", "([II)V"⟩ : MethodName) : Cond) ∈ qw_tbl := qt_4 (List.mem_of_getElem? (i := 171) rfl) rfl
theorem w_990 : (.methodLink "SecretBuyers$Means" 73 (⟨"SecretBuyers$Means", "isTaken", "(LSecretBuyers$Visit;)Z"⟩ : MethodName) : Cond) ∈ qw_tbl := qt_4 (List.mem_of_getElem? (i := 172) rfl) rfl
theorem w_992 : (.instanceMethod (⟨"SecretBuyers$Means", "isTaken", "(LSecretBuyers$Visit;)Z"⟩ : MethodName) : Cond) ∈ qw_tbl := qt_4 (List.mem_of_getElem? (i := 174) rfl) rfl
theorem w_993 : (.code (⟨"SecretBuyers$Means", "isTaken", "(LSecretBuyers$Visit;)Z"⟩ : MethodName) prog_5_method_3_code 2 (Option.some Jvm.ClassFile.FieldType.boolean) : Cond) ∈ qw_tbl := qt_4 (List.mem_of_getElem? (i := 175) rfl) rfl
theorem w_994 : (.methodLink "SecretBuyers$Means" 81 (⟨"SecretBuyers$Book", "isSeen", "(LSecretBuyers$Visit;)Z"⟩ : MethodName) : Cond) ∈ qw_tbl := qt_4 (List.mem_of_getElem? (i := 176) rfl) rfl
theorem w_995 : (.methodLink "SecretBuyers$Means" 84 (⟨"SecretBuyers$Visit", "counts", "()Z"⟩ : MethodName) : Cond) ∈ qw_tbl := qt_4 (List.mem_of_getElem? (i := 177) rfl) rfl
theorem w_996 : (.methodLink "SecretBuyers$Means" 77 (⟨"SecretBuyers$Means", "meetLater", "(I)V"⟩ : MethodName) : Cond) ∈ qw_tbl := qt_4 (List.mem_of_getElem? (i := 178) rfl) rfl
theorem w_998 : (.instanceMethod (⟨"SecretBuyers$Means", "meetLater", "(I)V"⟩ : MethodName) : Cond) ∈ qw_tbl := qt_4 (List.mem_of_getElem? (i := 180) rfl) rfl
theorem w_999 : (.code (⟨"SecretBuyers$Means", "meetLater", "(I)V"⟩ : MethodName) prog_5_method_4_code 6 (Option.none : Option Jvm.ClassFile.FieldType) : Cond) ∈ qw_tbl := qt_4 (List.mem_of_getElem? (i := 181) rfl) rfl
theorem w_1000 : (.methodLink "SecretBuyers$Means" 90 (⟨"SecretBuyers$Visit", "inWeek", "()I"⟩ : MethodName) : Cond) ∈ qw_tbl := qt_4 (List.mem_of_getElem? (i := 182) rfl) rfl
theorem w_1001 : (.methodLink "SecretBuyers$Means" 100 (⟨"SecretBuyers$Means", "meet", "(LSecretBuyers$Visit;LSecretBuyers$Visit;)V"⟩ : MethodName) : Cond) ∈ qw_tbl := qt_4 (List.mem_of_getElem? (i := 183) rfl) rfl
theorem w_1003 : (.instanceMethod (⟨"SecretBuyers$Means", "meet", "(LSecretBuyers$Visit;LSecretBuyers$Visit;)V"⟩ : MethodName) : Cond) ∈ qw_tbl := qt_4 (List.mem_of_getElem? (i := 185) rfl) rfl
theorem w_1004 : (.code (⟨"SecretBuyers$Means", "meet", "(LSecretBuyers$Visit;LSecretBuyers$Visit;)V"⟩ : MethodName) prog_5_method_5_code 3 (Option.none : Option Jvm.ClassFile.FieldType) : Cond) ∈ qw_tbl := qt_4 (List.mem_of_getElem? (i := 186) rfl) rfl
theorem w_1005 : (.methodLink "SecretBuyers" 265 (⟨"SecretBuyers$Means", "meetingsOf", "(II)I"⟩ : MethodName) : Cond) ∈ qw_tbl := qt_4 (List.mem_of_getElem? (i := 187) rfl) rfl
theorem w_1006 : (.instanceMethod (⟨"SecretBuyers$Means", "meetingsOf", "(II)I"⟩ : MethodName) : Cond) ∈ qw_tbl := qt_4 (List.mem_of_getElem? (i := 188) rfl) rfl
theorem w_1007 : (.selects "SecretBuyers$Means" (⟨"SecretBuyers$Means", "meetingsOf", "(II)I"⟩ : MethodName) (⟨"SecretBuyers$Means", "meetingsOf", "(II)I"⟩ : MethodName) : Cond) ∈ qw_tbl := qt_4 (List.mem_of_getElem? (i := 189) rfl) rfl
theorem w_1008 : (.code (⟨"SecretBuyers$Means", "meetingsOf", "(II)I"⟩ : MethodName) prog_5_method_6_code 3 (Option.some Jvm.ClassFile.FieldType.int) : Cond) ∈ qw_tbl := qt_4 (List.mem_of_getElem? (i := 190) rfl) rfl
theorem w_1009 : (.methodLink "SecretBuyersLaw" 107 (⟨"SecretBuyers", "doubt", "(III)I"⟩ : MethodName) : Cond) ∈ qw_tbl := qt_4 (List.mem_of_getElem? (i := 191) rfl) rfl
theorem w_1010 : (.instanceMethod (⟨"SecretBuyers", "doubt", "(III)I"⟩ : MethodName) : Cond) ∈ qw_tbl := qt_4 (List.mem_of_getElem? (i := 192) rfl) rfl
theorem w_1011 : (.selects "SecretBuyers" (⟨"SecretBuyers", "doubt", "(III)I"⟩ : MethodName) (⟨"SecretBuyers", "doubt", "(III)I"⟩ : MethodName) : Cond) ∈ qw_tbl := qt_4 (List.mem_of_getElem? (i := 193) rfl) rfl
theorem w_1012 : (.code (⟨"SecretBuyers", "doubt", "(III)I"⟩ : MethodName) prog_1_method_19_code 4 (Option.some Jvm.ClassFile.FieldType.int) : Cond) ∈ qw_tbl := qt_4 (List.mem_of_getElem? (i := 194) rfl) rfl
theorem w_1013 : (.methodLink "SecretBuyers" 268 (⟨"SecretBuyers", "hasMean", "(III)Z"⟩ : MethodName) : Cond) ∈ qw_tbl := qt_4 (List.mem_of_getElem? (i := 195) rfl) rfl
theorem w_1015 : (.instanceMethod (⟨"SecretBuyers", "hasMean", "(III)Z"⟩ : MethodName) : Cond) ∈ qw_tbl := qt_4 (List.mem_of_getElem? (i := 197) rfl) rfl
theorem w_1016 : (.code (⟨"SecretBuyers", "hasMean", "(III)Z"⟩ : MethodName) prog_1_method_30_code 4 (Option.some Jvm.ClassFile.FieldType.boolean) : Cond) ∈ qw_tbl := qt_4 (List.mem_of_getElem? (i := 198) rfl) rfl
theorem w_1017 : (.methodLink "SecretBuyers" 285 (⟨"SecretBuyers", "isSpan", "(II)Z"⟩ : MethodName) : Cond) ∈ qw_tbl := qt_4 (List.mem_of_getElem? (i := 199) rfl) rfl
theorem w_1018 : (.static (⟨"SecretBuyers", "isSpan", "(II)Z"⟩ : MethodName) : Cond) ∈ qw_tbl := qt_4 (List.mem_of_getElem? (i := 200) rfl) rfl
theorem w_1019 : (.code (⟨"SecretBuyers", "isSpan", "(II)Z"⟩ : MethodName) prog_1_method_35_code 2 (Option.some Jvm.ClassFile.FieldType.boolean) : Cond) ∈ qw_tbl := qt_4 (List.mem_of_getElem? (i := 201) rfl) rfl
theorem w_1020 : (.methodLink "SecretBuyers" 288 (⟨"SecretBuyers$Means", "addDays", "(II)V"⟩ : MethodName) : Cond) ∈ qw_tbl := qt_4 (List.mem_of_getElem? (i := 202) rfl) rfl
theorem w_1021 : (.instanceMethod (⟨"SecretBuyers$Means", "addDays", "(II)V"⟩ : MethodName) : Cond) ∈ qw_tbl := qt_4 (List.mem_of_getElem? (i := 203) rfl) rfl
theorem w_1022 : (.selects "SecretBuyers$Means" (⟨"SecretBuyers$Means", "addDays", "(II)V"⟩ : MethodName) (⟨"SecretBuyers$Means", "addDays", "(II)V"⟩ : MethodName) : Cond) ∈ qw_tbl := qt_4 (List.mem_of_getElem? (i := 204) rfl) rfl
theorem w_1023 : (.code (⟨"SecretBuyers$Means", "addDays", "(II)V"⟩ : MethodName) prog_5_method_10_code 5 (Option.none : Option Jvm.ClassFile.FieldType) : Cond) ∈ qw_tbl := qt_4 (List.mem_of_getElem? (i := 205) rfl) rfl
theorem w_1024 : (.methodLinkNest "SecretBuyers$Means" 117 (⟨"SecretBuyers", "isWithin", "(III)Z"⟩ : MethodName) "SecretBuyers" : Cond) ∈ lw_tbl := (fun h => List.mem_append_right _ (List.mem_append_right _ (List.mem_append_right _ (List.mem_append_right _ (List.mem_append_left _ h))))) (List.mem_of_getElem? (l := tables_1_4) (i := 206) rfl)
theorem w_1025 : (.methodLink "SecretBuyers$Means" 121 (⟨"SecretBuyers$Means", "fairScore", "(LSecretBuyers$Visit;)I"⟩ : MethodName) : Cond) ∈ qw_tbl := qt_4 (List.mem_of_getElem? (i := 207) rfl) rfl
theorem w_1026 : (.instanceMethod (⟨"SecretBuyers$Means", "fairScore", "(LSecretBuyers$Visit;)I"⟩ : MethodName) : Cond) ∈ qw_tbl := qt_4 (List.mem_of_getElem? (i := 208) rfl) rfl
theorem w_1027 : (.selects "SecretBuyers$Means" (⟨"SecretBuyers$Means", "fairScore", "(LSecretBuyers$Visit;)I"⟩ : MethodName) (⟨"SecretBuyers$Means", "fairScore", "(LSecretBuyers$Visit;)I"⟩ : MethodName) : Cond) ∈ qw_tbl := qt_4 (List.mem_of_getElem? (i := 209) rfl) rfl
theorem w_1028 : (.code (⟨"SecretBuyers$Means", "fairScore", "(LSecretBuyers$Visit;)I"⟩ : MethodName) prog_5_method_9_code 2 (Option.some Jvm.ClassFile.FieldType.int) : Cond) ∈ qw_tbl := qt_4 (List.mem_of_getElem? (i := 210) rfl) rfl
theorem w_1029 : (.methodLink "SecretBuyers$Means" 107 (⟨"SecretBuyers$Means", "leanOf", "(I)I"⟩ : MethodName) : Cond) ∈ qw_tbl := qt_4 (List.mem_of_getElem? (i := 211) rfl) rfl
theorem w_1030 : (.instanceMethod (⟨"SecretBuyers$Means", "leanOf", "(I)I"⟩ : MethodName) : Cond) ∈ qw_tbl := qt_4 (List.mem_of_getElem? (i := 212) rfl) rfl
theorem w_1031 : (.selects "SecretBuyers$Means" (⟨"SecretBuyers$Means", "leanOf", "(I)I"⟩ : MethodName) (⟨"SecretBuyers$Means", "leanOf", "(I)I"⟩ : MethodName) : Cond) ∈ qw_tbl := qt_4 (List.mem_of_getElem? (i := 213) rfl) rfl
theorem w_1032 : (.code (⟨"SecretBuyers$Means", "leanOf", "(I)I"⟩ : MethodName) prog_5_method_8_code 2 (Option.some Jvm.ClassFile.FieldType.int) : Cond) ∈ qw_tbl := qt_4 (List.mem_of_getElem? (i := 214) rfl) rfl
theorem w_1033 : (.methodLink "SecretBuyers" 279 (⟨"SecretBuyers$Means", "isMet", "(I)Z"⟩ : MethodName) : Cond) ∈ qw_tbl := qt_4 (List.mem_of_getElem? (i := 215) rfl) rfl
theorem w_1034 : (.instanceMethod (⟨"SecretBuyers$Means", "isMet", "(I)Z"⟩ : MethodName) : Cond) ∈ qw_tbl := qt_4 (List.mem_of_getElem? (i := 216) rfl) rfl
theorem w_1035 : (.selects "SecretBuyers$Means" (⟨"SecretBuyers$Means", "isMet", "(I)Z"⟩ : MethodName) (⟨"SecretBuyers$Means", "isMet", "(I)Z"⟩ : MethodName) : Cond) ∈ qw_tbl := qt_4 (List.mem_of_getElem? (i := 217) rfl) rfl
theorem w_1036 : (.code (⟨"SecretBuyers$Means", "isMet", "(I)Z"⟩ : MethodName) prog_5_method_11_code 2 (Option.some Jvm.ClassFile.FieldType.boolean) : Cond) ∈ qw_tbl := qt_4 (List.mem_of_getElem? (i := 218) rfl) rfl
theorem w_1037 : (.methodLink "SecretBuyers" 276 (⟨"SecretBuyers$Means", "doubtOf", "(II)I"⟩ : MethodName) : Cond) ∈ qw_tbl := qt_4 (List.mem_of_getElem? (i := 219) rfl) rfl
theorem w_1038 : (.instanceMethod (⟨"SecretBuyers$Means", "doubtOf", "(II)I"⟩ : MethodName) : Cond) ∈ qw_tbl := qt_4 (List.mem_of_getElem? (i := 220) rfl) rfl
theorem w_1039 : (.selects "SecretBuyers$Means" (⟨"SecretBuyers$Means", "doubtOf", "(II)I"⟩ : MethodName) (⟨"SecretBuyers$Means", "doubtOf", "(II)I"⟩ : MethodName) : Cond) ∈ qw_tbl := qt_4 (List.mem_of_getElem? (i := 221) rfl) rfl
theorem w_1040 : (.code (⟨"SecretBuyers$Means", "doubtOf", "(II)I"⟩ : MethodName) prog_5_method_13_code 3 (Option.some Jvm.ClassFile.FieldType.int) : Cond) ∈ qw_tbl := qt_4 (List.mem_of_getElem? (i := 222) rfl) rfl
theorem w_1041 : (.methodLink "SecretBuyersLaw" 111 (⟨"SecretBuyers", "apart", "(IIII)I"⟩ : MethodName) : Cond) ∈ qw_tbl := qt_4 (List.mem_of_getElem? (i := 223) rfl) rfl
theorem w_1042 : (.instanceMethod (⟨"SecretBuyers", "apart", "(IIII)I"⟩ : MethodName) : Cond) ∈ qw_tbl := qt_4 (List.mem_of_getElem? (i := 224) rfl) rfl
theorem w_1043 : (.selects "SecretBuyers" (⟨"SecretBuyers", "apart", "(IIII)I"⟩ : MethodName) (⟨"SecretBuyers", "apart", "(IIII)I"⟩ : MethodName) : Cond) ∈ qw_tbl := qt_4 (List.mem_of_getElem? (i := 225) rfl) rfl
theorem w_1044 : (.code (⟨"SecretBuyers", "apart", "(IIII)I"⟩ : MethodName) prog_1_method_20_code 5 (Option.some Jvm.ClassFile.FieldType.int) : Cond) ∈ qw_tbl := qt_4 (List.mem_of_getElem? (i := 226) rfl) rfl
theorem w_1045 : (.methodLink "SecretBuyers" 282 (⟨"SecretBuyers$Means", "isLess", "(III)Z"⟩ : MethodName) : Cond) ∈ qw_tbl := qt_4 (List.mem_of_getElem? (i := 227) rfl) rfl
theorem w_1046 : (.instanceMethod (⟨"SecretBuyers$Means", "isLess", "(III)Z"⟩ : MethodName) : Cond) ∈ qw_tbl := qt_4 (List.mem_of_getElem? (i := 228) rfl) rfl
theorem w_1047 : (.selects "SecretBuyers$Means" (⟨"SecretBuyers$Means", "isLess", "(III)Z"⟩ : MethodName) (⟨"SecretBuyers$Means", "isLess", "(III)Z"⟩ : MethodName) : Cond) ∈ qw_tbl := qt_4 (List.mem_of_getElem? (i := 229) rfl) rfl
theorem w_1048 : (.code (⟨"SecretBuyers$Means", "isLess", "(III)Z"⟩ : MethodName) prog_5_method_14_code 4 (Option.some Jvm.ClassFile.FieldType.boolean) : Cond) ∈ qw_tbl := qt_4 (List.mem_of_getElem? (i := 230) rfl) rfl
theorem w_1049 : (.methodLink "SecretBuyers$Means" 125 (⟨"SecretBuyers$Means", "meanOf", "(I)I"⟩ : MethodName) : Cond) ∈ qw_tbl := qt_4 (List.mem_of_getElem? (i := 231) rfl) rfl
theorem w_1050 : (.instanceMethod (⟨"SecretBuyers$Means", "meanOf", "(I)I"⟩ : MethodName) : Cond) ∈ qw_tbl := qt_4 (List.mem_of_getElem? (i := 232) rfl) rfl
theorem w_1051 : (.selects "SecretBuyers$Means" (⟨"SecretBuyers$Means", "meanOf", "(I)I"⟩ : MethodName) (⟨"SecretBuyers$Means", "meanOf", "(I)I"⟩ : MethodName) : Cond) ∈ qw_tbl := qt_4 (List.mem_of_getElem? (i := 233) rfl) rfl
theorem w_1052 : (.code (⟨"SecretBuyers$Means", "meanOf", "(I)I"⟩ : MethodName) prog_5_method_12_code 2 (Option.some Jvm.ClassFile.FieldType.int) : Cond) ∈ qw_tbl := qt_4 (List.mem_of_getElem? (i := 234) rfl) rfl
theorem w_1053 : (.methodLink "SecretBuyers$Means" 128 (⟨"SecretBuyers$Means", "doubtOf", "(II)I"⟩ : MethodName) : Cond) ∈ qw_tbl := qt_4 (List.mem_of_getElem? (i := 235) rfl) rfl
theorem w_1054 : (.methodLink "SecretBuyersLaw" 116 (⟨"SecretBuyers", "order", "(IIII)I"⟩ : MethodName) : Cond) ∈ qw_tbl := qt_4 (List.mem_of_getElem? (i := 236) rfl) rfl
theorem w_1055 : (.instanceMethod (⟨"SecretBuyers", "order", "(IIII)I"⟩ : MethodName) : Cond) ∈ qw_tbl := qt_4 (List.mem_of_getElem? (i := 237) rfl) rfl
theorem w_1056 : (.selects "SecretBuyers" (⟨"SecretBuyers", "order", "(IIII)I"⟩ : MethodName) (⟨"SecretBuyers", "order", "(IIII)I"⟩ : MethodName) : Cond) ∈ qw_tbl := qt_4 (List.mem_of_getElem? (i := 238) rfl) rfl
theorem w_1057 : (.code (⟨"SecretBuyers", "order", "(IIII)I"⟩ : MethodName) prog_1_method_21_code 5 (Option.some Jvm.ClassFile.FieldType.int) : Cond) ∈ qw_tbl := qt_4 (List.mem_of_getElem? (i := 239) rfl) rfl
theorem w_1058 : (.methodLink "SecretBuyers" 291 (⟨"SecretBuyers$Means", "rankChain", "(I)I"⟩ : MethodName) : Cond) ∈ qw_tbl := qt_5 (List.mem_of_getElem? (i := 0) rfl) rfl
theorem w_1059 : (.instanceMethod (⟨"SecretBuyers$Means", "rankChain", "(I)I"⟩ : MethodName) : Cond) ∈ qw_tbl := qt_5 (List.mem_of_getElem? (i := 1) rfl) rfl
theorem w_1060 : (.selects "SecretBuyers$Means" (⟨"SecretBuyers$Means", "rankChain", "(I)I"⟩ : MethodName) (⟨"SecretBuyers$Means", "rankChain", "(I)I"⟩ : MethodName) : Cond) ∈ qw_tbl := qt_5 (List.mem_of_getElem? (i := 2) rfl) rfl
theorem w_1061 : (.code (⟨"SecretBuyers$Means", "rankChain", "(I)I"⟩ : MethodName) prog_5_method_15_code 3 (Option.some Jvm.ClassFile.FieldType.int) : Cond) ∈ qw_tbl := qt_5 (List.mem_of_getElem? (i := 3) rfl) rfl
theorem w_1062 : (.methodLink "SecretBuyers$Means" 147 (⟨"SecretBuyers$Means", "isMet", "(I)Z"⟩ : MethodName) : Cond) ∈ qw_tbl := qt_5 (List.mem_of_getElem? (i := 4) rfl) rfl
theorem w_1063 : (.methodLink "SecretBuyers$Means" 151 (⟨"SecretBuyers$Means", "rankShop", "(I)V"⟩ : MethodName) : Cond) ∈ qw_tbl := qt_5 (List.mem_of_getElem? (i := 5) rfl) rfl
theorem w_1065 : (.instanceMethod (⟨"SecretBuyers$Means", "rankShop", "(I)V"⟩ : MethodName) : Cond) ∈ qw_tbl := qt_5 (List.mem_of_getElem? (i := 7) rfl) rfl
theorem w_1066 : (.code (⟨"SecretBuyers$Means", "rankShop", "(I)V"⟩ : MethodName) prog_5_method_16_code 3 (Option.none : Option Jvm.ClassFile.FieldType) : Cond) ∈ qw_tbl := qt_5 (List.mem_of_getElem? (i := 8) rfl) rfl
theorem w_1067 : (.methodLink "SecretBuyers" 294 (⟨"SecretBuyers$Means", "longestRow", "(I)I"⟩ : MethodName) : Cond) ∈ qw_tbl := qt_5 (List.mem_of_getElem? (i := 9) rfl) rfl
theorem w_1068 : (.instanceMethod (⟨"SecretBuyers$Means", "longestRow", "(I)I"⟩ : MethodName) : Cond) ∈ qw_tbl := qt_5 (List.mem_of_getElem? (i := 10) rfl) rfl
theorem w_1069 : (.selects "SecretBuyers$Means" (⟨"SecretBuyers$Means", "longestRow", "(I)I"⟩ : MethodName) (⟨"SecretBuyers$Means", "longestRow", "(I)I"⟩ : MethodName) : Cond) ∈ qw_tbl := qt_5 (List.mem_of_getElem? (i := 11) rfl) rfl
theorem w_1070 : (.code (⟨"SecretBuyers$Means", "longestRow", "(I)I"⟩ : MethodName) prog_5_method_17_code 5 (Option.some Jvm.ClassFile.FieldType.int) : Cond) ∈ qw_tbl := qt_5 (List.mem_of_getElem? (i := 12) rfl) rfl
theorem w_1071 : (.methodLink "SecretBuyers$Means" 154 (⟨"SecretBuyers$Means", "isLess", "(III)Z"⟩ : MethodName) : Cond) ∈ qw_tbl := qt_5 (List.mem_of_getElem? (i := 13) rfl) rfl
theorem w_1072 : (.methodLink "SecretBuyers$Means" 157 (⟨"java/lang/Math", "max", "(II)I"⟩ : MethodName) : Cond) ∈ qw_tbl := qt_5 (List.mem_of_getElem? (i := 14) rfl) rfl
theorem w_1073 : (.methodLink "SecretBuyers" 297 (⟨"SecretBuyers$Means", "leadBits", "(I)I"⟩ : MethodName) : Cond) ∈ qw_tbl := qt_5 (List.mem_of_getElem? (i := 15) rfl) rfl
theorem w_1074 : (.instanceMethod (⟨"SecretBuyers$Means", "leadBits", "(I)I"⟩ : MethodName) : Cond) ∈ qw_tbl := qt_5 (List.mem_of_getElem? (i := 16) rfl) rfl
theorem w_1075 : (.selects "SecretBuyers$Means" (⟨"SecretBuyers$Means", "leadBits", "(I)I"⟩ : MethodName) (⟨"SecretBuyers$Means", "leadBits", "(I)I"⟩ : MethodName) : Cond) ∈ qw_tbl := qt_5 (List.mem_of_getElem? (i := 17) rfl) rfl
theorem w_1076 : (.code (⟨"SecretBuyers$Means", "leadBits", "(I)I"⟩ : MethodName) prog_5_method_18_code 4 (Option.some Jvm.ClassFile.FieldType.int) : Cond) ∈ qw_tbl := qt_5 (List.mem_of_getElem? (i := 18) rfl) rfl
theorem w_1077 : (.methodLink "SecretBuyers$Means" 162 (⟨"SecretBuyers$Means", "isBeaten", "(II)Z"⟩ : MethodName) : Cond) ∈ qw_tbl := qt_5 (List.mem_of_getElem? (i := 19) rfl) rfl
theorem w_1079 : (.instanceMethod (⟨"SecretBuyers$Means", "isBeaten", "(II)Z"⟩ : MethodName) : Cond) ∈ qw_tbl := qt_5 (List.mem_of_getElem? (i := 21) rfl) rfl
theorem w_1080 : (.code (⟨"SecretBuyers$Means", "isBeaten", "(II)Z"⟩ : MethodName) prog_5_method_19_code 4 (Option.some Jvm.ClassFile.FieldType.boolean) : Cond) ∈ qw_tbl := qt_5 (List.mem_of_getElem? (i := 22) rfl) rfl
theorem w_1081 : (.methodLink "SecretBuyersLaw" 120 (⟨"SecretBuyers", "enough", "(IIII)I"⟩ : MethodName) : Cond) ∈ qw_tbl := qt_5 (List.mem_of_getElem? (i := 23) rfl) rfl
theorem w_1082 : (.instanceMethod (⟨"SecretBuyers", "enough", "(IIII)I"⟩ : MethodName) : Cond) ∈ qw_tbl := qt_5 (List.mem_of_getElem? (i := 24) rfl) rfl
theorem w_1083 : (.selects "SecretBuyers" (⟨"SecretBuyers", "enough", "(IIII)I"⟩ : MethodName) (⟨"SecretBuyers", "enough", "(IIII)I"⟩ : MethodName) : Cond) ∈ qw_tbl := qt_5 (List.mem_of_getElem? (i := 25) rfl) rfl
theorem w_1084 : (.code (⟨"SecretBuyers", "enough", "(IIII)I"⟩ : MethodName) prog_1_method_22_code 7 (Option.some Jvm.ClassFile.FieldType.int) : Cond) ∈ qw_tbl := qt_5 (List.mem_of_getElem? (i := 26) rfl) rfl
theorem w_1085 : (.methodLink "SecretBuyers" 273 (⟨"SecretBuyers$Means", "meanOf", "(I)I"⟩ : MethodName) : Cond) ∈ qw_tbl := qt_5 (List.mem_of_getElem? (i := 27) rfl) rfl
theorem w_1086 : (.methodLink "SecretBuyers" 300 (⟨"java/lang/Math", "abs", "(I)I"⟩ : MethodName) : Cond) ∈ qw_tbl := qt_5 (List.mem_of_getElem? (i := 28) rfl) rfl
theorem w_1087 : (.methodLink "SecretBuyersLaw" 124 (⟨"SecretBuyers", "may", "(III)I"⟩ : MethodName) : Cond) ∈ qw_tbl := qt_5 (List.mem_of_getElem? (i := 29) rfl) rfl
theorem w_1088 : (.instanceMethod (⟨"SecretBuyers", "may", "(III)I"⟩ : MethodName) : Cond) ∈ qw_tbl := qt_5 (List.mem_of_getElem? (i := 30) rfl) rfl
theorem w_1089 : (.selects "SecretBuyers" (⟨"SecretBuyers", "may", "(III)I"⟩ : MethodName) (⟨"SecretBuyers", "may", "(III)I"⟩ : MethodName) : Cond) ∈ qw_tbl := qt_5 (List.mem_of_getElem? (i := 31) rfl) rfl
theorem w_1090 : (.code (⟨"SecretBuyers", "may", "(III)I"⟩ : MethodName) prog_1_method_23_code 4 (Option.some Jvm.ClassFile.FieldType.int) : Cond) ∈ qw_tbl := qt_5 (List.mem_of_getElem? (i := 32) rfl) rfl
theorem w_1091 : (.methodLink "SecretBuyers" 305 (⟨"SecretBuyers$Book", "mayGo", "(III)Z"⟩ : MethodName) : Cond) ∈ qw_tbl := qt_5 (List.mem_of_getElem? (i := 33) rfl) rfl
theorem w_1092 : (.instanceMethod (⟨"SecretBuyers$Book", "mayGo", "(III)Z"⟩ : MethodName) : Cond) ∈ qw_tbl := qt_5 (List.mem_of_getElem? (i := 34) rfl) rfl
theorem w_1093 : (.selects "SecretBuyers$Book" (⟨"SecretBuyers$Book", "mayGo", "(III)Z"⟩ : MethodName) (⟨"SecretBuyers$Book", "mayGo", "(III)Z"⟩ : MethodName) : Cond) ∈ qw_tbl := qt_5 (List.mem_of_getElem? (i := 35) rfl) rfl
theorem w_1094 : (.code (⟨"SecretBuyers$Book", "mayGo", "(III)Z"⟩ : MethodName) prog_2_method_19_code 6 (Option.some Jvm.ClassFile.FieldType.boolean) : Cond) ∈ qw_tbl := qt_5 (List.mem_of_getElem? (i := 36) rfl) rfl
theorem w_1095 : (.methodLink "SecretBuyers$Book" 142 (⟨"SecretBuyers$Book", "wayFromHome", "(II)I"⟩ : MethodName) : Cond) ∈ qw_tbl := qt_5 (List.mem_of_getElem? (i := 37) rfl) rfl
theorem w_1096 : (.instanceMethod (⟨"SecretBuyers$Book", "wayFromHome", "(II)I"⟩ : MethodName) : Cond) ∈ qw_tbl := qt_5 (List.mem_of_getElem? (i := 38) rfl) rfl
theorem w_1097 : (.selects "SecretBuyers$Book" (⟨"SecretBuyers$Book", "wayFromHome", "(II)I"⟩ : MethodName) (⟨"SecretBuyers$Book", "wayFromHome", "(II)I"⟩ : MethodName) : Cond) ∈ qw_tbl := qt_5 (List.mem_of_getElem? (i := 39) rfl) rfl
theorem w_1098 : (.code (⟨"SecretBuyers$Book", "wayFromHome", "(II)I"⟩ : MethodName) prog_2_method_18_code 3 (Option.some Jvm.ClassFile.FieldType.int) : Cond) ∈ qw_tbl := qt_5 (List.mem_of_getElem? (i := 40) rfl) rfl
theorem w_1099 : (.methodLink "SecretBuyers$Book" 138 (⟨"SecretBuyers$Place", "wayTo", "(LSecretBuyers$Place;)I"⟩ : MethodName) : Cond) ∈ qw_tbl := qt_5 (List.mem_of_getElem? (i := 41) rfl) rfl
theorem w_1100 : (.methodLink "SecretBuyers$Book" 146 (⟨"SecretBuyers$Book", "isTooNear", "(LSecretBuyers$Visit;II)Z"⟩ : MethodName) : Cond) ∈ qw_tbl := qt_5 (List.mem_of_getElem? (i := 42) rfl) rfl
theorem w_1102 : (.instanceMethod (⟨"SecretBuyers$Book", "isTooNear", "(LSecretBuyers$Visit;II)Z"⟩ : MethodName) : Cond) ∈ qw_tbl := qt_5 (List.mem_of_getElem? (i := 44) rfl) rfl
theorem w_1103 : (.code (⟨"SecretBuyers$Book", "isTooNear", "(LSecretBuyers$Visit;II)Z"⟩ : MethodName) prog_2_method_20_code 5 (Option.some Jvm.ClassFile.FieldType.boolean) : Cond) ∈ qw_tbl := qt_5 (List.mem_of_getElem? (i := 45) rfl) rfl
theorem w_1104 : (.methodLink "SecretBuyers$Book" 150 (⟨"java/lang/Math", "abs", "(I)I"⟩ : MethodName) : Cond) ∈ qw_tbl := qt_5 (List.mem_of_getElem? (i := 46) rfl) rfl
theorem w_1105 : (.methodLink "SecretBuyersLaw" 128 (⟨"SecretBuyers", "given", "(III)I"⟩ : MethodName) : Cond) ∈ qw_tbl := qt_5 (List.mem_of_getElem? (i := 47) rfl) rfl
theorem w_1106 : (.instanceMethod (⟨"SecretBuyers", "given", "(III)I"⟩ : MethodName) : Cond) ∈ qw_tbl := qt_5 (List.mem_of_getElem? (i := 48) rfl) rfl
theorem w_1107 : (.selects "SecretBuyers" (⟨"SecretBuyers", "given", "(III)I"⟩ : MethodName) (⟨"SecretBuyers", "given", "(III)I"⟩ : MethodName) : Cond) ∈ qw_tbl := qt_5 (List.mem_of_getElem? (i := 49) rfl) rfl
theorem w_1108 : (.code (⟨"SecretBuyers", "given", "(III)I"⟩ : MethodName) prog_1_method_24_code 4 (Option.some Jvm.ClassFile.FieldType.int) : Cond) ∈ qw_tbl := qt_5 (List.mem_of_getElem? (i := 50) rfl) rfl
theorem w_1109 : (.methodLink "SecretBuyers" 308 (⟨"java/lang/Integer", "bitCount", "(I)I"⟩ : MethodName) : Cond) ∈ qw_tbl := qt_5 (List.mem_of_getElem? (i := 51) rfl) rfl
theorem w_1110 : (.methodLink "SecretBuyers" 313 (⟨"SecretBuyers$Giver", "give", "(II)Z"⟩ : MethodName) : Cond) ∈ qw_tbl := qt_5 (List.mem_of_getElem? (i := 52) rfl) rfl
theorem w_1111 : (.instanceMethod (⟨"SecretBuyers$Giver", "give", "(II)Z"⟩ : MethodName) : Cond) ∈ qw_tbl := qt_5 (List.mem_of_getElem? (i := 53) rfl) rfl
theorem w_1112 : (.selects "SecretBuyers$Giver" (⟨"SecretBuyers$Giver", "give", "(II)Z"⟩ : MethodName) (⟨"SecretBuyers$Giver", "give", "(II)Z"⟩ : MethodName) : Cond) ∈ qw_tbl := qt_5 (List.mem_of_getElem? (i := 54) rfl) rfl
theorem w_1113 : (.code (⟨"SecretBuyers$Giver", "give", "(II)Z"⟩ : MethodName) prog_4_method_2_code 4 (Option.some Jvm.ClassFile.FieldType.boolean) : Cond) ∈ qw_tbl := qt_5 (List.mem_of_getElem? (i := 55) rfl) rfl
theorem w_1114 : (.methodLink "SecretBuyers$Giver" 26 (⟨"SecretBuyers$Giver", "listShops", "(I)V"⟩ : MethodName) : Cond) ∈ qw_tbl := qt_5 (List.mem_of_getElem? (i := 56) rfl) rfl
theorem w_1116 : (.instanceMethod (⟨"SecretBuyers$Giver", "listShops", "(I)V"⟩ : MethodName) : Cond) ∈ qw_tbl := qt_5 (List.mem_of_getElem? (i := 58) rfl) rfl
theorem w_1117 : (.code (⟨"SecretBuyers$Giver", "listShops", "(I)V"⟩ : MethodName) prog_4_method_5_code 3 (Option.none : Option Jvm.ClassFile.FieldType) : Cond) ∈ qw_tbl := qt_5 (List.mem_of_getElem? (i := 59) rfl) rfl
theorem w_1118 : (.constantLong "SecretBuyers$Giver" 30 1152921504606846976 : Cond) ∈ qw_tbl := qt_5 (List.mem_of_getElem? (i := 60) rfl) rfl
theorem w_1119 : (.methodLink "SecretBuyers$Giver" 32 (⟨"java/util/Arrays", "fill", "([JJ)V"⟩ : MethodName) : Cond) ∈ qw_tbl := qt_5 (List.mem_of_getElem? (i := 61) rfl) rfl
theorem w_1120 : (.static (⟨"java/util/Arrays", "fill", "([JJ)V"⟩ : MethodName) : Cond) ∈ qw_tbl := qt_5 (List.mem_of_getElem? (i := 62) rfl) rfl
theorem w_1121 : (.code (⟨"java/util/Arrays", "fill", "([JJ)V"⟩ : MethodName) prog_23_method_101_code 5 (Option.none : Option Jvm.ClassFile.FieldType) : Cond) ∈ qw_tbl := qt_5 (List.mem_of_getElem? (i := 63) rfl) rfl
theorem w_1122 : (.methodLink "SecretBuyers$Giver" 44 (⟨"SecretBuyers$Giver", "setPrices", "(II)V"⟩ : MethodName) : Cond) ∈ qw_tbl := qt_5 (List.mem_of_getElem? (i := 64) rfl) rfl
theorem w_1124 : (.instanceMethod (⟨"SecretBuyers$Giver", "setPrices", "(II)V"⟩ : MethodName) : Cond) ∈ qw_tbl := qt_5 (List.mem_of_getElem? (i := 66) rfl) rfl
theorem w_1125 : (.code (⟨"SecretBuyers$Giver", "setPrices", "(II)V"⟩ : MethodName) prog_4_method_7_code 6 (Option.none : Option Jvm.ClassFile.FieldType) : Cond) ∈ qw_tbl := qt_5 (List.mem_of_getElem? (i := 67) rfl) rfl
theorem w_1126 : (.methodLink "SecretBuyers$Giver" 61 (⟨"SecretBuyers$Book", "mayGo", "(III)Z"⟩ : MethodName) : Cond) ∈ qw_tbl := qt_5 (List.mem_of_getElem? (i := 68) rfl) rfl
theorem w_1127 : (.methodLink "SecretBuyers$Giver" 65 (⟨"SecretBuyers$Book", "wayFromHome", "(II)I"⟩ : MethodName) : Cond) ∈ qw_tbl := qt_5 (List.mem_of_getElem? (i := 69) rfl) rfl
theorem w_1128 : (.methodLink "SecretBuyers$Giver" 54 (⟨"SecretBuyers$Giver", "buyerShift", "(I)I"⟩ : MethodName) : Cond) ∈ qw_tbl := qt_5 (List.mem_of_getElem? (i := 70) rfl) rfl
theorem w_1129 : (.static (⟨"SecretBuyers$Giver", "buyerShift", "(I)I"⟩ : MethodName) : Cond) ∈ qw_tbl := qt_5 (List.mem_of_getElem? (i := 71) rfl) rfl
theorem w_1130 : (.code (⟨"SecretBuyers$Giver", "buyerShift", "(I)I"⟩ : MethodName) prog_4_method_6_code 1 (Option.some Jvm.ClassFile.FieldType.int) : Cond) ∈ qw_tbl := qt_5 (List.mem_of_getElem? (i := 72) rfl) rfl
theorem w_1131 : (.methodLink "SecretBuyers$Giver" 48 (⟨"SecretBuyers$Giver", "sendOnce", "()V"⟩ : MethodName) : Cond) ∈ qw_tbl := qt_5 (List.mem_of_getElem? (i := 73) rfl) rfl
theorem w_1133 : (.instanceMethod (⟨"SecretBuyers$Giver", "sendOnce", "()V"⟩ : MethodName) : Cond) ∈ qw_tbl := qt_5 (List.mem_of_getElem? (i := 75) rfl) rfl
theorem w_1134 : (.code (⟨"SecretBuyers$Giver", "sendOnce", "()V"⟩ : MethodName) prog_4_method_8_code 3 (Option.none : Option Jvm.ClassFile.FieldType) : Cond) ∈ qw_tbl := qt_5 (List.mem_of_getElem? (i := 76) rfl) rfl
theorem w_1135 : (.methodLink "SecretBuyers$Giver" 69 (⟨"java/lang/Math", "min", "(JJ)J"⟩ : MethodName) : Cond) ∈ qw_tbl := qt_5 (List.mem_of_getElem? (i := 77) rfl) rfl
theorem w_1136 : (.static (⟨"java/lang/Math", "min", "(JJ)J"⟩ : MethodName) : Cond) ∈ qw_tbl := qt_5 (List.mem_of_getElem? (i := 78) rfl) rfl
theorem w_1137 : (.code (⟨"java/lang/Math", "min", "(JJ)J"⟩ : MethodName) prog_18_method_70_code 4 (Option.some Jvm.ClassFile.FieldType.long) : Cond) ∈ qw_tbl := qt_5 (List.mem_of_getElem? (i := 79) rfl) rfl
theorem w_1138 : (.methodLink "SecretBuyers" 316 (⟨"SecretBuyers$Giver", "wholeWay", "()I"⟩ : MethodName) : Cond) ∈ qw_tbl := qt_5 (List.mem_of_getElem? (i := 80) rfl) rfl
theorem w_1139 : (.instanceMethod (⟨"SecretBuyers$Giver", "wholeWay", "()I"⟩ : MethodName) : Cond) ∈ qw_tbl := qt_5 (List.mem_of_getElem? (i := 81) rfl) rfl
theorem w_1140 : (.selects "SecretBuyers$Giver" (⟨"SecretBuyers$Giver", "wholeWay", "()I"⟩ : MethodName) (⟨"SecretBuyers$Giver", "wholeWay", "()I"⟩ : MethodName) : Cond) ∈ qw_tbl := qt_5 (List.mem_of_getElem? (i := 82) rfl) rfl
theorem w_1141 : (.code (⟨"SecretBuyers$Giver", "wholeWay", "()I"⟩ : MethodName) prog_4_method_3_code 1 (Option.some Jvm.ClassFile.FieldType.int) : Cond) ∈ qw_tbl := qt_5 (List.mem_of_getElem? (i := 83) rfl) rfl
theorem w_1142 : (.methodLink "SecretBuyers" 319 (⟨"SecretBuyers$Giver", "buyerFor", "(I)I"⟩ : MethodName) : Cond) ∈ qw_tbl := qt_5 (List.mem_of_getElem? (i := 84) rfl) rfl
theorem w_1143 : (.instanceMethod (⟨"SecretBuyers$Giver", "buyerFor", "(I)I"⟩ : MethodName) : Cond) ∈ qw_tbl := qt_5 (List.mem_of_getElem? (i := 85) rfl) rfl
theorem w_1144 : (.selects "SecretBuyers$Giver" (⟨"SecretBuyers$Giver", "buyerFor", "(I)I"⟩ : MethodName) (⟨"SecretBuyers$Giver", "buyerFor", "(I)I"⟩ : MethodName) : Cond) ∈ qw_tbl := qt_5 (List.mem_of_getElem? (i := 86) rfl) rfl
theorem w_1145 : (.code (⟨"SecretBuyers$Giver", "buyerFor", "(I)I"⟩ : MethodName) prog_4_method_4_code 3 (Option.some Jvm.ClassFile.FieldType.int) : Cond) ∈ qw_tbl := qt_5 (List.mem_of_getElem? (i := 87) rfl) rfl
theorem w_1146 : (.methodLink "SecretBuyersLaw" 132 (⟨"SecretBuyers", "drawn", "(III)I"⟩ : MethodName) : Cond) ∈ qw_tbl := qt_5 (List.mem_of_getElem? (i := 88) rfl) rfl
theorem w_1147 : (.instanceMethod (⟨"SecretBuyers", "drawn", "(III)I"⟩ : MethodName) : Cond) ∈ qw_tbl := qt_5 (List.mem_of_getElem? (i := 89) rfl) rfl
theorem w_1148 : (.selects "SecretBuyers" (⟨"SecretBuyers", "drawn", "(III)I"⟩ : MethodName) (⟨"SecretBuyers", "drawn", "(III)I"⟩ : MethodName) : Cond) ∈ qw_tbl := qt_5 (List.mem_of_getElem? (i := 90) rfl) rfl
theorem w_1149 : (.code (⟨"SecretBuyers", "drawn", "(III)I"⟩ : MethodName) prog_1_method_25_code 10 (Option.some Jvm.ClassFile.FieldType.int) : Cond) ∈ qw_tbl := qt_5 (List.mem_of_getElem? (i := 91) rfl) rfl
theorem w_1150 : (.constantLong "SecretBuyers" 322 1103515245 : Cond) ∈ qw_tbl := qt_5 (List.mem_of_getElem? (i := 92) rfl) rfl
theorem w_1151 : (.constantLong "SecretBuyers" 324 12345 : Cond) ∈ qw_tbl := qt_5 (List.mem_of_getElem? (i := 93) rfl) rfl
theorem w_1152 : (.constantLong "SecretBuyers" 326 2147483648 : Cond) ∈ qw_tbl := qt_5 (List.mem_of_getElem? (i := 94) rfl) rfl
theorem w_1153 : (.constantLong "SecretBuyers" 328 65536 : Cond) ∈ qw_tbl := qt_5 (List.mem_of_getElem? (i := 95) rfl) rfl
theorem w_1154 : (.methodLink "SecretBuyers" 330 (⟨"SecretBuyers$Book", "latestOf", "(I)LSecretBuyers$Visit;"⟩ : MethodName) : Cond) ∈ qw_tbl := qt_5 (List.mem_of_getElem? (i := 96) rfl) rfl
theorem w_1155 : (.instanceMethod (⟨"SecretBuyers$Book", "latestOf", "(I)LSecretBuyers$Visit;"⟩ : MethodName) : Cond) ∈ qw_tbl := qt_5 (List.mem_of_getElem? (i := 97) rfl) rfl
theorem w_1156 : (.selects "SecretBuyers$Book" (⟨"SecretBuyers$Book", "latestOf", "(I)LSecretBuyers$Visit;"⟩ : MethodName) (⟨"SecretBuyers$Book", "latestOf", "(I)LSecretBuyers$Visit;"⟩ : MethodName) : Cond) ∈ qw_tbl := qt_5 (List.mem_of_getElem? (i := 98) rfl) rfl
theorem w_1157 : (.code (⟨"SecretBuyers$Book", "latestOf", "(I)LSecretBuyers$Visit;"⟩ : MethodName) prog_2_method_17_code 3 (Option.some (Jvm.ClassFile.FieldType.object "SecretBuyers$Visit")) : Cond) ∈ qw_tbl := qt_5 (List.mem_of_getElem? (i := 99) rfl) rfl
theorem w_1158 : (.methodLink "SecretBuyersLaw" 136 (⟨"SecretBuyers", "sway", "(II)I"⟩ : MethodName) : Cond) ∈ qw_tbl := qt_5 (List.mem_of_getElem? (i := 100) rfl) rfl
theorem w_1159 : (.instanceMethod (⟨"SecretBuyers", "sway", "(II)I"⟩ : MethodName) : Cond) ∈ qw_tbl := qt_5 (List.mem_of_getElem? (i := 101) rfl) rfl
theorem w_1160 : (.selects "SecretBuyers" (⟨"SecretBuyers", "sway", "(II)I"⟩ : MethodName) (⟨"SecretBuyers", "sway", "(II)I"⟩ : MethodName) : Cond) ∈ qw_tbl := qt_5 (List.mem_of_getElem? (i := 102) rfl) rfl
theorem w_1161 : (.code (⟨"SecretBuyers", "sway", "(II)I"⟩ : MethodName) prog_1_method_26_code 8 (Option.some Jvm.ClassFile.FieldType.int) : Cond) ∈ qw_tbl := qt_5 (List.mem_of_getElem? (i := 103) rfl) rfl
theorem w_1162 : (.methodLink "SecretBuyers" 230 (⟨"SecretBuyers$Scorer", "refresh", "()V"⟩ : MethodName) : Cond) ∈ qw_tbl := qt_5 (List.mem_of_getElem? (i := 104) rfl) rfl
theorem w_1163 : (.methodLink "SecretBuyers" 337 (⟨"SecretBuyers$Scorer", "bonusWith", "(LSecretBuyers$Visit;I)I"⟩ : MethodName) : Cond) ∈ qw_tbl := qt_5 (List.mem_of_getElem? (i := 105) rfl) rfl
theorem w_1164 : (.instanceMethod (⟨"SecretBuyers$Scorer", "bonusWith", "(LSecretBuyers$Visit;I)I"⟩ : MethodName) : Cond) ∈ qw_tbl := qt_5 (List.mem_of_getElem? (i := 106) rfl) rfl
theorem w_1165 : (.selects "SecretBuyers$Scorer" (⟨"SecretBuyers$Scorer", "bonusWith", "(LSecretBuyers$Visit;I)I"⟩ : MethodName) (⟨"SecretBuyers$Scorer", "bonusWith", "(LSecretBuyers$Visit;I)I"⟩ : MethodName) : Cond) ∈ qw_tbl := qt_5 (List.mem_of_getElem? (i := 107) rfl) rfl
theorem w_1166 : (.code (⟨"SecretBuyers$Scorer", "bonusWith", "(LSecretBuyers$Visit;I)I"⟩ : MethodName) prog_8_method_4_code 3 (Option.some Jvm.ClassFile.FieldType.int) : Cond) ∈ qw_tbl := qt_5 (List.mem_of_getElem? (i := 108) rfl) rfl
theorem w_1167 : (.methodLink "SecretBuyersLaw" 140 (⟨"SecretBuyers", "sum", "(IIII)I"⟩ : MethodName) : Cond) ∈ qw_tbl := qt_5 (List.mem_of_getElem? (i := 109) rfl) rfl
theorem w_1168 : (.instanceMethod (⟨"SecretBuyers", "sum", "(IIII)I"⟩ : MethodName) : Cond) ∈ qw_tbl := qt_5 (List.mem_of_getElem? (i := 110) rfl) rfl
theorem w_1169 : (.selects "SecretBuyers" (⟨"SecretBuyers", "sum", "(IIII)I"⟩ : MethodName) (⟨"SecretBuyers", "sum", "(IIII)I"⟩ : MethodName) : Cond) ∈ qw_tbl := qt_5 (List.mem_of_getElem? (i := 111) rfl) rfl
theorem w_1170 : (.code (⟨"SecretBuyers", "sum", "(IIII)I"⟩ : MethodName) prog_1_method_27_code 5 (Option.some Jvm.ClassFile.FieldType.int) : Cond) ∈ qw_tbl := qt_5 (List.mem_of_getElem? (i := 112) rfl) rfl
theorem w_1171 : (.methodLink "SecretBuyers" 341 (⟨"SecretBuyers", "bonusesOf", "(III)I"⟩ : MethodName) : Cond) ∈ qw_tbl := qt_5 (List.mem_of_getElem? (i := 113) rfl) rfl
theorem w_1173 : (.instanceMethod (⟨"SecretBuyers", "bonusesOf", "(III)I"⟩ : MethodName) : Cond) ∈ qw_tbl := qt_5 (List.mem_of_getElem? (i := 115) rfl) rfl
theorem w_1174 : (.code (⟨"SecretBuyers", "bonusesOf", "(III)I"⟩ : MethodName) prog_1_method_31_code 8 (Option.some Jvm.ClassFile.FieldType.int) : Cond) ∈ qw_tbl := qt_5 (List.mem_of_getElem? (i := 116) rfl) rfl
theorem w_1175 : (.methodLink "SecretBuyers" 350 (⟨"SecretBuyers$Book", "knownVisits", "()I"⟩ : MethodName) : Cond) ∈ qw_tbl := qt_5 (List.mem_of_getElem? (i := 117) rfl) rfl
theorem w_1176 : (.methodLink "SecretBuyers" 226 (⟨"SecretBuyers$Visit", "counts", "()Z"⟩ : MethodName) : Cond) ∈ qw_tbl := qt_5 (List.mem_of_getElem? (i := 118) rfl) rfl
theorem w_1177 : (.methodLink "SecretBuyers" 344 (⟨"SecretBuyers", "feesOf", "(III)I"⟩ : MethodName) : Cond) ∈ qw_tbl := qt_5 (List.mem_of_getElem? (i := 119) rfl) rfl
theorem w_1179 : (.instanceMethod (⟨"SecretBuyers", "feesOf", "(III)I"⟩ : MethodName) : Cond) ∈ qw_tbl := qt_5 (List.mem_of_getElem? (i := 121) rfl) rfl
theorem w_1180 : (.code (⟨"SecretBuyers", "feesOf", "(III)I"⟩ : MethodName) prog_1_method_32_code 8 (Option.some Jvm.ClassFile.FieldType.int) : Cond) ∈ qw_tbl := qt_5 (List.mem_of_getElem? (i := 122) rfl) rfl
theorem w_1181 : (.methodLink "SecretBuyers" 374 (⟨"SecretBuyers$Book", "wayFromHome", "(II)I"⟩ : MethodName) : Cond) ∈ qw_tbl := qt_5 (List.mem_of_getElem? (i := 123) rfl) rfl
theorem w_1182 : (.methodLink "SecretBuyersLaw" 144 (⟨"SecretBuyers", "count", "(I)I"⟩ : MethodName) : Cond) ∈ qw_tbl := qt_5 (List.mem_of_getElem? (i := 124) rfl) rfl
theorem w_1183 : (.instanceMethod (⟨"SecretBuyers", "count", "(I)I"⟩ : MethodName) : Cond) ∈ qw_tbl := qt_5 (List.mem_of_getElem? (i := 125) rfl) rfl
theorem w_1184 : (.selects "SecretBuyers" (⟨"SecretBuyers", "count", "(I)I"⟩ : MethodName) (⟨"SecretBuyers", "count", "(I)I"⟩ : MethodName) : Cond) ∈ qw_tbl := qt_5 (List.mem_of_getElem? (i := 126) rfl) rfl
theorem w_1185 : (.code (⟨"SecretBuyers", "count", "(I)I"⟩ : MethodName) prog_1_method_28_code 2 (Option.some Jvm.ClassFile.FieldType.int) : Cond) ∈ qw_tbl := qt_5 (List.mem_of_getElem? (i := 127) rfl) rfl
theorem w_1186 : (.methodLink "SecretBuyers" 347 (⟨"SecretBuyers$Book", "seenDay", "()I"⟩ : MethodName) : Cond) ∈ qw_tbl := qt_5 (List.mem_of_getElem? (i := 128) rfl) rfl
theorem w_1187 : (.methodLink "SecretBuyers" 353 (⟨"SecretBuyers", "countTruth", "(I)I"⟩ : MethodName) : Cond) ∈ qw_tbl := qt_5 (List.mem_of_getElem? (i := 129) rfl) rfl
theorem w_1189 : (.instanceMethod (⟨"SecretBuyers", "countTruth", "(I)I"⟩ : MethodName) : Cond) ∈ qw_tbl := qt_5 (List.mem_of_getElem? (i := 131) rfl) rfl
theorem w_1190 : (.code (⟨"SecretBuyers", "countTruth", "(I)I"⟩ : MethodName) prog_1_method_29_code 2 (Option.some Jvm.ClassFile.FieldType.int) : Cond) ∈ qw_tbl := qt_5 (List.mem_of_getElem? (i := 132) rfl) rfl
theorem w_1191 : (.methodLink "SecretBuyersLaw" 78 (⟨"SecretBuyersLaw", "look", "(LSecretBuyers;II[J)I"⟩ : MethodName) : Cond) ∈ qw_tbl := qt_5 (List.mem_of_getElem? (i := 133) rfl) rfl
theorem w_1192 : (.static (⟨"SecretBuyersLaw", "look", "(LSecretBuyers;II[J)I"⟩ : MethodName) : Cond) ∈ qw_tbl := qt_5 (List.mem_of_getElem? (i := 134) rfl) rfl
theorem w_1193 : (.codeWith (⟨"SecretBuyersLaw", "look", "(LSecretBuyers;II[J)I"⟩ : MethodName) method_3_code 5 (Option.some Jvm.ClassFile.FieldType.int) [(0, 10, 13, 13)] : Cond) ∈ qw_tbl := qt_5 (List.mem_of_getElem? (i := 135) rfl) rfl
theorem w_1194 : (.classLink "SecretBuyersLaw" 13 "java/util/NoSuchElementException" : Cond) ∈ qw_tbl := qt_5 (List.mem_of_getElem? (i := 136) rfl) rfl
theorem w_1195 : (.methodLink "SecretBuyersLaw" 7 (⟨"SecretBuyers", "look", "(II)I"⟩ : MethodName) : Cond) ∈ qw_tbl := qt_5 (List.mem_of_getElem? (i := 137) rfl) rfl
theorem w_1196 : (.instanceMethod (⟨"SecretBuyers", "look", "(II)I"⟩ : MethodName) : Cond) ∈ qw_tbl := qt_5 (List.mem_of_getElem? (i := 138) rfl) rfl
theorem w_1197 : (.selects "SecretBuyers" (⟨"SecretBuyers", "look", "(II)I"⟩ : MethodName) (⟨"SecretBuyers", "look", "(II)I"⟩ : MethodName) : Cond) ∈ qw_tbl := qt_5 (List.mem_of_getElem? (i := 139) rfl) rfl
theorem w_1198 : (.code (⟨"SecretBuyers", "look", "(II)I"⟩ : MethodName) prog_1_method_12_code 4 (Option.some Jvm.ClassFile.FieldType.int) : Cond) ∈ qw_tbl := qt_5 (List.mem_of_getElem? (i := 140) rfl) rfl
theorem w_1199 : (.methodLink "SecretBuyers" 207 (⟨"SecretBuyers$Book", "isKnown", "(I)Z"⟩ : MethodName) : Cond) ∈ qw_tbl := qt_5 (List.mem_of_getElem? (i := 141) rfl) rfl
theorem w_1200 : (.instanceMethod (⟨"SecretBuyers$Book", "isKnown", "(I)Z"⟩ : MethodName) : Cond) ∈ qw_tbl := qt_5 (List.mem_of_getElem? (i := 142) rfl) rfl
theorem w_1201 : (.selects "SecretBuyers$Book" (⟨"SecretBuyers$Book", "isKnown", "(I)Z"⟩ : MethodName) (⟨"SecretBuyers$Book", "isKnown", "(I)Z"⟩ : MethodName) : Cond) ∈ qw_tbl := qt_5 (List.mem_of_getElem? (i := 143) rfl) rfl
theorem w_1202 : (.code (⟨"SecretBuyers$Book", "isKnown", "(I)Z"⟩ : MethodName) prog_2_method_5_code 2 (Option.some Jvm.ClassFile.FieldType.boolean) : Cond) ∈ qw_tbl := qt_5 (List.mem_of_getElem? (i := 144) rfl) rfl
theorem w_1203 : (.classLink "SecretBuyers" 210 "java/util/NoSuchElementException" : Cond) ∈ qw_tbl := qt_5 (List.mem_of_getElem? (i := 145) rfl) rfl
theorem w_1204 : (.instantiable "java/util/NoSuchElementException" 6 : Cond) ∈ qw_tbl := qt_5 (List.mem_of_getElem? (i := 146) rfl) rfl
theorem w_1205 : (.castable "java/util/NoSuchElementException" "java/util/NoSuchElementException" : Cond) ∈ lw_tbl := (fun h => List.mem_append_right _ (List.mem_append_right _ (List.mem_append_right _ (List.mem_append_right _ (List.mem_append_right _ (List.mem_append_left _ h)))))) (List.mem_of_getElem? (l := tables_1_5) (i := 147) rfl)
theorem w_1206 : (.declares (⟨"java/lang/RuntimeException", "<init>", "()V"⟩ : MethodName) : Cond) ∈ lw_tbl := (fun h => List.mem_append_right _ (List.mem_append_right _ (List.mem_append_right _ (List.mem_append_right _ (List.mem_append_right _ (List.mem_append_left _ h)))))) (List.mem_of_getElem? (l := tables_1_5) (i := 148) rfl)
theorem w_1207 : (.declares (⟨"java/lang/RuntimeException", "<init>", "(Ljava/lang/String;)V"⟩ : MethodName) : Cond) ∈ lw_tbl := (fun h => List.mem_append_right _ (List.mem_append_right _ (List.mem_append_right _ (List.mem_append_right _ (List.mem_append_right _ (List.mem_append_left _ h)))))) (List.mem_of_getElem? (l := tables_1_5) (i := 149) rfl)
theorem w_1208 : (.declares (⟨"java/lang/Exception", "<init>", "()V"⟩ : MethodName) : Cond) ∈ lw_tbl := (fun h => List.mem_append_right _ (List.mem_append_right _ (List.mem_append_right _ (List.mem_append_right _ (List.mem_append_right _ (List.mem_append_left _ h)))))) (List.mem_of_getElem? (l := tables_1_5) (i := 150) rfl)
theorem w_1209 : (.declares (⟨"java/lang/Exception", "<init>", "(Ljava/lang/String;)V"⟩ : MethodName) : Cond) ∈ lw_tbl := (fun h => List.mem_append_right _ (List.mem_append_right _ (List.mem_append_right _ (List.mem_append_right _ (List.mem_append_right _ (List.mem_append_left _ h)))))) (List.mem_of_getElem? (l := tables_1_5) (i := 151) rfl)
theorem w_1210 : (.declares (⟨"java/lang/Throwable", "<init>", "()V"⟩ : MethodName) : Cond) ∈ lw_tbl := (fun h => List.mem_append_right _ (List.mem_append_right _ (List.mem_append_right _ (List.mem_append_right _ (List.mem_append_right _ (List.mem_append_left _ h)))))) (List.mem_of_getElem? (l := tables_1_5) (i := 152) rfl)
theorem w_1211 : (.declares (⟨"java/lang/Throwable", "<init>", "(Ljava/lang/String;)V"⟩ : MethodName) : Cond) ∈ lw_tbl := (fun h => List.mem_append_right _ (List.mem_append_right _ (List.mem_append_right _ (List.mem_append_right _ (List.mem_append_right _ (List.mem_append_left _ h)))))) (List.mem_of_getElem? (l := tables_1_5) (i := 153) rfl)
theorem w_1212 : (.selects "java/util/NoSuchElementException" (⟨"java/lang/Throwable", "fillInStackTrace", "(I)Ljava/lang/Throwable;"⟩ : MethodName) (⟨"java/lang/Throwable", "fillInStackTrace", "(I)Ljava/lang/Throwable;"⟩ : MethodName) : Cond) ∈ qw_tbl := qt_5 (List.mem_of_getElem? (i := 154) rfl) rfl
theorem w_1213 : (.selects "java/util/NoSuchElementException" (⟨"java/lang/Throwable", "fillInStackTrace", "()Ljava/lang/Throwable;"⟩ : MethodName) (⟨"java/lang/Throwable", "fillInStackTrace", "()Ljava/lang/Throwable;"⟩ : MethodName) : Cond) ∈ qw_tbl := qt_5 (List.mem_of_getElem? (i := 155) rfl) rfl
theorem w_1214 : (.lays "java/util/NoSuchElementException" "java/lang/Throwable" "cause" "Ljava/lang/Throwable;" : Cond) ∈ qw_tbl := qt_5 (List.mem_of_getElem? (i := 156) rfl) rfl
theorem w_1215 : (.lays "java/lang/Throwable" "java/lang/Throwable" "cause" "Ljava/lang/Throwable;" : Cond) ∈ qw_tbl := qt_5 (List.mem_of_getElem? (i := 157) rfl) rfl
theorem w_1216 : (.lays "java/util/NoSuchElementException" "java/lang/Throwable" "stackTrace" "[Ljava/lang/StackTraceElement;" : Cond) ∈ qw_tbl := qt_5 (List.mem_of_getElem? (i := 158) rfl) rfl
theorem w_1217 : (.lays "java/lang/Throwable" "java/lang/Throwable" "stackTrace" "[Ljava/lang/StackTraceElement;" : Cond) ∈ qw_tbl := qt_5 (List.mem_of_getElem? (i := 159) rfl) rfl
theorem w_1218 : (.lays "java/util/NoSuchElementException" "java/lang/Throwable" "suppressedExceptions" "Ljava/util/List;" : Cond) ∈ qw_tbl := qt_5 (List.mem_of_getElem? (i := 160) rfl) rfl
theorem w_1219 : (.lays "java/lang/Throwable" "java/lang/Throwable" "suppressedExceptions" "Ljava/util/List;" : Cond) ∈ qw_tbl := qt_5 (List.mem_of_getElem? (i := 161) rfl) rfl
theorem w_1220 : (.lays "java/util/NoSuchElementException" "java/lang/Throwable" "detailMessage" "Ljava/lang/String;" : Cond) ∈ qw_tbl := qt_5 (List.mem_of_getElem? (i := 162) rfl) rfl
theorem w_1221 : (.lays "java/lang/Throwable" "java/lang/Throwable" "detailMessage" "Ljava/lang/String;" : Cond) ∈ qw_tbl := qt_5 (List.mem_of_getElem? (i := 163) rfl) rfl
theorem w_1222 : (.lays "java/util/NoSuchElementException" "java/lang/Throwable" "backtrace" "Ljava/lang/Object;" : Cond) ∈ qw_tbl := qt_5 (List.mem_of_getElem? (i := 164) rfl) rfl
theorem w_1223 : (.lays "java/lang/Throwable" "java/lang/Throwable" "backtrace" "Ljava/lang/Object;" : Cond) ∈ qw_tbl := qt_5 (List.mem_of_getElem? (i := 165) rfl) rfl
theorem w_1224 : (.fieldLink "java/lang/Throwable" 198 "java/lang/Throwable" "backtrace" "Ljava/lang/Object;" : Cond) ∈ qw_tbl := qt_5 (List.mem_of_getElem? (i := 166) rfl) rfl
theorem w_1226 : (.instanceMethod (⟨"java/lang/Throwable", "<init>", "()V"⟩ : MethodName) : Cond) ∈ qw_tbl := qt_5 (List.mem_of_getElem? (i := 168) rfl) rfl
theorem w_1227 : (.code (⟨"java/lang/Throwable", "<init>", "()V"⟩ : MethodName) prog_22_method_1_code 1 (Option.none : Option Jvm.ClassFile.FieldType) : Cond) ∈ qw_tbl := qt_5 (List.mem_of_getElem? (i := 169) rfl) rfl
theorem w_1228 : (.methodLink "java/lang/Throwable" 1 (⟨"java/lang/Object", "<init>", "()V"⟩ : MethodName) : Cond) ∈ qw_tbl := qt_5 (List.mem_of_getElem? (i := 170) rfl) rfl
theorem w_1229 : (.fieldLink "java/lang/Throwable" 13 "java/lang/Throwable" "UNASSIGNED_STACK" "[Ljava/lang/StackTraceElement;" : Cond) ∈ qw_tbl := qt_5 (List.mem_of_getElem? (i := 171) rfl) rfl
theorem w_1230 : (.laysStatic "java/lang/Throwable" "UNASSIGNED_STACK" "[Ljava/lang/StackTraceElement;" : Cond) ∈ lw_tbl := (fun h => List.mem_append_right _ (List.mem_append_right _ (List.mem_append_right _ (List.mem_append_right _ (List.mem_append_right _ (List.mem_append_left _ h)))))) (List.mem_of_getElem? (l := tables_1_5) (i := 172) rfl)
theorem w_1231 : (.fieldLink "java/lang/Throwable" 20 "java/lang/Throwable" "SUPPRESSED_SENTINEL" "Ljava/util/List;" : Cond) ∈ qw_tbl := qt_5 (List.mem_of_getElem? (i := 173) rfl) rfl
theorem w_1232 : (.laysStatic "java/lang/Throwable" "SUPPRESSED_SENTINEL" "Ljava/util/List;" : Cond) ∈ lw_tbl := (fun h => List.mem_append_right _ (List.mem_append_right _ (List.mem_append_right _ (List.mem_append_right _ (List.mem_append_right _ (List.mem_append_left _ h)))))) (List.mem_of_getElem? (l := tables_1_5) (i := 174) rfl)
theorem w_1233 : (.methodLink "java/lang/Throwable" 27 (⟨"java/lang/Throwable", "fillInStackTrace", "()Ljava/lang/Throwable;"⟩ : MethodName) : Cond) ∈ qw_tbl := qt_5 (List.mem_of_getElem? (i := 175) rfl) rfl
theorem w_1234 : (.instanceMethod (⟨"java/lang/Throwable", "fillInStackTrace", "()Ljava/lang/Throwable;"⟩ : MethodName) : Cond) ∈ qw_tbl := qt_5 (List.mem_of_getElem? (i := 176) rfl) rfl
theorem w_1235 : (.sameMethod "java/lang/Throwable" "java/lang/Throwable" "fillInStackTrace" "()Ljava/lang/Throwable;" : Cond) ∈ qw_tbl := qt_5 (List.mem_of_getElem? (i := 177) rfl) rfl
theorem w_1236 : (.codeSync (⟨"java/lang/Throwable", "fillInStackTrace", "()Ljava/lang/Throwable;"⟩ : MethodName) prog_22_method_18_code 1 (Option.some (Jvm.ClassFile.FieldType.object "java/lang/Throwable")) : Cond) ∈ qw_tbl := qt_5 (List.mem_of_getElem? (i := 178) rfl) rfl
theorem w_1237 : (.methodLink "java/lang/Throwable" 202 (⟨"java/lang/Throwable", "fillInStackTrace", "(I)Ljava/lang/Throwable;"⟩ : MethodName) : Cond) ∈ qw_tbl := qt_5 (List.mem_of_getElem? (i := 179) rfl) rfl
theorem w_1239 : (.instanceMethod (⟨"java/lang/Throwable", "fillInStackTrace", "(I)Ljava/lang/Throwable;"⟩ : MethodName) : Cond) ∈ qw_tbl := qt_5 (List.mem_of_getElem? (i := 181) rfl) rfl
theorem w_1240 : (.instantiable "java/lang/Throwable" 6 : Cond) ∈ qw_tbl := qt_5 (List.mem_of_getElem? (i := 182) rfl) rfl
theorem w_1241 : (.native (⟨"java/lang/Throwable", "fillInStackTrace", "(I)Ljava/lang/Throwable;"⟩ : MethodName) : Cond) ∈ qw_tbl := qt_5 (List.mem_of_getElem? (i := 183) rfl) rfl
theorem w_1242 : (.stringRef "SecretBuyers" 212 "no such visit in the view, or nothing such of it" : Cond) ∈ lw_tbl := (fun h => List.mem_append_right _ (List.mem_append_right _ (List.mem_append_right _ (List.mem_append_right _ (List.mem_append_right _ (List.mem_append_left _ h)))))) (List.mem_of_getElem? (l := tables_1_5) (i := 184) rfl)
theorem w_1243 : (.methodLink "SecretBuyers" 214 (⟨"java/util/NoSuchElementException", "<init>", "(Ljava/lang/String;)V"⟩ : MethodName) : Cond) ∈ qw_tbl := qt_5 (List.mem_of_getElem? (i := 185) rfl) rfl
theorem w_1244 : (.instanceMethod (⟨"java/util/NoSuchElementException", "<init>", "(Ljava/lang/String;)V"⟩ : MethodName) : Cond) ∈ qw_tbl := qt_5 (List.mem_of_getElem? (i := 186) rfl) rfl
theorem w_1245 : (.code (⟨"java/util/NoSuchElementException", "<init>", "(Ljava/lang/String;)V"⟩ : MethodName) prog_24_method_4_code 2 (Option.none : Option Jvm.ClassFile.FieldType) : Cond) ∈ qw_tbl := qt_5 (List.mem_of_getElem? (i := 187) rfl) rfl
theorem w_1246 : (.methodLink "java/util/NoSuchElementException" 13 (⟨"java/lang/RuntimeException", "<init>", "(Ljava/lang/String;)V"⟩ : MethodName) : Cond) ∈ qw_tbl := qt_5 (List.mem_of_getElem? (i := 188) rfl) rfl
theorem w_1247 : (.instanceMethod (⟨"java/lang/RuntimeException", "<init>", "(Ljava/lang/String;)V"⟩ : MethodName) : Cond) ∈ qw_tbl := qt_5 (List.mem_of_getElem? (i := 189) rfl) rfl
theorem w_1248 : (.code (⟨"java/lang/RuntimeException", "<init>", "(Ljava/lang/String;)V"⟩ : MethodName) prog_19_method_2_code 2 (Option.none : Option Jvm.ClassFile.FieldType) : Cond) ∈ qw_tbl := qt_5 (List.mem_of_getElem? (i := 190) rfl) rfl
theorem w_1249 : (.methodLink "java/lang/RuntimeException" 7 (⟨"java/lang/Exception", "<init>", "(Ljava/lang/String;)V"⟩ : MethodName) : Cond) ∈ qw_tbl := qt_5 (List.mem_of_getElem? (i := 191) rfl) rfl
theorem w_1250 : (.instanceMethod (⟨"java/lang/Exception", "<init>", "(Ljava/lang/String;)V"⟩ : MethodName) : Cond) ∈ qw_tbl := qt_5 (List.mem_of_getElem? (i := 192) rfl) rfl
theorem w_1251 : (.code (⟨"java/lang/Exception", "<init>", "(Ljava/lang/String;)V"⟩ : MethodName) prog_16_method_2_code 2 (Option.none : Option Jvm.ClassFile.FieldType) : Cond) ∈ qw_tbl := qt_5 (List.mem_of_getElem? (i := 193) rfl) rfl
theorem w_1252 : (.methodLink "java/lang/Exception" 7 (⟨"java/lang/Throwable", "<init>", "(Ljava/lang/String;)V"⟩ : MethodName) : Cond) ∈ qw_tbl := qt_5 (List.mem_of_getElem? (i := 194) rfl) rfl
theorem w_1253 : (.instanceMethod (⟨"java/lang/Throwable", "<init>", "(Ljava/lang/String;)V"⟩ : MethodName) : Cond) ∈ qw_tbl := qt_5 (List.mem_of_getElem? (i := 195) rfl) rfl
theorem w_1254 : (.code (⟨"java/lang/Throwable", "<init>", "(Ljava/lang/String;)V"⟩ : MethodName) prog_22_method_2_code 2 (Option.none : Option Jvm.ClassFile.FieldType) : Cond) ∈ qw_tbl := qt_5 (List.mem_of_getElem? (i := 196) rfl) rfl
theorem w_1256 : (.fieldLink "java/lang/Throwable" 31 "java/lang/Throwable" "detailMessage" "Ljava/lang/String;" : Cond) ∈ qw_tbl := qt_5 (List.mem_of_getElem? (i := 198) rfl) rfl
theorem w_1257 : (.fieldLink "java/lang/Throwable" 7 "java/lang/Throwable" "cause" "Ljava/lang/Throwable;" : Cond) ∈ qw_tbl := qt_5 (List.mem_of_getElem? (i := 199) rfl) rfl
theorem w_1258 : (.fieldLink "java/lang/Throwable" 17 "java/lang/Throwable" "stackTrace" "[Ljava/lang/StackTraceElement;" : Cond) ∈ qw_tbl := qt_5 (List.mem_of_getElem? (i := 200) rfl) rfl
theorem w_1259 : (.fieldLink "java/lang/Throwable" 24 "java/lang/Throwable" "suppressedExceptions" "Ljava/util/List;" : Cond) ∈ qw_tbl := qt_5 (List.mem_of_getElem? (i := 201) rfl) rfl
theorem w_1260 : (.soleField "java/lang/Throwable" "backtrace" : Cond) ∈ qw_tbl := qt_5 (List.mem_of_getElem? (i := 202) rfl) rfl
theorem w_1261 : (.soleField "java/lang/Throwable" "detailMessage" : Cond) ∈ qw_tbl := qt_5 (List.mem_of_getElem? (i := 203) rfl) rfl
theorem w_1262 : (.soleField "java/lang/Throwable" "cause" : Cond) ∈ qw_tbl := qt_5 (List.mem_of_getElem? (i := 204) rfl) rfl
theorem w_1263 : (.soleField "java/lang/Throwable" "stackTrace" : Cond) ∈ qw_tbl := qt_5 (List.mem_of_getElem? (i := 205) rfl) rfl
theorem w_1264 : (.lays "java/util/NoSuchElementException" "java/lang/Throwable" "depth" "I" : Cond) ∈ qw_tbl := qt_5 (List.mem_of_getElem? (i := 206) rfl) rfl
theorem w_1265 : (.soleField "java/lang/Throwable" "depth" : Cond) ∈ qw_tbl := qt_5 (List.mem_of_getElem? (i := 207) rfl) rfl
theorem w_1266 : (.soleField "java/lang/Throwable" "suppressedExceptions" : Cond) ∈ qw_tbl := qt_5 (List.mem_of_getElem? (i := 208) rfl) rfl
theorem w_1268 : (.methodLink "SecretBuyersLaw" 84 (⟨"SecretBuyersLaw", "fair", "(LSecretBuyers;I[J)I"⟩ : MethodName) : Cond) ∈ qw_tbl := qt_5 (List.mem_of_getElem? (i := 210) rfl) rfl
theorem w_1269 : (.static (⟨"SecretBuyersLaw", "fair", "(LSecretBuyers;I[J)I"⟩ : MethodName) : Cond) ∈ qw_tbl := qt_5 (List.mem_of_getElem? (i := 211) rfl) rfl
theorem w_1270 : (.codeWith (⟨"SecretBuyersLaw", "fair", "(LSecretBuyers;I[J)I"⟩ : MethodName) method_4_code 4 (Option.some Jvm.ClassFile.FieldType.int) [(0, 9, 12, 13)] : Cond) ∈ qw_tbl := qt_5 (List.mem_of_getElem? (i := 212) rfl) rfl
theorem w_1271 : (.methodLink "SecretBuyersLaw" 15 (⟨"SecretBuyers", "fair", "(I)I"⟩ : MethodName) : Cond) ∈ qw_tbl := qt_5 (List.mem_of_getElem? (i := 213) rfl) rfl
theorem w_1272 : (.instanceMethod (⟨"SecretBuyers", "fair", "(I)I"⟩ : MethodName) : Cond) ∈ qw_tbl := qt_5 (List.mem_of_getElem? (i := 214) rfl) rfl
theorem w_1273 : (.selects "SecretBuyers" (⟨"SecretBuyers", "fair", "(I)I"⟩ : MethodName) (⟨"SecretBuyers", "fair", "(I)I"⟩ : MethodName) : Cond) ∈ qw_tbl := qt_5 (List.mem_of_getElem? (i := 215) rfl) rfl
theorem w_1274 : (.code (⟨"SecretBuyers", "fair", "(I)I"⟩ : MethodName) prog_1_method_13_code 2 (Option.some Jvm.ClassFile.FieldType.int) : Cond) ∈ qw_tbl := qt_5 (List.mem_of_getElem? (i := 216) rfl) rfl
theorem w_1275 : (.stringRef "SecretBuyers" 240 "no such visit in the view" : Cond) ∈ lw_tbl := (fun h => List.mem_append_right _ (List.mem_append_right _ (List.mem_append_right _ (List.mem_append_right _ (List.mem_append_right _ (List.mem_append_left _ h)))))) (List.mem_of_getElem? (l := tables_1_5) (i := 217) rfl)
theorem w_1276 : (.methodLink "SecretBuyers" 243 (⟨"SecretBuyers$Means", "fairScore", "(LSecretBuyers$Visit;)I"⟩ : MethodName) : Cond) ∈ qw_tbl := qt_5 (List.mem_of_getElem? (i := 218) rfl) rfl
theorem w_1277 : (.methodLink "SecretBuyersLaw" 96 (⟨"SecretBuyersLaw", "lean", "(LSecretBuyers;I[J)I"⟩ : MethodName) : Cond) ∈ qw_tbl := qt_5 (List.mem_of_getElem? (i := 219) rfl) rfl
theorem w_1278 : (.static (⟨"SecretBuyersLaw", "lean", "(LSecretBuyers;I[J)I"⟩ : MethodName) : Cond) ∈ qw_tbl := qt_5 (List.mem_of_getElem? (i := 220) rfl) rfl
theorem w_1279 : (.codeWith (⟨"SecretBuyersLaw", "lean", "(LSecretBuyers;I[J)I"⟩ : MethodName) method_5_code 4 (Option.some Jvm.ClassFile.FieldType.int) [(0, 9, 12, 13)] : Cond) ∈ qw_tbl := qt_5 (List.mem_of_getElem? (i := 221) rfl) rfl
theorem w_1280 : (.methodLink "SecretBuyersLaw" 19 (⟨"SecretBuyers", "lean", "(I)I"⟩ : MethodName) : Cond) ∈ qw_tbl := qt_5 (List.mem_of_getElem? (i := 222) rfl) rfl
theorem w_1281 : (.instanceMethod (⟨"SecretBuyers", "lean", "(I)I"⟩ : MethodName) : Cond) ∈ qw_tbl := qt_5 (List.mem_of_getElem? (i := 223) rfl) rfl
theorem w_1282 : (.selects "SecretBuyers" (⟨"SecretBuyers", "lean", "(I)I"⟩ : MethodName) (⟨"SecretBuyers", "lean", "(I)I"⟩ : MethodName) : Cond) ∈ qw_tbl := qt_5 (List.mem_of_getElem? (i := 224) rfl) rfl
theorem w_1283 : (.code (⟨"SecretBuyers", "lean", "(I)I"⟩ : MethodName) prog_1_method_16_code 2 (Option.some Jvm.ClassFile.FieldType.int) : Cond) ∈ qw_tbl := qt_5 (List.mem_of_getElem? (i := 225) rfl) rfl
theorem w_1284 : (.stringRef "SecretBuyers" 254 "no such buyer" : Cond) ∈ lw_tbl := (fun h => List.mem_append_right _ (List.mem_append_right _ (List.mem_append_right _ (List.mem_append_right _ (List.mem_append_right _ (List.mem_append_left _ h)))))) (List.mem_of_getElem? (l := tables_1_5) (i := 226) rfl)
theorem w_1285 : (.methodLink "SecretBuyers" 256 (⟨"SecretBuyers$Means", "hasLean", "(I)Z"⟩ : MethodName) : Cond) ∈ qw_tbl := qt_5 (List.mem_of_getElem? (i := 227) rfl) rfl
theorem w_1286 : (.instanceMethod (⟨"SecretBuyers$Means", "hasLean", "(I)Z"⟩ : MethodName) : Cond) ∈ qw_tbl := qt_5 (List.mem_of_getElem? (i := 228) rfl) rfl
theorem w_1287 : (.selects "SecretBuyers$Means" (⟨"SecretBuyers$Means", "hasLean", "(I)Z"⟩ : MethodName) (⟨"SecretBuyers$Means", "hasLean", "(I)Z"⟩ : MethodName) : Cond) ∈ qw_tbl := qt_5 (List.mem_of_getElem? (i := 229) rfl) rfl
theorem w_1288 : (.code (⟨"SecretBuyers$Means", "hasLean", "(I)Z"⟩ : MethodName) prog_5_method_7_code 2 (Option.some Jvm.ClassFile.FieldType.boolean) : Cond) ∈ qw_tbl := qt_5 (List.mem_of_getElem? (i := 230) rfl) rfl
theorem w_1289 : (.stringRef "SecretBuyers" 259 "less than two meetings" : Cond) ∈ lw_tbl := (fun h => List.mem_append_right _ (List.mem_append_right _ (List.mem_append_right _ (List.mem_append_right _ (List.mem_append_right _ (List.mem_append_left _ h)))))) (List.mem_of_getElem? (l := tables_1_5) (i := 231) rfl)
theorem w_1290 : (.methodLink "SecretBuyers" 261 (⟨"SecretBuyers$Means", "leanOf", "(I)I"⟩ : MethodName) : Cond) ∈ qw_tbl := qt_5 (List.mem_of_getElem? (i := 232) rfl) rfl
theorem w_1291 : (.methodLink "SecretBuyersLaw" 103 (⟨"SecretBuyersLaw", "mean", "(LSecretBuyers;III[J)I"⟩ : MethodName) : Cond) ∈ qw_tbl := qt_5 (List.mem_of_getElem? (i := 233) rfl) rfl
theorem w_1292 : (.static (⟨"SecretBuyersLaw", "mean", "(LSecretBuyers;III[J)I"⟩ : MethodName) : Cond) ∈ qw_tbl := qt_5 (List.mem_of_getElem? (i := 234) rfl) rfl
theorem w_1293 : (.codeWith (⟨"SecretBuyersLaw", "mean", "(LSecretBuyers;III[J)I"⟩ : MethodName) method_6_code 6 (Option.some Jvm.ClassFile.FieldType.int) [(0, 12, 15, 13)] : Cond) ∈ qw_tbl := qt_5 (List.mem_of_getElem? (i := 235) rfl) rfl
theorem w_1294 : (.methodLink "SecretBuyersLaw" 22 (⟨"SecretBuyers", "mean", "(III)I"⟩ : MethodName) : Cond) ∈ qw_tbl := qt_5 (List.mem_of_getElem? (i := 236) rfl) rfl
theorem w_1295 : (.instanceMethod (⟨"SecretBuyers", "mean", "(III)I"⟩ : MethodName) : Cond) ∈ qw_tbl := qt_5 (List.mem_of_getElem? (i := 237) rfl) rfl
theorem w_1296 : (.selects "SecretBuyers" (⟨"SecretBuyers", "mean", "(III)I"⟩ : MethodName) (⟨"SecretBuyers", "mean", "(III)I"⟩ : MethodName) : Cond) ∈ qw_tbl := qt_5 (List.mem_of_getElem? (i := 238) rfl) rfl
theorem w_1297 : (.code (⟨"SecretBuyers", "mean", "(III)I"⟩ : MethodName) prog_1_method_18_code 4 (Option.some Jvm.ClassFile.FieldType.int) : Cond) ∈ qw_tbl := qt_5 (List.mem_of_getElem? (i := 239) rfl) rfl
theorem w_1298 : (.stringRef "SecretBuyers" 271 "no such shop or days, or no visit that counts" : Cond) ∈ lw_tbl := (fun h => List.mem_append_right _ (List.mem_append_right _ (List.mem_append_right _ (List.mem_append_right _ (List.mem_append_right _ (List.mem_append_right _ (List.mem_append_left _ h))))))) (List.mem_of_getElem? (l := tables_1_6) (i := 0) rfl)
theorem w_1299 : (.methodLink "SecretBuyersLaw" 73 (⟨"SecretBuyersModel", "feed", "(JJJ)I"⟩ : MethodName) : Cond) ∈ qw_tbl := qt_6 (List.mem_of_getElem? (i := 1) rfl) rfl
theorem w_1300 : (.instanceMethod (⟨"SecretBuyersModel", "feed", "(JJJ)I"⟩ : MethodName) : Cond) ∈ qw_tbl := qt_6 (List.mem_of_getElem? (i := 2) rfl) rfl
theorem w_1301 : (.selects "SecretBuyersModel" (⟨"SecretBuyersModel", "feed", "(JJJ)I"⟩ : MethodName) (⟨"SecretBuyersModel", "feed", "(JJJ)I"⟩ : MethodName) : Cond) ∈ qw_tbl := qt_6 (List.mem_of_getElem? (i := 3) rfl) rfl
theorem w_1302 : (.code (⟨"SecretBuyersModel", "feed", "(JJJ)I"⟩ : MethodName) prog_14_method_2_code 7 (Option.some Jvm.ClassFile.FieldType.int) : Cond) ∈ qw_tbl := qt_6 (List.mem_of_getElem? (i := 4) rfl) rfl
theorem w_1303 : (.methodLink "SecretBuyersModel" 7 (⟨"SecretBuyersModel", "lay", "(J)V"⟩ : MethodName) : Cond) ∈ qw_tbl := qt_6 (List.mem_of_getElem? (i := 5) rfl) rfl
theorem w_1305 : (.instanceMethod (⟨"SecretBuyersModel", "lay", "(J)V"⟩ : MethodName) : Cond) ∈ qw_tbl := qt_6 (List.mem_of_getElem? (i := 7) rfl) rfl
theorem w_1306 : (.instantiable "SecretBuyersModel" 81 : Cond) ∈ qw_tbl := qt_6 (List.mem_of_getElem? (i := 8) rfl) rfl
theorem w_1307 : (.code (⟨"SecretBuyersModel", "lay", "(J)V"⟩ : MethodName) prog_14_method_3_code 5 (Option.none : Option Jvm.ClassFile.FieldType) : Cond) ∈ qw_tbl := qt_6 (List.mem_of_getElem? (i := 9) rfl) rfl
theorem w_1308 : (.classLink "SecretBuyersLaw" 27 "SecretBuyersModel" : Cond) ∈ qw_tbl := qt_6 (List.mem_of_getElem? (i := 10) rfl) rfl
theorem w_1309 : (.methodLink "SecretBuyersLaw" 29 (⟨"SecretBuyersModel", "<init>", "()V"⟩ : MethodName) : Cond) ∈ qw_tbl := qt_6 (List.mem_of_getElem? (i := 11) rfl) rfl
theorem w_1310 : (.instanceMethod (⟨"SecretBuyersModel", "<init>", "()V"⟩ : MethodName) : Cond) ∈ qw_tbl := qt_6 (List.mem_of_getElem? (i := 12) rfl) rfl
theorem w_1311 : (.code (⟨"SecretBuyersModel", "<init>", "()V"⟩ : MethodName) prog_14_method_4_code 1 (Option.none : Option Jvm.ClassFile.FieldType) : Cond) ∈ qw_tbl := qt_6 (List.mem_of_getElem? (i := 13) rfl) rfl
theorem w_1312 : (.methodLink "SecretBuyersModel" 18 (⟨"java/lang/Object", "<init>", "()V"⟩ : MethodName) : Cond) ∈ qw_tbl := qt_6 (List.mem_of_getElem? (i := 14) rfl) rfl
theorem w_1313 : (.constantLong "SecretBuyersModel" 34 16633 : Cond) ∈ qw_tbl := qt_6 (List.mem_of_getElem? (i := 15) rfl) rfl
theorem w_1314 : (.constantLong "SecretBuyersModel" 36 1521 : Cond) ∈ qw_tbl := qt_6 (List.mem_of_getElem? (i := 16) rfl) rfl
theorem w_1315 : (.constantLong "SecretBuyersModel" 38 687961 : Cond) ∈ qw_tbl := qt_6 (List.mem_of_getElem? (i := 17) rfl) rfl
theorem w_1316 : (.constantLong "SecretBuyersModel" 40 4528079 : Cond) ∈ qw_tbl := qt_6 (List.mem_of_getElem? (i := 18) rfl) rfl
theorem w_1317 : (.constantLong "SecretBuyersModel" 42 1176170 : Cond) ∈ qw_tbl := qt_6 (List.mem_of_getElem? (i := 19) rfl) rfl
theorem w_1318 : (.constantLong "SecretBuyersModel" 44 1891 : Cond) ∈ qw_tbl := qt_6 (List.mem_of_getElem? (i := 20) rfl) rfl
theorem w_1319 : (.constantLong "SecretBuyersModel" 46 573 : Cond) ∈ qw_tbl := qt_6 (List.mem_of_getElem? (i := 21) rfl) rfl
theorem w_1320 : (.constantLong "SecretBuyersModel" 48 19741 : Cond) ∈ qw_tbl := qt_6 (List.mem_of_getElem? (i := 22) rfl) rfl
theorem w_1321 : (.constantLong "SecretBuyersModel" 50 483455 : Cond) ∈ qw_tbl := qt_6 (List.mem_of_getElem? (i := 23) rfl) rfl
theorem w_1322 : (.constantLong "SecretBuyersModel" 52 1825 : Cond) ∈ qw_tbl := qt_6 (List.mem_of_getElem? (i := 24) rfl) rfl
theorem w_1323 : (.constantLong "SecretBuyersModel" 54 34005868481 : Cond) ∈ qw_tbl := qt_6 (List.mem_of_getElem? (i := 25) rfl) rfl
theorem w_1324 : (.constantLong "SecretBuyersModel" 56 426554 : Cond) ∈ qw_tbl := qt_6 (List.mem_of_getElem? (i := 26) rfl) rfl
theorem w_1325 : (.constantLong "SecretBuyersModel" 58 46535683828 : Cond) ∈ qw_tbl := qt_6 (List.mem_of_getElem? (i := 27) rfl) rfl
theorem w_1326 : (.constantLong "SecretBuyersModel" 60 1172060 : Cond) ∈ qw_tbl := qt_6 (List.mem_of_getElem? (i := 28) rfl) rfl
theorem w_1327 : (.constantLong "SecretBuyersModel" 62 148383843 : Cond) ∈ qw_tbl := qt_6 (List.mem_of_getElem? (i := 29) rfl) rfl
theorem w_1328 : (.constant "SecretBuyersModel" 203 59049 : Cond) ∈ qw_tbl := qt_6 (List.mem_of_getElem? (i := 30) rfl) rfl
theorem w_1329 : (.fieldLink "SecretBuyersModel" 1 "SecretBuyersModel" "thrown" "I" : Cond) ∈ qw_tbl := qt_6 (List.mem_of_getElem? (i := 31) rfl) rfl
theorem w_1330 : (.fieldLink "SecretBuyersModel" 14 "SecretBuyersModel" "tape" "[I" : Cond) ∈ qw_tbl := qt_6 (List.mem_of_getElem? (i := 32) rfl) rfl
theorem w_1331 : (.fieldLink "SecretBuyersModel" 11 "SecretBuyersModel" "taped" "I" : Cond) ∈ qw_tbl := qt_6 (List.mem_of_getElem? (i := 33) rfl) rfl
theorem w_1332 : (.fieldLink "SecretBuyersModel" 238 "SecretBuyersModel" "size" "I" : Cond) ∈ qw_tbl := qt_6 (List.mem_of_getElem? (i := 34) rfl) rfl
theorem w_1333 : (.fieldLink "SecretBuyersModel" 24 "SecretBuyersModel" "sort" "[I" : Cond) ∈ qw_tbl := qt_6 (List.mem_of_getElem? (i := 35) rfl) rfl
theorem w_1334 : (.fieldLink "SecretBuyersModel" 27 "SecretBuyersModel" "place" "[I" : Cond) ∈ qw_tbl := qt_6 (List.mem_of_getElem? (i := 36) rfl) rfl
theorem w_1335 : (.fieldLink "SecretBuyersModel" 30 "SecretBuyersModel" "value" "[J" : Cond) ∈ qw_tbl := qt_6 (List.mem_of_getElem? (i := 37) rfl) rfl
theorem w_1336 : (.fieldLink "SecretBuyersModel" 257 "SecretBuyersModel" "at" "I" : Cond) ∈ qw_tbl := qt_6 (List.mem_of_getElem? (i := 38) rfl) rfl
theorem w_1337 : (.fieldLink "SecretBuyersModel" 260 "SecretBuyersModel" "fault" "I" : Cond) ∈ qw_tbl := qt_6 (List.mem_of_getElem? (i := 39) rfl) rfl
theorem w_1338 : (.fieldLink "SecretBuyersModel" 64 "SecretBuyersModel" "words" "[J" : Cond) ∈ qw_tbl := qt_6 (List.mem_of_getElem? (i := 40) rfl) rfl
theorem w_1339 : (.fieldLink "SecretBuyersModel" 279 "SecretBuyersModel" "briefs" "I" : Cond) ∈ qw_tbl := qt_6 (List.mem_of_getElem? (i := 41) rfl) rfl
theorem w_1340 : (.fieldLink "SecretBuyersModel" 67 "SecretBuyersModel" "briefChain" "[I" : Cond) ∈ qw_tbl := qt_6 (List.mem_of_getElem? (i := 42) rfl) rfl
theorem w_1341 : (.fieldLink "SecretBuyersModel" 70 "SecretBuyersModel" "briefFrom" "[I" : Cond) ∈ qw_tbl := qt_6 (List.mem_of_getElem? (i := 43) rfl) rfl
theorem w_1342 : (.fieldLink "SecretBuyersModel" 73 "SecretBuyersModel" "briefOn" "[I" : Cond) ∈ qw_tbl := qt_6 (List.mem_of_getElem? (i := 44) rfl) rfl
theorem w_1343 : (.fieldLink "SecretBuyersModel" 76 "SecretBuyersModel" "lines" "[I" : Cond) ∈ qw_tbl := qt_6 (List.mem_of_getElem? (i := 45) rfl) rfl
theorem w_1344 : (.fieldLink "SecretBuyersModel" 79 "SecretBuyersModel" "lineKind" "[I" : Cond) ∈ qw_tbl := qt_6 (List.mem_of_getElem? (i := 46) rfl) rfl
theorem w_1345 : (.fieldLink "SecretBuyersModel" 82 "SecretBuyersModel" "lineN" "[I" : Cond) ∈ qw_tbl := qt_6 (List.mem_of_getElem? (i := 47) rfl) rfl
theorem w_1346 : (.fieldLink "SecretBuyersModel" 85 "SecretBuyersModel" "lineAt" "[I" : Cond) ∈ qw_tbl := qt_6 (List.mem_of_getElem? (i := 48) rfl) rfl
theorem w_1347 : (.fieldLink "SecretBuyersModel" 88 "SecretBuyersModel" "lineWhen" "[I" : Cond) ∈ qw_tbl := qt_6 (List.mem_of_getElem? (i := 49) rfl) rfl
theorem w_1348 : (.fieldLink "SecretBuyersModel" 285 "SecretBuyersModel" "names" "I" : Cond) ∈ qw_tbl := qt_6 (List.mem_of_getElem? (i := 50) rfl) rfl
theorem w_1349 : (.fieldLink "SecretBuyersModel" 91 "SecretBuyersModel" "name" "[J" : Cond) ∈ qw_tbl := qt_6 (List.mem_of_getElem? (i := 51) rfl) rfl
theorem w_1350 : (.fieldLink "SecretBuyersModel" 276 "SecretBuyersModel" "codes" "I" : Cond) ∈ qw_tbl := qt_6 (List.mem_of_getElem? (i := 52) rfl) rfl
theorem w_1351 : (.fieldLink "SecretBuyersModel" 94 "SecretBuyersModel" "op" "[I" : Cond) ∈ qw_tbl := qt_6 (List.mem_of_getElem? (i := 53) rfl) rfl
theorem w_1352 : (.fieldLink "SecretBuyersModel" 97 "SecretBuyersModel" "one" "[I" : Cond) ∈ qw_tbl := qt_6 (List.mem_of_getElem? (i := 54) rfl) rfl
theorem w_1353 : (.fieldLink "SecretBuyersModel" 100 "SecretBuyersModel" "known" "[I" : Cond) ∈ qw_tbl := qt_6 (List.mem_of_getElem? (i := 55) rfl) rfl
theorem w_1354 : (.fieldLink "SecretBuyersModel" 342 "SecretBuyersModel" "form" "I" : Cond) ∈ qw_tbl := qt_6 (List.mem_of_getElem? (i := 56) rfl) rfl
theorem w_1355 : (.fieldLink "SecretBuyersModel" 103 "SecretBuyersModel" "named" "[I" : Cond) ∈ qw_tbl := qt_6 (List.mem_of_getElem? (i := 57) rfl) rfl
theorem w_1356 : (.fieldLink "SecretBuyersModel" 106 "SecretBuyersModel" "pile" "[I" : Cond) ∈ qw_tbl := qt_6 (List.mem_of_getElem? (i := 58) rfl) rfl
theorem w_1357 : (.fieldLink "SecretBuyersModel" 349 "SecretBuyersModel" "scored" "I" : Cond) ∈ qw_tbl := qt_6 (List.mem_of_getElem? (i := 59) rfl) rfl
theorem w_1358 : (.fieldLink "SecretBuyersModel" 352 "SecretBuyersModel" "bonused" "I" : Cond) ∈ qw_tbl := qt_6 (List.mem_of_getElem? (i := 60) rfl) rfl
theorem w_1359 : (.fieldLink "SecretBuyersModel" 295 "SecretBuyersModel" "now" "I" : Cond) ∈ qw_tbl := qt_6 (List.mem_of_getElem? (i := 61) rfl) rfl
theorem w_1360 : (.fieldLink "SecretBuyersModel" 216 "SecretBuyersModel" "viewed" "I" : Cond) ∈ qw_tbl := qt_6 (List.mem_of_getElem? (i := 62) rfl) rfl
theorem w_1361 : (.fieldLink "SecretBuyersModel" 366 "SecretBuyersModel" "shops" "I" : Cond) ∈ qw_tbl := qt_6 (List.mem_of_getElem? (i := 63) rfl) rfl
theorem w_1362 : (.fieldLink "SecretBuyersModel" 109 "SecretBuyersModel" "shopX" "[I" : Cond) ∈ qw_tbl := qt_6 (List.mem_of_getElem? (i := 64) rfl) rfl
theorem w_1363 : (.fieldLink "SecretBuyersModel" 112 "SecretBuyersModel" "shopY" "[I" : Cond) ∈ qw_tbl := qt_6 (List.mem_of_getElem? (i := 65) rfl) rfl
theorem w_1364 : (.fieldLink "SecretBuyersModel" 115 "SecretBuyersModel" "chainOf" "[I" : Cond) ∈ qw_tbl := qt_6 (List.mem_of_getElem? (i := 66) rfl) rfl
theorem w_1365 : (.fieldLink "SecretBuyersModel" 118 "SecretBuyersModel" "opens" "[I" : Cond) ∈ qw_tbl := qt_6 (List.mem_of_getElem? (i := 67) rfl) rfl
theorem w_1366 : (.fieldLink "SecretBuyersModel" 121 "SecretBuyersModel" "closes" "[I" : Cond) ∈ qw_tbl := qt_6 (List.mem_of_getElem? (i := 68) rfl) rfl
theorem w_1367 : (.fieldLink "SecretBuyersModel" 124 "SecretBuyersModel" "records" "[Z" : Cond) ∈ qw_tbl := qt_6 (List.mem_of_getElem? (i := 69) rfl) rfl
theorem w_1368 : (.fieldLink "SecretBuyersModel" 369 "SecretBuyersModel" "buyers" "I" : Cond) ∈ qw_tbl := qt_6 (List.mem_of_getElem? (i := 70) rfl) rfl
theorem w_1369 : (.fieldLink "SecretBuyersModel" 128 "SecretBuyersModel" "homeX" "[I" : Cond) ∈ qw_tbl := qt_6 (List.mem_of_getElem? (i := 71) rfl) rfl
theorem w_1370 : (.fieldLink "SecretBuyersModel" 131 "SecretBuyersModel" "homeY" "[I" : Cond) ∈ qw_tbl := qt_6 (List.mem_of_getElem? (i := 72) rfl) rfl
theorem w_1371 : (.fieldLink "SecretBuyersModel" 219 "SecretBuyersModel" "pace" "I" : Cond) ∈ qw_tbl := qt_6 (List.mem_of_getElem? (i := 73) rfl) rfl
theorem w_1372 : (.fieldLink "SecretBuyersModel" 222 "SecretBuyersModel" "fee" "I" : Cond) ∈ qw_tbl := qt_6 (List.mem_of_getElem? (i := 74) rfl) rfl
theorem w_1373 : (.fieldLink "SecretBuyersModel" 225 "SecretBuyersModel" "spread" "I" : Cond) ∈ qw_tbl := qt_6 (List.mem_of_getElem? (i := 75) rfl) rfl
theorem w_1374 : (.fieldLink "SecretBuyersModel" 228 "SecretBuyersModel" "restDays" "I" : Cond) ∈ qw_tbl := qt_6 (List.mem_of_getElem? (i := 76) rfl) rfl
theorem w_1375 : (.fieldLink "SecretBuyersModel" 231 "SecretBuyersModel" "reach" "I" : Cond) ∈ qw_tbl := qt_6 (List.mem_of_getElem? (i := 77) rfl) rfl
theorem w_1376 : (.fieldLink "SecretBuyersModel" 372 "SecretBuyersModel" "visits" "I" : Cond) ∈ qw_tbl := qt_6 (List.mem_of_getElem? (i := 78) rfl) rfl
theorem w_1377 : (.fieldLink "SecretBuyersModel" 134 "SecretBuyersModel" "shopOf" "[I" : Cond) ∈ qw_tbl := qt_6 (List.mem_of_getElem? (i := 79) rfl) rfl
theorem w_1378 : (.fieldLink "SecretBuyersModel" 137 "SecretBuyersModel" "buyerOf" "[I" : Cond) ∈ qw_tbl := qt_6 (List.mem_of_getElem? (i := 80) rfl) rfl
theorem w_1379 : (.fieldLink "SecretBuyersModel" 140 "SecretBuyersModel" "dayOf" "[I" : Cond) ∈ qw_tbl := qt_6 (List.mem_of_getElem? (i := 81) rfl) rfl
theorem w_1380 : (.fieldLink "SecretBuyersModel" 143 "SecretBuyersModel" "minuteOf" "[I" : Cond) ∈ qw_tbl := qt_6 (List.mem_of_getElem? (i := 82) rfl) rfl
theorem w_1381 : (.fieldLink "SecretBuyersModel" 146 "SecretBuyersModel" "manyOf" "[I" : Cond) ∈ qw_tbl := qt_6 (List.mem_of_getElem? (i := 83) rfl) rfl
theorem w_1382 : (.fieldLink "SecretBuyersModel" 149 "SecretBuyersModel" "formOf" "[I" : Cond) ∈ qw_tbl := qt_6 (List.mem_of_getElem? (i := 84) rfl) rfl
theorem w_1383 : (.fieldLink "SecretBuyersModel" 152 "SecretBuyersModel" "receiptOf" "[I" : Cond) ∈ qw_tbl := qt_6 (List.mem_of_getElem? (i := 85) rfl) rfl
theorem w_1384 : (.fieldLink "SecretBuyersModel" 155 "SecretBuyersModel" "toldOn" "[I" : Cond) ∈ qw_tbl := qt_6 (List.mem_of_getElem? (i := 86) rfl) rfl
theorem w_1385 : (.fieldLink "SecretBuyersModel" 385 "SecretBuyersModel" "appeals" "I" : Cond) ∈ qw_tbl := qt_6 (List.mem_of_getElem? (i := 87) rfl) rfl
theorem w_1386 : (.fieldLink "SecretBuyersModel" 158 "SecretBuyersModel" "appealOf" "[I" : Cond) ∈ qw_tbl := qt_6 (List.mem_of_getElem? (i := 88) rfl) rfl
theorem w_1387 : (.fieldLink "SecretBuyersModel" 161 "SecretBuyersModel" "appealItem" "[I" : Cond) ∈ qw_tbl := qt_6 (List.mem_of_getElem? (i := 89) rfl) rfl
theorem w_1388 : (.fieldLink "SecretBuyersModel" 164 "SecretBuyersModel" "appealOn" "[I" : Cond) ∈ qw_tbl := qt_6 (List.mem_of_getElem? (i := 90) rfl) rfl
theorem w_1389 : (.fieldLink "SecretBuyersModel" 400 "SecretBuyersModel" "seenMany" "I" : Cond) ∈ qw_tbl := qt_6 (List.mem_of_getElem? (i := 91) rfl) rfl
theorem w_1390 : (.fieldLink "SecretBuyersModel" 167 "SecretBuyersModel" "line" "[I" : Cond) ∈ qw_tbl := qt_6 (List.mem_of_getElem? (i := 92) rfl) rfl
theorem w_1391 : (.fieldLink "SecretBuyersModel" 170 "SecretBuyersModel" "score" "[I" : Cond) ∈ qw_tbl := qt_6 (List.mem_of_getElem? (i := 93) rfl) rfl
theorem w_1392 : (.fieldLink "SecretBuyersModel" 173 "SecretBuyersModel" "bonus" "[I" : Cond) ∈ qw_tbl := qt_6 (List.mem_of_getElem? (i := 94) rfl) rfl
theorem w_1393 : (.fieldLink "SecretBuyersModel" 176 "SecretBuyersModel" "state" "[I" : Cond) ∈ qw_tbl := qt_6 (List.mem_of_getElem? (i := 95) rfl) rfl
theorem w_1394 : (.fieldLink "SecretBuyersModel" 435 "SecretBuyersModel" "these" "I" : Cond) ∈ qw_tbl := qt_6 (List.mem_of_getElem? (i := 96) rfl) rfl
theorem w_1395 : (.fieldLink "SecretBuyersModel" 179 "SecretBuyersModel" "thisOne" "[I" : Cond) ∈ qw_tbl := qt_6 (List.mem_of_getElem? (i := 97) rfl) rfl
theorem w_1396 : (.fieldLink "SecretBuyersModel" 182 "SecretBuyersModel" "quarrels" "[Z" : Cond) ∈ qw_tbl := qt_6 (List.mem_of_getElem? (i := 98) rfl) rfl
theorem w_1397 : (.fieldLink "SecretBuyersModel" 428 "SecretBuyersModel" "fewest" "I" : Cond) ∈ qw_tbl := qt_6 (List.mem_of_getElem? (i := 99) rfl) rfl
theorem w_1398 : (.fieldLink "SecretBuyersModel" 441 "SecretBuyersModel" "firstSet" "I" : Cond) ∈ qw_tbl := qt_6 (List.mem_of_getElem? (i := 100) rfl) rfl
theorem w_1399 : (.fieldLink "SecretBuyersModel" 422 "SecretBuyersModel" "fewestAll" "I" : Cond) ∈ qw_tbl := qt_6 (List.mem_of_getElem? (i := 101) rfl) rfl
theorem w_1400 : (.fieldLink "SecretBuyersModel" 185 "SecretBuyersModel" "leans" "[I" : Cond) ∈ qw_tbl := qt_6 (List.mem_of_getElem? (i := 102) rfl) rfl
theorem w_1401 : (.fieldLink "SecretBuyersModel" 188 "SecretBuyersModel" "met" "[I" : Cond) ∈ qw_tbl := qt_6 (List.mem_of_getElem? (i := 103) rfl) rfl
theorem w_1402 : (.fieldLink "SecretBuyersModel" 191 "SecretBuyersModel" "meanOf" "[I" : Cond) ∈ qw_tbl := qt_6 (List.mem_of_getElem? (i := 104) rfl) rfl
theorem w_1403 : (.fieldLink "SecretBuyersModel" 194 "SecretBuyersModel" "countOf" "[I" : Cond) ∈ qw_tbl := qt_6 (List.mem_of_getElem? (i := 105) rfl) rfl
theorem w_1404 : (.fieldLink "SecretBuyersModel" 197 "SecretBuyersModel" "rowTo" "[I" : Cond) ∈ qw_tbl := qt_6 (List.mem_of_getElem? (i := 106) rfl) rfl
theorem w_1405 : (.fieldLink "SecretBuyersModel" 200 "SecretBuyersModel" "power" "[I" : Cond) ∈ qw_tbl := qt_6 (List.mem_of_getElem? (i := 107) rfl) rfl
theorem w_1406 : (.fieldLink "SecretBuyersModel" 204 "SecretBuyersModel" "least" "[I" : Cond) ∈ qw_tbl := qt_6 (List.mem_of_getElem? (i := 108) rfl) rfl
theorem w_1407 : (.fieldLink "SecretBuyersModel" 207 "SecretBuyersModel" "givenShop" "[I" : Cond) ∈ qw_tbl := qt_6 (List.mem_of_getElem? (i := 109) rfl) rfl
theorem w_1408 : (.fieldLink "SecretBuyersModel" 210 "SecretBuyersModel" "givenBuyer" "[I" : Cond) ∈ qw_tbl := qt_6 (List.mem_of_getElem? (i := 110) rfl) rfl
theorem w_1409 : (.fieldLink "SecretBuyersModel" 213 "SecretBuyersModel" "goes" "[I" : Cond) ∈ qw_tbl := qt_6 (List.mem_of_getElem? (i := 111) rfl) rfl
theorem w_1410 : (.lays "SecretBuyersModel" "SecretBuyersModel" "thrown" "I" : Cond) ∈ qw_tbl := qt_6 (List.mem_of_getElem? (i := 112) rfl) rfl
theorem w_1411 : (.soleField "SecretBuyersModel" "thrown" : Cond) ∈ qw_tbl := qt_6 (List.mem_of_getElem? (i := 113) rfl) rfl
theorem w_1412 : (.laysFinal "SecretBuyersModel" "SecretBuyersModel" "tape" "[I" : Cond) ∈ qw_tbl := qt_6 (List.mem_of_getElem? (i := 114) rfl) rfl
theorem w_1413 : (.soleField "SecretBuyersModel" "tape" : Cond) ∈ qw_tbl := qt_6 (List.mem_of_getElem? (i := 115) rfl) rfl
theorem w_1414 : (.lays "SecretBuyersModel" "SecretBuyersModel" "taped" "I" : Cond) ∈ qw_tbl := qt_6 (List.mem_of_getElem? (i := 116) rfl) rfl
theorem w_1415 : (.soleField "SecretBuyersModel" "taped" : Cond) ∈ qw_tbl := qt_6 (List.mem_of_getElem? (i := 117) rfl) rfl
theorem w_1416 : (.lays "SecretBuyersModel" "SecretBuyersModel" "size" "I" : Cond) ∈ qw_tbl := qt_6 (List.mem_of_getElem? (i := 118) rfl) rfl
theorem w_1417 : (.soleField "SecretBuyersModel" "size" : Cond) ∈ qw_tbl := qt_6 (List.mem_of_getElem? (i := 119) rfl) rfl
theorem w_1418 : (.laysFinal "SecretBuyersModel" "SecretBuyersModel" "sort" "[I" : Cond) ∈ qw_tbl := qt_6 (List.mem_of_getElem? (i := 120) rfl) rfl
theorem w_1419 : (.soleField "SecretBuyersModel" "sort" : Cond) ∈ qw_tbl := qt_6 (List.mem_of_getElem? (i := 121) rfl) rfl
theorem w_1420 : (.laysFinal "SecretBuyersModel" "SecretBuyersModel" "place" "[I" : Cond) ∈ qw_tbl := qt_6 (List.mem_of_getElem? (i := 122) rfl) rfl
theorem w_1421 : (.soleField "SecretBuyersModel" "place" : Cond) ∈ qw_tbl := qt_6 (List.mem_of_getElem? (i := 123) rfl) rfl
theorem w_1422 : (.laysFinal "SecretBuyersModel" "SecretBuyersModel" "value" "[J" : Cond) ∈ qw_tbl := qt_6 (List.mem_of_getElem? (i := 124) rfl) rfl
theorem w_1423 : (.soleField "SecretBuyersModel" "value" : Cond) ∈ qw_tbl := qt_6 (List.mem_of_getElem? (i := 125) rfl) rfl
theorem w_1424 : (.lays "SecretBuyersModel" "SecretBuyersModel" "at" "I" : Cond) ∈ qw_tbl := qt_6 (List.mem_of_getElem? (i := 126) rfl) rfl
theorem w_1425 : (.soleField "SecretBuyersModel" "at" : Cond) ∈ qw_tbl := qt_6 (List.mem_of_getElem? (i := 127) rfl) rfl
theorem w_1426 : (.lays "SecretBuyersModel" "SecretBuyersModel" "fault" "I" : Cond) ∈ qw_tbl := qt_6 (List.mem_of_getElem? (i := 128) rfl) rfl
theorem w_1427 : (.soleField "SecretBuyersModel" "fault" : Cond) ∈ qw_tbl := qt_6 (List.mem_of_getElem? (i := 129) rfl) rfl
theorem w_1428 : (.laysFinal "SecretBuyersModel" "SecretBuyersModel" "words" "[J" : Cond) ∈ qw_tbl := qt_6 (List.mem_of_getElem? (i := 130) rfl) rfl
theorem w_1429 : (.soleField "SecretBuyersModel" "words" : Cond) ∈ qw_tbl := qt_6 (List.mem_of_getElem? (i := 131) rfl) rfl
theorem w_1430 : (.lays "SecretBuyersModel" "SecretBuyersModel" "briefs" "I" : Cond) ∈ qw_tbl := qt_6 (List.mem_of_getElem? (i := 132) rfl) rfl
theorem w_1431 : (.soleField "SecretBuyersModel" "briefs" : Cond) ∈ qw_tbl := qt_6 (List.mem_of_getElem? (i := 133) rfl) rfl
theorem w_1432 : (.laysFinal "SecretBuyersModel" "SecretBuyersModel" "briefChain" "[I" : Cond) ∈ qw_tbl := qt_6 (List.mem_of_getElem? (i := 134) rfl) rfl
theorem w_1433 : (.soleField "SecretBuyersModel" "briefChain" : Cond) ∈ qw_tbl := qt_6 (List.mem_of_getElem? (i := 135) rfl) rfl
theorem w_1434 : (.laysFinal "SecretBuyersModel" "SecretBuyersModel" "briefFrom" "[I" : Cond) ∈ qw_tbl := qt_6 (List.mem_of_getElem? (i := 136) rfl) rfl
theorem w_1435 : (.soleField "SecretBuyersModel" "briefFrom" : Cond) ∈ qw_tbl := qt_6 (List.mem_of_getElem? (i := 137) rfl) rfl
theorem w_1436 : (.laysFinal "SecretBuyersModel" "SecretBuyersModel" "briefOn" "[I" : Cond) ∈ qw_tbl := qt_6 (List.mem_of_getElem? (i := 138) rfl) rfl
theorem w_1437 : (.soleField "SecretBuyersModel" "briefOn" : Cond) ∈ qw_tbl := qt_6 (List.mem_of_getElem? (i := 139) rfl) rfl
theorem w_1438 : (.laysFinal "SecretBuyersModel" "SecretBuyersModel" "lines" "[I" : Cond) ∈ qw_tbl := qt_6 (List.mem_of_getElem? (i := 140) rfl) rfl
theorem w_1439 : (.soleField "SecretBuyersModel" "lines" : Cond) ∈ qw_tbl := qt_6 (List.mem_of_getElem? (i := 141) rfl) rfl
theorem w_1440 : (.laysFinal "SecretBuyersModel" "SecretBuyersModel" "lineKind" "[I" : Cond) ∈ qw_tbl := qt_6 (List.mem_of_getElem? (i := 142) rfl) rfl
theorem w_1441 : (.soleField "SecretBuyersModel" "lineKind" : Cond) ∈ qw_tbl := qt_6 (List.mem_of_getElem? (i := 143) rfl) rfl
theorem w_1442 : (.laysFinal "SecretBuyersModel" "SecretBuyersModel" "lineN" "[I" : Cond) ∈ qw_tbl := qt_6 (List.mem_of_getElem? (i := 144) rfl) rfl
theorem w_1443 : (.soleField "SecretBuyersModel" "lineN" : Cond) ∈ qw_tbl := qt_6 (List.mem_of_getElem? (i := 145) rfl) rfl
theorem w_1444 : (.laysFinal "SecretBuyersModel" "SecretBuyersModel" "lineAt" "[I" : Cond) ∈ qw_tbl := qt_6 (List.mem_of_getElem? (i := 146) rfl) rfl
theorem w_1445 : (.soleField "SecretBuyersModel" "lineAt" : Cond) ∈ qw_tbl := qt_6 (List.mem_of_getElem? (i := 147) rfl) rfl
theorem w_1446 : (.laysFinal "SecretBuyersModel" "SecretBuyersModel" "lineWhen" "[I" : Cond) ∈ qw_tbl := qt_6 (List.mem_of_getElem? (i := 148) rfl) rfl
theorem w_1447 : (.soleField "SecretBuyersModel" "lineWhen" : Cond) ∈ qw_tbl := qt_6 (List.mem_of_getElem? (i := 149) rfl) rfl
theorem w_1448 : (.lays "SecretBuyersModel" "SecretBuyersModel" "names" "I" : Cond) ∈ qw_tbl := qt_6 (List.mem_of_getElem? (i := 150) rfl) rfl
theorem w_1449 : (.soleField "SecretBuyersModel" "names" : Cond) ∈ qw_tbl := qt_6 (List.mem_of_getElem? (i := 151) rfl) rfl
theorem w_1450 : (.laysFinal "SecretBuyersModel" "SecretBuyersModel" "name" "[J" : Cond) ∈ qw_tbl := qt_6 (List.mem_of_getElem? (i := 152) rfl) rfl
theorem w_1451 : (.soleField "SecretBuyersModel" "name" : Cond) ∈ qw_tbl := qt_6 (List.mem_of_getElem? (i := 153) rfl) rfl
theorem w_1452 : (.lays "SecretBuyersModel" "SecretBuyersModel" "codes" "I" : Cond) ∈ qw_tbl := qt_6 (List.mem_of_getElem? (i := 154) rfl) rfl
theorem w_1453 : (.soleField "SecretBuyersModel" "codes" : Cond) ∈ qw_tbl := qt_6 (List.mem_of_getElem? (i := 155) rfl) rfl
theorem w_1454 : (.laysFinal "SecretBuyersModel" "SecretBuyersModel" "op" "[I" : Cond) ∈ qw_tbl := qt_6 (List.mem_of_getElem? (i := 156) rfl) rfl
theorem w_1455 : (.soleField "SecretBuyersModel" "op" : Cond) ∈ qw_tbl := qt_6 (List.mem_of_getElem? (i := 157) rfl) rfl
theorem w_1456 : (.laysFinal "SecretBuyersModel" "SecretBuyersModel" "one" "[I" : Cond) ∈ qw_tbl := qt_6 (List.mem_of_getElem? (i := 158) rfl) rfl
theorem w_1457 : (.soleField "SecretBuyersModel" "one" : Cond) ∈ qw_tbl := qt_6 (List.mem_of_getElem? (i := 159) rfl) rfl
theorem w_1458 : (.laysFinal "SecretBuyersModel" "SecretBuyersModel" "known" "[I" : Cond) ∈ qw_tbl := qt_6 (List.mem_of_getElem? (i := 160) rfl) rfl
theorem w_1459 : (.soleField "SecretBuyersModel" "known" : Cond) ∈ qw_tbl := qt_6 (List.mem_of_getElem? (i := 161) rfl) rfl
theorem w_1460 : (.lays "SecretBuyersModel" "SecretBuyersModel" "form" "I" : Cond) ∈ qw_tbl := qt_6 (List.mem_of_getElem? (i := 162) rfl) rfl
theorem w_1461 : (.soleField "SecretBuyersModel" "form" : Cond) ∈ qw_tbl := qt_6 (List.mem_of_getElem? (i := 163) rfl) rfl
theorem w_1462 : (.laysFinal "SecretBuyersModel" "SecretBuyersModel" "named" "[I" : Cond) ∈ qw_tbl := qt_6 (List.mem_of_getElem? (i := 164) rfl) rfl
theorem w_1463 : (.soleField "SecretBuyersModel" "named" : Cond) ∈ qw_tbl := qt_6 (List.mem_of_getElem? (i := 165) rfl) rfl
theorem w_1464 : (.laysFinal "SecretBuyersModel" "SecretBuyersModel" "pile" "[I" : Cond) ∈ qw_tbl := qt_6 (List.mem_of_getElem? (i := 166) rfl) rfl
theorem w_1465 : (.soleField "SecretBuyersModel" "pile" : Cond) ∈ qw_tbl := qt_6 (List.mem_of_getElem? (i := 167) rfl) rfl
theorem w_1466 : (.lays "SecretBuyersModel" "SecretBuyersModel" "scored" "I" : Cond) ∈ qw_tbl := qt_6 (List.mem_of_getElem? (i := 168) rfl) rfl
theorem w_1467 : (.soleField "SecretBuyersModel" "scored" : Cond) ∈ qw_tbl := qt_6 (List.mem_of_getElem? (i := 169) rfl) rfl
theorem w_1468 : (.lays "SecretBuyersModel" "SecretBuyersModel" "bonused" "I" : Cond) ∈ qw_tbl := qt_6 (List.mem_of_getElem? (i := 170) rfl) rfl
theorem w_1469 : (.soleField "SecretBuyersModel" "bonused" : Cond) ∈ qw_tbl := qt_6 (List.mem_of_getElem? (i := 171) rfl) rfl
theorem w_1470 : (.lays "SecretBuyersModel" "SecretBuyersModel" "now" "I" : Cond) ∈ qw_tbl := qt_6 (List.mem_of_getElem? (i := 172) rfl) rfl
theorem w_1471 : (.soleField "SecretBuyersModel" "now" : Cond) ∈ qw_tbl := qt_6 (List.mem_of_getElem? (i := 173) rfl) rfl
theorem w_1472 : (.lays "SecretBuyersModel" "SecretBuyersModel" "viewed" "I" : Cond) ∈ qw_tbl := qt_6 (List.mem_of_getElem? (i := 174) rfl) rfl
theorem w_1473 : (.soleField "SecretBuyersModel" "viewed" : Cond) ∈ qw_tbl := qt_6 (List.mem_of_getElem? (i := 175) rfl) rfl
theorem w_1474 : (.lays "SecretBuyersModel" "SecretBuyersModel" "shops" "I" : Cond) ∈ qw_tbl := qt_6 (List.mem_of_getElem? (i := 176) rfl) rfl
theorem w_1475 : (.soleField "SecretBuyersModel" "shops" : Cond) ∈ qw_tbl := qt_6 (List.mem_of_getElem? (i := 177) rfl) rfl
theorem w_1476 : (.laysFinal "SecretBuyersModel" "SecretBuyersModel" "shopX" "[I" : Cond) ∈ qw_tbl := qt_6 (List.mem_of_getElem? (i := 178) rfl) rfl
theorem w_1477 : (.soleField "SecretBuyersModel" "shopX" : Cond) ∈ qw_tbl := qt_6 (List.mem_of_getElem? (i := 179) rfl) rfl
theorem w_1478 : (.laysFinal "SecretBuyersModel" "SecretBuyersModel" "shopY" "[I" : Cond) ∈ qw_tbl := qt_6 (List.mem_of_getElem? (i := 180) rfl) rfl
theorem w_1479 : (.soleField "SecretBuyersModel" "shopY" : Cond) ∈ qw_tbl := qt_6 (List.mem_of_getElem? (i := 181) rfl) rfl
theorem w_1480 : (.laysFinal "SecretBuyersModel" "SecretBuyersModel" "chainOf" "[I" : Cond) ∈ qw_tbl := qt_6 (List.mem_of_getElem? (i := 182) rfl) rfl
theorem w_1481 : (.soleField "SecretBuyersModel" "chainOf" : Cond) ∈ qw_tbl := qt_6 (List.mem_of_getElem? (i := 183) rfl) rfl
theorem w_1482 : (.laysFinal "SecretBuyersModel" "SecretBuyersModel" "opens" "[I" : Cond) ∈ qw_tbl := qt_6 (List.mem_of_getElem? (i := 184) rfl) rfl
theorem w_1483 : (.soleField "SecretBuyersModel" "opens" : Cond) ∈ qw_tbl := qt_6 (List.mem_of_getElem? (i := 185) rfl) rfl
theorem w_1484 : (.laysFinal "SecretBuyersModel" "SecretBuyersModel" "closes" "[I" : Cond) ∈ qw_tbl := qt_6 (List.mem_of_getElem? (i := 186) rfl) rfl
theorem w_1485 : (.soleField "SecretBuyersModel" "closes" : Cond) ∈ qw_tbl := qt_6 (List.mem_of_getElem? (i := 187) rfl) rfl
theorem w_1486 : (.laysFinal "SecretBuyersModel" "SecretBuyersModel" "records" "[Z" : Cond) ∈ qw_tbl := qt_6 (List.mem_of_getElem? (i := 188) rfl) rfl
theorem w_1487 : (.soleField "SecretBuyersModel" "records" : Cond) ∈ qw_tbl := qt_6 (List.mem_of_getElem? (i := 189) rfl) rfl
theorem w_1488 : (.lays "SecretBuyersModel" "SecretBuyersModel" "buyers" "I" : Cond) ∈ qw_tbl := qt_6 (List.mem_of_getElem? (i := 190) rfl) rfl
theorem w_1489 : (.soleField "SecretBuyersModel" "buyers" : Cond) ∈ qw_tbl := qt_6 (List.mem_of_getElem? (i := 191) rfl) rfl
theorem w_1490 : (.laysFinal "SecretBuyersModel" "SecretBuyersModel" "homeX" "[I" : Cond) ∈ qw_tbl := qt_6 (List.mem_of_getElem? (i := 192) rfl) rfl
theorem w_1491 : (.soleField "SecretBuyersModel" "homeX" : Cond) ∈ qw_tbl := qt_6 (List.mem_of_getElem? (i := 193) rfl) rfl
theorem w_1492 : (.laysFinal "SecretBuyersModel" "SecretBuyersModel" "homeY" "[I" : Cond) ∈ qw_tbl := qt_6 (List.mem_of_getElem? (i := 194) rfl) rfl
theorem w_1493 : (.soleField "SecretBuyersModel" "homeY" : Cond) ∈ qw_tbl := qt_6 (List.mem_of_getElem? (i := 195) rfl) rfl
theorem w_1494 : (.lays "SecretBuyersModel" "SecretBuyersModel" "pace" "I" : Cond) ∈ qw_tbl := qt_6 (List.mem_of_getElem? (i := 196) rfl) rfl
theorem w_1495 : (.soleField "SecretBuyersModel" "pace" : Cond) ∈ qw_tbl := qt_6 (List.mem_of_getElem? (i := 197) rfl) rfl
theorem w_1496 : (.lays "SecretBuyersModel" "SecretBuyersModel" "fee" "I" : Cond) ∈ qw_tbl := qt_6 (List.mem_of_getElem? (i := 198) rfl) rfl
theorem w_1497 : (.soleField "SecretBuyersModel" "fee" : Cond) ∈ qw_tbl := qt_6 (List.mem_of_getElem? (i := 199) rfl) rfl
theorem w_1498 : (.lays "SecretBuyersModel" "SecretBuyersModel" "spread" "I" : Cond) ∈ qw_tbl := qt_6 (List.mem_of_getElem? (i := 200) rfl) rfl
theorem w_1499 : (.soleField "SecretBuyersModel" "spread" : Cond) ∈ qw_tbl := qt_6 (List.mem_of_getElem? (i := 201) rfl) rfl
theorem w_1500 : (.lays "SecretBuyersModel" "SecretBuyersModel" "restDays" "I" : Cond) ∈ qw_tbl := qt_6 (List.mem_of_getElem? (i := 202) rfl) rfl
theorem w_1501 : (.soleField "SecretBuyersModel" "restDays" : Cond) ∈ qw_tbl := qt_6 (List.mem_of_getElem? (i := 203) rfl) rfl
theorem w_1502 : (.lays "SecretBuyersModel" "SecretBuyersModel" "reach" "I" : Cond) ∈ qw_tbl := qt_6 (List.mem_of_getElem? (i := 204) rfl) rfl
theorem w_1503 : (.soleField "SecretBuyersModel" "reach" : Cond) ∈ qw_tbl := qt_6 (List.mem_of_getElem? (i := 205) rfl) rfl
theorem w_1504 : (.lays "SecretBuyersModel" "SecretBuyersModel" "visits" "I" : Cond) ∈ qw_tbl := qt_6 (List.mem_of_getElem? (i := 206) rfl) rfl
theorem w_1505 : (.soleField "SecretBuyersModel" "visits" : Cond) ∈ qw_tbl := qt_6 (List.mem_of_getElem? (i := 207) rfl) rfl
theorem w_1506 : (.laysFinal "SecretBuyersModel" "SecretBuyersModel" "shopOf" "[I" : Cond) ∈ qw_tbl := qt_6 (List.mem_of_getElem? (i := 208) rfl) rfl
theorem w_1507 : (.soleField "SecretBuyersModel" "shopOf" : Cond) ∈ qw_tbl := qt_6 (List.mem_of_getElem? (i := 209) rfl) rfl
theorem w_1508 : (.laysFinal "SecretBuyersModel" "SecretBuyersModel" "buyerOf" "[I" : Cond) ∈ qw_tbl := qt_6 (List.mem_of_getElem? (i := 210) rfl) rfl
theorem w_1509 : (.soleField "SecretBuyersModel" "buyerOf" : Cond) ∈ qw_tbl := qt_6 (List.mem_of_getElem? (i := 211) rfl) rfl
theorem w_1510 : (.laysFinal "SecretBuyersModel" "SecretBuyersModel" "dayOf" "[I" : Cond) ∈ qw_tbl := qt_6 (List.mem_of_getElem? (i := 212) rfl) rfl
theorem w_1511 : (.soleField "SecretBuyersModel" "dayOf" : Cond) ∈ qw_tbl := qt_6 (List.mem_of_getElem? (i := 213) rfl) rfl
theorem w_1512 : (.laysFinal "SecretBuyersModel" "SecretBuyersModel" "minuteOf" "[I" : Cond) ∈ qw_tbl := qt_6 (List.mem_of_getElem? (i := 214) rfl) rfl
theorem w_1513 : (.soleField "SecretBuyersModel" "minuteOf" : Cond) ∈ qw_tbl := qt_6 (List.mem_of_getElem? (i := 215) rfl) rfl
theorem w_1514 : (.laysFinal "SecretBuyersModel" "SecretBuyersModel" "manyOf" "[I" : Cond) ∈ qw_tbl := qt_6 (List.mem_of_getElem? (i := 216) rfl) rfl
theorem w_1515 : (.soleField "SecretBuyersModel" "manyOf" : Cond) ∈ qw_tbl := qt_6 (List.mem_of_getElem? (i := 217) rfl) rfl
theorem w_1516 : (.laysFinal "SecretBuyersModel" "SecretBuyersModel" "formOf" "[I" : Cond) ∈ qw_tbl := qt_6 (List.mem_of_getElem? (i := 218) rfl) rfl
theorem w_1517 : (.soleField "SecretBuyersModel" "formOf" : Cond) ∈ qw_tbl := qt_6 (List.mem_of_getElem? (i := 219) rfl) rfl
theorem w_1518 : (.laysFinal "SecretBuyersModel" "SecretBuyersModel" "receiptOf" "[I" : Cond) ∈ qw_tbl := qt_6 (List.mem_of_getElem? (i := 220) rfl) rfl
theorem w_1519 : (.soleField "SecretBuyersModel" "receiptOf" : Cond) ∈ qw_tbl := qt_6 (List.mem_of_getElem? (i := 221) rfl) rfl
theorem w_1520 : (.laysFinal "SecretBuyersModel" "SecretBuyersModel" "toldOn" "[I" : Cond) ∈ qw_tbl := qt_6 (List.mem_of_getElem? (i := 222) rfl) rfl
theorem w_1521 : (.soleField "SecretBuyersModel" "toldOn" : Cond) ∈ qw_tbl := qt_6 (List.mem_of_getElem? (i := 223) rfl) rfl
theorem w_1522 : (.lays "SecretBuyersModel" "SecretBuyersModel" "appeals" "I" : Cond) ∈ qw_tbl := qt_6 (List.mem_of_getElem? (i := 224) rfl) rfl
theorem w_1523 : (.soleField "SecretBuyersModel" "appeals" : Cond) ∈ qw_tbl := qt_6 (List.mem_of_getElem? (i := 225) rfl) rfl
theorem w_1524 : (.laysFinal "SecretBuyersModel" "SecretBuyersModel" "appealOf" "[I" : Cond) ∈ qw_tbl := qt_6 (List.mem_of_getElem? (i := 226) rfl) rfl
theorem w_1525 : (.soleField "SecretBuyersModel" "appealOf" : Cond) ∈ qw_tbl := qt_6 (List.mem_of_getElem? (i := 227) rfl) rfl
theorem w_1526 : (.laysFinal "SecretBuyersModel" "SecretBuyersModel" "appealItem" "[I" : Cond) ∈ qw_tbl := qt_6 (List.mem_of_getElem? (i := 228) rfl) rfl
theorem w_1527 : (.soleField "SecretBuyersModel" "appealItem" : Cond) ∈ qw_tbl := qt_6 (List.mem_of_getElem? (i := 229) rfl) rfl
theorem w_1528 : (.laysFinal "SecretBuyersModel" "SecretBuyersModel" "appealOn" "[I" : Cond) ∈ qw_tbl := qt_6 (List.mem_of_getElem? (i := 230) rfl) rfl
theorem w_1529 : (.soleField "SecretBuyersModel" "appealOn" : Cond) ∈ qw_tbl := qt_6 (List.mem_of_getElem? (i := 231) rfl) rfl
theorem w_1530 : (.lays "SecretBuyersModel" "SecretBuyersModel" "seenMany" "I" : Cond) ∈ qw_tbl := qt_6 (List.mem_of_getElem? (i := 232) rfl) rfl
theorem w_1531 : (.soleField "SecretBuyersModel" "seenMany" : Cond) ∈ qw_tbl := qt_6 (List.mem_of_getElem? (i := 233) rfl) rfl
theorem w_1532 : (.laysFinal "SecretBuyersModel" "SecretBuyersModel" "line" "[I" : Cond) ∈ qw_tbl := qt_6 (List.mem_of_getElem? (i := 234) rfl) rfl
theorem w_1533 : (.soleField "SecretBuyersModel" "line" : Cond) ∈ qw_tbl := qt_6 (List.mem_of_getElem? (i := 235) rfl) rfl
theorem w_1534 : (.laysFinal "SecretBuyersModel" "SecretBuyersModel" "score" "[I" : Cond) ∈ qw_tbl := qt_6 (List.mem_of_getElem? (i := 236) rfl) rfl
theorem w_1535 : (.soleField "SecretBuyersModel" "score" : Cond) ∈ qw_tbl := qt_6 (List.mem_of_getElem? (i := 237) rfl) rfl
theorem w_1536 : (.laysFinal "SecretBuyersModel" "SecretBuyersModel" "bonus" "[I" : Cond) ∈ qw_tbl := qt_6 (List.mem_of_getElem? (i := 238) rfl) rfl
theorem w_1537 : (.soleField "SecretBuyersModel" "bonus" : Cond) ∈ qw_tbl := qt_6 (List.mem_of_getElem? (i := 239) rfl) rfl
theorem w_1538 : (.laysFinal "SecretBuyersModel" "SecretBuyersModel" "state" "[I" : Cond) ∈ qw_tbl := qt_7 (List.mem_of_getElem? (i := 0) rfl) rfl
theorem w_1539 : (.soleField "SecretBuyersModel" "state" : Cond) ∈ qw_tbl := qt_7 (List.mem_of_getElem? (i := 1) rfl) rfl
theorem w_1540 : (.lays "SecretBuyersModel" "SecretBuyersModel" "these" "I" : Cond) ∈ qw_tbl := qt_7 (List.mem_of_getElem? (i := 2) rfl) rfl
theorem w_1541 : (.soleField "SecretBuyersModel" "these" : Cond) ∈ qw_tbl := qt_7 (List.mem_of_getElem? (i := 3) rfl) rfl
theorem w_1542 : (.laysFinal "SecretBuyersModel" "SecretBuyersModel" "thisOne" "[I" : Cond) ∈ qw_tbl := qt_7 (List.mem_of_getElem? (i := 4) rfl) rfl
theorem w_1543 : (.soleField "SecretBuyersModel" "thisOne" : Cond) ∈ qw_tbl := qt_7 (List.mem_of_getElem? (i := 5) rfl) rfl
theorem w_1544 : (.laysFinal "SecretBuyersModel" "SecretBuyersModel" "quarrels" "[Z" : Cond) ∈ qw_tbl := qt_7 (List.mem_of_getElem? (i := 6) rfl) rfl
theorem w_1545 : (.soleField "SecretBuyersModel" "quarrels" : Cond) ∈ qw_tbl := qt_7 (List.mem_of_getElem? (i := 7) rfl) rfl
theorem w_1546 : (.lays "SecretBuyersModel" "SecretBuyersModel" "fewest" "I" : Cond) ∈ qw_tbl := qt_7 (List.mem_of_getElem? (i := 8) rfl) rfl
theorem w_1547 : (.soleField "SecretBuyersModel" "fewest" : Cond) ∈ qw_tbl := qt_7 (List.mem_of_getElem? (i := 9) rfl) rfl
theorem w_1548 : (.lays "SecretBuyersModel" "SecretBuyersModel" "firstSet" "I" : Cond) ∈ qw_tbl := qt_7 (List.mem_of_getElem? (i := 10) rfl) rfl
theorem w_1549 : (.soleField "SecretBuyersModel" "firstSet" : Cond) ∈ qw_tbl := qt_7 (List.mem_of_getElem? (i := 11) rfl) rfl
theorem w_1550 : (.lays "SecretBuyersModel" "SecretBuyersModel" "fewestAll" "I" : Cond) ∈ qw_tbl := qt_7 (List.mem_of_getElem? (i := 12) rfl) rfl
theorem w_1551 : (.soleField "SecretBuyersModel" "fewestAll" : Cond) ∈ qw_tbl := qt_7 (List.mem_of_getElem? (i := 13) rfl) rfl
theorem w_1552 : (.laysFinal "SecretBuyersModel" "SecretBuyersModel" "leans" "[I" : Cond) ∈ qw_tbl := qt_7 (List.mem_of_getElem? (i := 14) rfl) rfl
theorem w_1553 : (.soleField "SecretBuyersModel" "leans" : Cond) ∈ qw_tbl := qt_7 (List.mem_of_getElem? (i := 15) rfl) rfl
theorem w_1554 : (.laysFinal "SecretBuyersModel" "SecretBuyersModel" "met" "[I" : Cond) ∈ qw_tbl := qt_7 (List.mem_of_getElem? (i := 16) rfl) rfl
theorem w_1555 : (.soleField "SecretBuyersModel" "met" : Cond) ∈ qw_tbl := qt_7 (List.mem_of_getElem? (i := 17) rfl) rfl
theorem w_1556 : (.laysFinal "SecretBuyersModel" "SecretBuyersModel" "meanOf" "[I" : Cond) ∈ qw_tbl := qt_7 (List.mem_of_getElem? (i := 18) rfl) rfl
theorem w_1557 : (.soleField "SecretBuyersModel" "meanOf" : Cond) ∈ qw_tbl := qt_7 (List.mem_of_getElem? (i := 19) rfl) rfl
theorem w_1558 : (.laysFinal "SecretBuyersModel" "SecretBuyersModel" "countOf" "[I" : Cond) ∈ qw_tbl := qt_7 (List.mem_of_getElem? (i := 20) rfl) rfl
theorem w_1559 : (.soleField "SecretBuyersModel" "countOf" : Cond) ∈ qw_tbl := qt_7 (List.mem_of_getElem? (i := 21) rfl) rfl
theorem w_1560 : (.laysFinal "SecretBuyersModel" "SecretBuyersModel" "rowTo" "[I" : Cond) ∈ qw_tbl := qt_7 (List.mem_of_getElem? (i := 22) rfl) rfl
theorem w_1561 : (.soleField "SecretBuyersModel" "rowTo" : Cond) ∈ qw_tbl := qt_7 (List.mem_of_getElem? (i := 23) rfl) rfl
theorem w_1562 : (.laysFinal "SecretBuyersModel" "SecretBuyersModel" "power" "[I" : Cond) ∈ qw_tbl := qt_7 (List.mem_of_getElem? (i := 24) rfl) rfl
theorem w_1563 : (.soleField "SecretBuyersModel" "power" : Cond) ∈ qw_tbl := qt_7 (List.mem_of_getElem? (i := 25) rfl) rfl
theorem w_1564 : (.laysFinal "SecretBuyersModel" "SecretBuyersModel" "least" "[I" : Cond) ∈ qw_tbl := qt_7 (List.mem_of_getElem? (i := 26) rfl) rfl
theorem w_1565 : (.soleField "SecretBuyersModel" "least" : Cond) ∈ qw_tbl := qt_7 (List.mem_of_getElem? (i := 27) rfl) rfl
theorem w_1566 : (.laysFinal "SecretBuyersModel" "SecretBuyersModel" "givenShop" "[I" : Cond) ∈ qw_tbl := qt_7 (List.mem_of_getElem? (i := 28) rfl) rfl
theorem w_1567 : (.soleField "SecretBuyersModel" "givenShop" : Cond) ∈ qw_tbl := qt_7 (List.mem_of_getElem? (i := 29) rfl) rfl
theorem w_1568 : (.laysFinal "SecretBuyersModel" "SecretBuyersModel" "givenBuyer" "[I" : Cond) ∈ qw_tbl := qt_7 (List.mem_of_getElem? (i := 30) rfl) rfl
theorem w_1569 : (.soleField "SecretBuyersModel" "givenBuyer" : Cond) ∈ qw_tbl := qt_7 (List.mem_of_getElem? (i := 31) rfl) rfl
theorem w_1570 : (.laysFinal "SecretBuyersModel" "SecretBuyersModel" "goes" "[I" : Cond) ∈ qw_tbl := qt_7 (List.mem_of_getElem? (i := 32) rfl) rfl
theorem w_1571 : (.soleField "SecretBuyersModel" "goes" : Cond) ∈ qw_tbl := qt_7 (List.mem_of_getElem? (i := 33) rfl) rfl
theorem w_1573 : (.methodLink "SecretBuyersLaw" 77 (⟨"SecretBuyersModel", "brief", "(II)I"⟩ : MethodName) : Cond) ∈ qw_tbl := qt_7 (List.mem_of_getElem? (i := 35) rfl) rfl
theorem w_1574 : (.instanceMethod (⟨"SecretBuyersModel", "brief", "(II)I"⟩ : MethodName) : Cond) ∈ qw_tbl := qt_7 (List.mem_of_getElem? (i := 36) rfl) rfl
theorem w_1575 : (.selects "SecretBuyersModel" (⟨"SecretBuyersModel", "brief", "(II)I"⟩ : MethodName) (⟨"SecretBuyersModel", "brief", "(II)I"⟩ : MethodName) : Cond) ∈ qw_tbl := qt_7 (List.mem_of_getElem? (i := 37) rfl) rfl
theorem w_1576 : (.code (⟨"SecretBuyersModel", "brief", "(II)I"⟩ : MethodName) prog_14_method_18_code 3 (Option.some Jvm.ClassFile.FieldType.int) : Cond) ∈ qw_tbl := qt_7 (List.mem_of_getElem? (i := 38) rfl) rfl
theorem w_1577 : (.methodLink "SecretBuyersModel" 282 (⟨"SecretBuyersModel", "cutAll", "()V"⟩ : MethodName) : Cond) ∈ qw_tbl := qt_7 (List.mem_of_getElem? (i := 39) rfl) rfl
theorem w_1579 : (.instanceMethod (⟨"SecretBuyersModel", "cutAll", "()V"⟩ : MethodName) : Cond) ∈ qw_tbl := qt_7 (List.mem_of_getElem? (i := 41) rfl) rfl
theorem w_1580 : (.code (⟨"SecretBuyersModel", "cutAll", "()V"⟩ : MethodName) prog_14_method_9_code 7 (Option.none : Option Jvm.ClassFile.FieldType) : Cond) ∈ qw_tbl := qt_7 (List.mem_of_getElem? (i := 42) rfl) rfl
theorem w_1581 : (.methodLink "SecretBuyersModel" 234 (⟨"SecretBuyersModel", "isLetter", "(I)Z"⟩ : MethodName) : Cond) ∈ qw_tbl := qt_7 (List.mem_of_getElem? (i := 43) rfl) rfl
theorem w_1582 : (.static (⟨"SecretBuyersModel", "isLetter", "(I)Z"⟩ : MethodName) : Cond) ∈ qw_tbl := qt_7 (List.mem_of_getElem? (i := 44) rfl) rfl
theorem w_1583 : (.code (⟨"SecretBuyersModel", "isLetter", "(I)Z"⟩ : MethodName) prog_14_method_5_code 1 (Option.some Jvm.ClassFile.FieldType.boolean) : Cond) ∈ qw_tbl := qt_7 (List.mem_of_getElem? (i := 45) rfl) rfl
theorem w_1584 : (.constantLong "SecretBuyersModel" 241 37 : Cond) ∈ qw_tbl := qt_7 (List.mem_of_getElem? (i := 46) rfl) rfl
theorem w_1585 : (.methodLink "SecretBuyersModel" 243 (⟨"SecretBuyersModel", "rank", "(I)I"⟩ : MethodName) : Cond) ∈ qw_tbl := qt_7 (List.mem_of_getElem? (i := 47) rfl) rfl
theorem w_1586 : (.static (⟨"SecretBuyersModel", "rank", "(I)I"⟩ : MethodName) : Cond) ∈ qw_tbl := qt_7 (List.mem_of_getElem? (i := 48) rfl) rfl
theorem w_1587 : (.code (⟨"SecretBuyersModel", "rank", "(I)I"⟩ : MethodName) prog_14_method_7_code 1 (Option.some Jvm.ClassFile.FieldType.int) : Cond) ∈ qw_tbl := qt_7 (List.mem_of_getElem? (i := 49) rfl) rfl
theorem w_1588 : (.methodLink "SecretBuyersModel" 247 (⟨"SecretBuyersModel", "isDigit", "(I)Z"⟩ : MethodName) : Cond) ∈ qw_tbl := qt_7 (List.mem_of_getElem? (i := 50) rfl) rfl
theorem w_1589 : (.static (⟨"SecretBuyersModel", "isDigit", "(I)Z"⟩ : MethodName) : Cond) ∈ qw_tbl := qt_7 (List.mem_of_getElem? (i := 51) rfl) rfl
theorem w_1590 : (.code (⟨"SecretBuyersModel", "isDigit", "(I)Z"⟩ : MethodName) prog_14_method_6_code 1 (Option.some Jvm.ClassFile.FieldType.boolean) : Cond) ∈ qw_tbl := qt_7 (List.mem_of_getElem? (i := 52) rfl) rfl
theorem w_1591 : (.constantLong "SecretBuyersModel" 250 10 : Cond) ∈ qw_tbl := qt_7 (List.mem_of_getElem? (i := 53) rfl) rfl
theorem w_1592 : (.constantLong "SecretBuyersModel" 252 48 : Cond) ∈ qw_tbl := qt_7 (List.mem_of_getElem? (i := 54) rfl) rfl
theorem w_1593 : (.methodLink "SecretBuyersModel" 254 (⟨"SecretBuyersModel", "isSignOf", "(I)Z"⟩ : MethodName) : Cond) ∈ qw_tbl := qt_7 (List.mem_of_getElem? (i := 55) rfl) rfl
theorem w_1594 : (.static (⟨"SecretBuyersModel", "isSignOf", "(I)Z"⟩ : MethodName) : Cond) ∈ qw_tbl := qt_7 (List.mem_of_getElem? (i := 56) rfl) rfl
theorem w_1595 : (.code (⟨"SecretBuyersModel", "isSignOf", "(I)Z"⟩ : MethodName) prog_14_method_8_code 1 (Option.some Jvm.ClassFile.FieldType.boolean) : Cond) ∈ qw_tbl := qt_7 (List.mem_of_getElem? (i := 57) rfl) rfl
theorem w_1596 : (.methodLink "SecretBuyersModel" 288 (⟨"SecretBuyersModel", "readLine", "()V"⟩ : MethodName) : Cond) ∈ qw_tbl := qt_7 (List.mem_of_getElem? (i := 58) rfl) rfl
theorem w_1598 : (.instanceMethod (⟨"SecretBuyersModel", "readLine", "()V"⟩ : MethodName) : Cond) ∈ qw_tbl := qt_7 (List.mem_of_getElem? (i := 60) rfl) rfl
theorem w_1599 : (.code (⟨"SecretBuyersModel", "readLine", "()V"⟩ : MethodName) prog_14_method_23_code 2 (Option.none : Option Jvm.ClassFile.FieldType) : Cond) ∈ qw_tbl := qt_7 (List.mem_of_getElem? (i := 61) rfl) rfl
theorem w_1600 : (.methodLink "SecretBuyersModel" 270 (⟨"SecretBuyersModel", "isWord", "(I)Z"⟩ : MethodName) : Cond) ∈ qw_tbl := qt_7 (List.mem_of_getElem? (i := 62) rfl) rfl
theorem w_1602 : (.instanceMethod (⟨"SecretBuyersModel", "isWord", "(I)Z"⟩ : MethodName) : Cond) ∈ qw_tbl := qt_7 (List.mem_of_getElem? (i := 64) rfl) rfl
theorem w_1603 : (.code (⟨"SecretBuyersModel", "isWord", "(I)Z"⟩ : MethodName) prog_14_method_12_code 2 (Option.some Jvm.ClassFile.FieldType.boolean) : Cond) ∈ qw_tbl := qt_7 (List.mem_of_getElem? (i := 65) rfl) rfl
theorem w_1604 : (.methodLink "SecretBuyersModel" 266 (⟨"SecretBuyersModel", "wrong", "(I)V"⟩ : MethodName) : Cond) ∈ qw_tbl := qt_7 (List.mem_of_getElem? (i := 66) rfl) rfl
theorem w_1606 : (.instanceMethod (⟨"SecretBuyersModel", "wrong", "(I)V"⟩ : MethodName) : Cond) ∈ qw_tbl := qt_7 (List.mem_of_getElem? (i := 68) rfl) rfl
theorem w_1607 : (.code (⟨"SecretBuyersModel", "wrong", "(I)V"⟩ : MethodName) prog_14_method_10_code 2 (Option.none : Option Jvm.ClassFile.FieldType) : Cond) ∈ qw_tbl := qt_7 (List.mem_of_getElem? (i := 69) rfl) rfl
theorem w_1608 : (.methodLink "SecretBuyersModel" 298 (⟨"SecretBuyersModel", "readLet", "(I)V"⟩ : MethodName) : Cond) ∈ qw_tbl := qt_7 (List.mem_of_getElem? (i := 70) rfl) rfl
theorem w_1610 : (.instanceMethod (⟨"SecretBuyersModel", "readLet", "(I)V"⟩ : MethodName) : Cond) ∈ qw_tbl := qt_7 (List.mem_of_getElem? (i := 72) rfl) rfl
theorem w_1611 : (.code (⟨"SecretBuyersModel", "readLet", "(I)V"⟩ : MethodName) prog_14_method_24_code 4 (Option.none : Option Jvm.ClassFile.FieldType) : Cond) ∈ qw_tbl := qt_7 (List.mem_of_getElem? (i := 73) rfl) rfl
theorem w_1612 : (.methodLink "SecretBuyersModel" 314 (⟨"SecretBuyersModel", "isName", "()Z"⟩ : MethodName) : Cond) ∈ qw_tbl := qt_7 (List.mem_of_getElem? (i := 74) rfl) rfl
theorem w_1614 : (.instanceMethod (⟨"SecretBuyersModel", "isName", "()Z"⟩ : MethodName) : Cond) ∈ qw_tbl := qt_7 (List.mem_of_getElem? (i := 76) rfl) rfl
theorem w_1615 : (.code (⟨"SecretBuyersModel", "isName", "()Z"⟩ : MethodName) prog_14_method_21_code 3 (Option.some Jvm.ClassFile.FieldType.boolean) : Cond) ∈ qw_tbl := qt_7 (List.mem_of_getElem? (i := 77) rfl) rfl
theorem w_1616 : (.methodLink "SecretBuyersModel" 318 (⟨"SecretBuyersModel", "findName", "()I"⟩ : MethodName) : Cond) ∈ qw_tbl := qt_7 (List.mem_of_getElem? (i := 78) rfl) rfl
theorem w_1618 : (.instanceMethod (⟨"SecretBuyersModel", "findName", "()I"⟩ : MethodName) : Cond) ∈ qw_tbl := qt_7 (List.mem_of_getElem? (i := 80) rfl) rfl
theorem w_1619 : (.code (⟨"SecretBuyersModel", "findName", "()I"⟩ : MethodName) prog_14_method_22_code 3 (Option.some Jvm.ClassFile.FieldType.int) : Cond) ∈ qw_tbl := qt_7 (List.mem_of_getElem? (i := 81) rfl) rfl
theorem w_1620 : (.methodLink "SecretBuyersModel" 311 (⟨"SecretBuyersModel", "takeSign", "(I)V"⟩ : MethodName) : Cond) ∈ qw_tbl := qt_7 (List.mem_of_getElem? (i := 82) rfl) rfl
theorem w_1622 : (.instanceMethod (⟨"SecretBuyersModel", "takeSign", "(I)V"⟩ : MethodName) : Cond) ∈ qw_tbl := qt_7 (List.mem_of_getElem? (i := 84) rfl) rfl
theorem w_1623 : (.code (⟨"SecretBuyersModel", "takeSign", "(I)V"⟩ : MethodName) prog_14_method_13_code 2 (Option.none : Option Jvm.ClassFile.FieldType) : Cond) ∈ qw_tbl := qt_7 (List.mem_of_getElem? (i := 85) rfl) rfl
theorem w_1624 : (.methodLink "SecretBuyersModel" 263 (⟨"SecretBuyersModel", "isSign", "(I)Z"⟩ : MethodName) : Cond) ∈ qw_tbl := qt_7 (List.mem_of_getElem? (i := 86) rfl) rfl
theorem w_1626 : (.instanceMethod (⟨"SecretBuyersModel", "isSign", "(I)Z"⟩ : MethodName) : Cond) ∈ qw_tbl := qt_7 (List.mem_of_getElem? (i := 88) rfl) rfl
theorem w_1627 : (.code (⟨"SecretBuyersModel", "isSign", "(I)Z"⟩ : MethodName) prog_14_method_11_code 2 (Option.some Jvm.ClassFile.FieldType.boolean) : Cond) ∈ qw_tbl := qt_7 (List.mem_of_getElem? (i := 89) rfl) rfl
theorem w_1628 : (.methodLink "SecretBuyersModel" 304 (⟨"SecretBuyersModel", "readTests", "()I"⟩ : MethodName) : Cond) ∈ qw_tbl := qt_7 (List.mem_of_getElem? (i := 90) rfl) rfl
theorem w_1630 : (.instanceMethod (⟨"SecretBuyersModel", "readTests", "()I"⟩ : MethodName) : Cond) ∈ qw_tbl := qt_7 (List.mem_of_getElem? (i := 92) rfl) rfl
theorem w_1631 : (.code (⟨"SecretBuyersModel", "readTests", "()I"⟩ : MethodName) prog_14_method_25_code 2 (Option.some Jvm.ClassFile.FieldType.int) : Cond) ∈ qw_tbl := qt_7 (List.mem_of_getElem? (i := 93) rfl) rfl
theorem w_1632 : (.methodLink "SecretBuyersModel" 321 (⟨"SecretBuyersModel", "all", "(I)V"⟩ : MethodName) : Cond) ∈ qw_tbl := qt_7 (List.mem_of_getElem? (i := 94) rfl) rfl
theorem w_1634 : (.instanceMethod (⟨"SecretBuyersModel", "all", "(I)V"⟩ : MethodName) : Cond) ∈ qw_tbl := qt_7 (List.mem_of_getElem? (i := 96) rfl) rfl
theorem w_1635 : (.code (⟨"SecretBuyersModel", "all", "(I)V"⟩ : MethodName) prog_14_method_26_code 3 (Option.none : Option Jvm.ClassFile.FieldType) : Cond) ∈ qw_tbl := qt_7 (List.mem_of_getElem? (i := 97) rfl) rfl
theorem w_1636 : (.methodLink "SecretBuyersModel" 327 (⟨"SecretBuyersModel", "test", "(I)V"⟩ : MethodName) : Cond) ∈ qw_tbl := qt_7 (List.mem_of_getElem? (i := 98) rfl) rfl
theorem w_1638 : (.instanceMethod (⟨"SecretBuyersModel", "test", "(I)V"⟩ : MethodName) : Cond) ∈ qw_tbl := qt_7 (List.mem_of_getElem? (i := 100) rfl) rfl
theorem w_1639 : (.code (⟨"SecretBuyersModel", "test", "(I)V"⟩ : MethodName) prog_14_method_27_code 3 (Option.none : Option Jvm.ClassFile.FieldType) : Cond) ∈ qw_tbl := qt_7 (List.mem_of_getElem? (i := 101) rfl) rfl
theorem w_1640 : (.methodLink "SecretBuyersModel" 330 (⟨"SecretBuyersModel", "sums", "(I)V"⟩ : MethodName) : Cond) ∈ qw_tbl := qt_7 (List.mem_of_getElem? (i := 102) rfl) rfl
theorem w_1642 : (.instanceMethod (⟨"SecretBuyersModel", "sums", "(I)V"⟩ : MethodName) : Cond) ∈ qw_tbl := qt_7 (List.mem_of_getElem? (i := 104) rfl) rfl
theorem w_1643 : (.code (⟨"SecretBuyersModel", "sums", "(I)V"⟩ : MethodName) prog_14_method_28_code 3 (Option.none : Option Jvm.ClassFile.FieldType) : Cond) ∈ qw_tbl := qt_7 (List.mem_of_getElem? (i := 105) rfl) rfl
theorem w_1644 : (.methodLink "SecretBuyersModel" 336 (⟨"SecretBuyersModel", "products", "(I)V"⟩ : MethodName) : Cond) ∈ qw_tbl := qt_7 (List.mem_of_getElem? (i := 106) rfl) rfl
theorem w_1646 : (.instanceMethod (⟨"SecretBuyersModel", "products", "(I)V"⟩ : MethodName) : Cond) ∈ qw_tbl := qt_7 (List.mem_of_getElem? (i := 108) rfl) rfl
theorem w_1647 : (.code (⟨"SecretBuyersModel", "products", "(I)V"⟩ : MethodName) prog_14_method_29_code 2 (Option.none : Option Jvm.ClassFile.FieldType) : Cond) ∈ qw_tbl := qt_7 (List.mem_of_getElem? (i := 109) rfl) rfl
theorem w_1648 : (.methodLink "SecretBuyersModel" 339 (⟨"SecretBuyersModel", "takePart", "(I)V"⟩ : MethodName) : Cond) ∈ qw_tbl := qt_7 (List.mem_of_getElem? (i := 110) rfl) rfl
theorem w_1650 : (.instanceMethod (⟨"SecretBuyersModel", "takePart", "(I)V"⟩ : MethodName) : Cond) ∈ qw_tbl := qt_7 (List.mem_of_getElem? (i := 112) rfl) rfl
theorem w_1651 : (.code (⟨"SecretBuyersModel", "takePart", "(I)V"⟩ : MethodName) prog_14_method_30_code 6 (Option.none : Option Jvm.ClassFile.FieldType) : Cond) ∈ qw_tbl := qt_7 (List.mem_of_getElem? (i := 113) rfl) rfl
theorem w_1652 : (.methodLink "SecretBuyersModel" 273 (⟨"SecretBuyersModel", "hasWord", "(I)Z"⟩ : MethodName) : Cond) ∈ qw_tbl := qt_7 (List.mem_of_getElem? (i := 114) rfl) rfl
theorem w_1654 : (.instanceMethod (⟨"SecretBuyersModel", "hasWord", "(I)Z"⟩ : MethodName) : Cond) ∈ qw_tbl := qt_7 (List.mem_of_getElem? (i := 116) rfl) rfl
theorem w_1655 : (.code (⟨"SecretBuyersModel", "hasWord", "(I)Z"⟩ : MethodName) prog_14_method_15_code 3 (Option.some Jvm.ClassFile.FieldType.boolean) : Cond) ∈ qw_tbl := qt_7 (List.mem_of_getElem? (i := 117) rfl) rfl
theorem w_1656 : (.methodLink "SecretBuyersModel" 324 (⟨"SecretBuyersModel", "emit", "(II)V"⟩ : MethodName) : Cond) ∈ qw_tbl := qt_7 (List.mem_of_getElem? (i := 118) rfl) rfl
theorem w_1658 : (.instanceMethod (⟨"SecretBuyersModel", "emit", "(II)V"⟩ : MethodName) : Cond) ∈ qw_tbl := qt_7 (List.mem_of_getElem? (i := 120) rfl) rfl
theorem w_1659 : (.code (⟨"SecretBuyersModel", "emit", "(II)V"⟩ : MethodName) prog_14_method_17_code 3 (Option.none : Option Jvm.ClassFile.FieldType) : Cond) ∈ qw_tbl := qt_7 (List.mem_of_getElem? (i := 121) rfl) rfl
theorem w_1660 : (.methodLink "SecretBuyersModel" 301 (⟨"SecretBuyersModel", "takeNumber", "(I)I"⟩ : MethodName) : Cond) ∈ qw_tbl := qt_7 (List.mem_of_getElem? (i := 122) rfl) rfl
theorem w_1662 : (.instanceMethod (⟨"SecretBuyersModel", "takeNumber", "(I)I"⟩ : MethodName) : Cond) ∈ qw_tbl := qt_7 (List.mem_of_getElem? (i := 124) rfl) rfl
theorem w_1663 : (.code (⟨"SecretBuyersModel", "takeNumber", "(I)I"⟩ : MethodName) prog_14_method_20_code 2 (Option.some Jvm.ClassFile.FieldType.int) : Cond) ∈ qw_tbl := qt_7 (List.mem_of_getElem? (i := 125) rfl) rfl
theorem w_1664 : (.methodLink "SecretBuyersModel" 333 (⟨"SecretBuyersModel", "hasSign", "(I)Z"⟩ : MethodName) : Cond) ∈ qw_tbl := qt_7 (List.mem_of_getElem? (i := 126) rfl) rfl
theorem w_1666 : (.instanceMethod (⟨"SecretBuyersModel", "hasSign", "(I)Z"⟩ : MethodName) : Cond) ∈ qw_tbl := qt_7 (List.mem_of_getElem? (i := 128) rfl) rfl
theorem w_1667 : (.code (⟨"SecretBuyersModel", "hasSign", "(I)Z"⟩ : MethodName) prog_14_method_14_code 3 (Option.some Jvm.ClassFile.FieldType.boolean) : Cond) ∈ qw_tbl := qt_7 (List.mem_of_getElem? (i := 129) rfl) rfl
theorem w_1668 : (.methodLink "SecretBuyersModel" 308 (⟨"SecretBuyersModel", "takeWord", "(I)V"⟩ : MethodName) : Cond) ∈ qw_tbl := qt_7 (List.mem_of_getElem? (i := 130) rfl) rfl
theorem w_1670 : (.instanceMethod (⟨"SecretBuyersModel", "takeWord", "(I)V"⟩ : MethodName) : Cond) ∈ qw_tbl := qt_7 (List.mem_of_getElem? (i := 132) rfl) rfl
theorem w_1671 : (.code (⟨"SecretBuyersModel", "takeWord", "(I)V"⟩ : MethodName) prog_14_method_16_code 2 (Option.none : Option Jvm.ClassFile.FieldType) : Cond) ∈ qw_tbl := qt_7 (List.mem_of_getElem? (i := 133) rfl) rfl
theorem w_1672 : (.methodLink "SecretBuyersModel" 291 (⟨"SecretBuyersModel", "keeps", "(II)V"⟩ : MethodName) : Cond) ∈ qw_tbl := qt_7 (List.mem_of_getElem? (i := 134) rfl) rfl
theorem w_1674 : (.instanceMethod (⟨"SecretBuyersModel", "keeps", "(II)V"⟩ : MethodName) : Cond) ∈ qw_tbl := qt_7 (List.mem_of_getElem? (i := 136) rfl) rfl
theorem w_1675 : (.code (⟨"SecretBuyersModel", "keeps", "(II)V"⟩ : MethodName) prog_14_method_19_code 5 (Option.none : Option Jvm.ClassFile.FieldType) : Cond) ∈ qw_tbl := qt_7 (List.mem_of_getElem? (i := 137) rfl) rfl
theorem w_1676 : (.methodLink "SecretBuyersLaw" 33 (⟨"SecretBuyersModel", "days", "(I)I"⟩ : MethodName) : Cond) ∈ qw_tbl := qt_7 (List.mem_of_getElem? (i := 138) rfl) rfl
theorem w_1677 : (.instanceMethod (⟨"SecretBuyersModel", "days", "(I)I"⟩ : MethodName) : Cond) ∈ qw_tbl := qt_7 (List.mem_of_getElem? (i := 139) rfl) rfl
theorem w_1678 : (.selects "SecretBuyersModel" (⟨"SecretBuyersModel", "days", "(I)I"⟩ : MethodName) (⟨"SecretBuyersModel", "days", "(I)I"⟩ : MethodName) : Cond) ∈ qw_tbl := qt_7 (List.mem_of_getElem? (i := 140) rfl) rfl
theorem w_1679 : (.code (⟨"SecretBuyersModel", "days", "(I)I"⟩ : MethodName) prog_14_method_37_code 2 (Option.some Jvm.ClassFile.FieldType.int) : Cond) ∈ qw_tbl := qt_7 (List.mem_of_getElem? (i := 141) rfl) rfl
theorem w_1680 : (.methodLink "SecretBuyersModel" 358 (⟨"SecretBuyersModel", "within", "(III)Z"⟩ : MethodName) : Cond) ∈ qw_tbl := qt_7 (List.mem_of_getElem? (i := 142) rfl) rfl
theorem w_1681 : (.static (⟨"SecretBuyersModel", "within", "(III)Z"⟩ : MethodName) : Cond) ∈ qw_tbl := qt_7 (List.mem_of_getElem? (i := 143) rfl) rfl
theorem w_1682 : (.code (⟨"SecretBuyersModel", "within", "(III)Z"⟩ : MethodName) prog_14_method_34_code 3 (Option.some Jvm.ClassFile.FieldType.boolean) : Cond) ∈ qw_tbl := qt_7 (List.mem_of_getElem? (i := 144) rfl) rfl
theorem w_1683 : (.methodLink "SecretBuyersLaw" 38 (⟨"SecretBuyersModel", "view", "(I)Z"⟩ : MethodName) : Cond) ∈ qw_tbl := qt_7 (List.mem_of_getElem? (i := 145) rfl) rfl
theorem w_1684 : (.instanceMethod (⟨"SecretBuyersModel", "view", "(I)Z"⟩ : MethodName) : Cond) ∈ qw_tbl := qt_7 (List.mem_of_getElem? (i := 146) rfl) rfl
theorem w_1685 : (.selects "SecretBuyersModel" (⟨"SecretBuyersModel", "view", "(I)Z"⟩ : MethodName) (⟨"SecretBuyersModel", "view", "(I)Z"⟩ : MethodName) : Cond) ∈ qw_tbl := qt_7 (List.mem_of_getElem? (i := 147) rfl) rfl
theorem w_1686 : (.code (⟨"SecretBuyersModel", "view", "(I)Z"⟩ : MethodName) prog_14_method_38_code 2 (Option.some Jvm.ClassFile.FieldType.boolean) : Cond) ∈ qw_tbl := qt_7 (List.mem_of_getElem? (i := 148) rfl) rfl
theorem w_1687 : (.methodLink "SecretBuyersLaw" 43 (⟨"SecretBuyersModel", "shop", "(IIIIIZ)I"⟩ : MethodName) : Cond) ∈ qw_tbl := qt_7 (List.mem_of_getElem? (i := 149) rfl) rfl
theorem w_1688 : (.instanceMethod (⟨"SecretBuyersModel", "shop", "(IIIIIZ)I"⟩ : MethodName) : Cond) ∈ qw_tbl := qt_7 (List.mem_of_getElem? (i := 150) rfl) rfl
theorem w_1689 : (.selects "SecretBuyersModel" (⟨"SecretBuyersModel", "shop", "(IIIIIZ)I"⟩ : MethodName) (⟨"SecretBuyersModel", "shop", "(IIIIIZ)I"⟩ : MethodName) : Cond) ∈ qw_tbl := qt_7 (List.mem_of_getElem? (i := 151) rfl) rfl
theorem w_1690 : (.code (⟨"SecretBuyersModel", "shop", "(IIIIIZ)I"⟩ : MethodName) prog_14_method_40_code 7 (Option.some Jvm.ClassFile.FieldType.int) : Cond) ∈ qw_tbl := qt_7 (List.mem_of_getElem? (i := 152) rfl) rfl
theorem w_1691 : (.methodLink "SecretBuyersModel" 362 (⟨"SecretBuyersModel", "isPlace", "(II)Z"⟩ : MethodName) : Cond) ∈ qw_tbl := qt_7 (List.mem_of_getElem? (i := 153) rfl) rfl
theorem w_1692 : (.static (⟨"SecretBuyersModel", "isPlace", "(II)Z"⟩ : MethodName) : Cond) ∈ qw_tbl := qt_7 (List.mem_of_getElem? (i := 154) rfl) rfl
theorem w_1693 : (.code (⟨"SecretBuyersModel", "isPlace", "(II)Z"⟩ : MethodName) prog_14_method_35_code 2 (Option.some Jvm.ClassFile.FieldType.boolean) : Cond) ∈ qw_tbl := qt_7 (List.mem_of_getElem? (i := 155) rfl) rfl
theorem w_1694 : (.methodLink "SecretBuyersLaw" 47 (⟨"SecretBuyersModel", "buyer", "(II)I"⟩ : MethodName) : Cond) ∈ qw_tbl := qt_7 (List.mem_of_getElem? (i := 156) rfl) rfl
theorem w_1695 : (.instanceMethod (⟨"SecretBuyersModel", "buyer", "(II)I"⟩ : MethodName) : Cond) ∈ qw_tbl := qt_7 (List.mem_of_getElem? (i := 157) rfl) rfl
theorem w_1696 : (.selects "SecretBuyersModel" (⟨"SecretBuyersModel", "buyer", "(II)I"⟩ : MethodName) (⟨"SecretBuyersModel", "buyer", "(II)I"⟩ : MethodName) : Cond) ∈ qw_tbl := qt_7 (List.mem_of_getElem? (i := 158) rfl) rfl
theorem w_1697 : (.code (⟨"SecretBuyersModel", "buyer", "(II)I"⟩ : MethodName) prog_14_method_41_code 3 (Option.some Jvm.ClassFile.FieldType.int) : Cond) ∈ qw_tbl := qt_7 (List.mem_of_getElem? (i := 159) rfl) rfl
theorem w_1698 : (.methodLink "SecretBuyersLaw" 52 (⟨"SecretBuyersModel", "terms", "(III)Z"⟩ : MethodName) : Cond) ∈ qw_tbl := qt_7 (List.mem_of_getElem? (i := 160) rfl) rfl
theorem w_1699 : (.instanceMethod (⟨"SecretBuyersModel", "terms", "(III)Z"⟩ : MethodName) : Cond) ∈ qw_tbl := qt_7 (List.mem_of_getElem? (i := 161) rfl) rfl
theorem w_1700 : (.selects "SecretBuyersModel" (⟨"SecretBuyersModel", "terms", "(III)Z"⟩ : MethodName) (⟨"SecretBuyersModel", "terms", "(III)Z"⟩ : MethodName) : Cond) ∈ qw_tbl := qt_7 (List.mem_of_getElem? (i := 162) rfl) rfl
theorem w_1701 : (.code (⟨"SecretBuyersModel", "terms", "(III)Z"⟩ : MethodName) prog_14_method_42_code 4 (Option.some Jvm.ClassFile.FieldType.boolean) : Cond) ∈ qw_tbl := qt_7 (List.mem_of_getElem? (i := 163) rfl) rfl
theorem w_1702 : (.methodLink "SecretBuyersLaw" 57 (⟨"SecretBuyersModel", "rest", "(II)Z"⟩ : MethodName) : Cond) ∈ qw_tbl := qt_7 (List.mem_of_getElem? (i := 164) rfl) rfl
theorem w_1703 : (.instanceMethod (⟨"SecretBuyersModel", "rest", "(II)Z"⟩ : MethodName) : Cond) ∈ qw_tbl := qt_7 (List.mem_of_getElem? (i := 165) rfl) rfl
theorem w_1704 : (.selects "SecretBuyersModel" (⟨"SecretBuyersModel", "rest", "(II)Z"⟩ : MethodName) (⟨"SecretBuyersModel", "rest", "(II)Z"⟩ : MethodName) : Cond) ∈ qw_tbl := qt_7 (List.mem_of_getElem? (i := 166) rfl) rfl
theorem w_1705 : (.code (⟨"SecretBuyersModel", "rest", "(II)Z"⟩ : MethodName) prog_14_method_43_code 3 (Option.some Jvm.ClassFile.FieldType.boolean) : Cond) ∈ qw_tbl := qt_7 (List.mem_of_getElem? (i := 167) rfl) rfl
theorem w_1706 : (.methodLink "SecretBuyersLaw" 62 (⟨"SecretBuyersModel", "visit", "(IIIIIII)I"⟩ : MethodName) : Cond) ∈ qw_tbl := qt_7 (List.mem_of_getElem? (i := 168) rfl) rfl
theorem w_1707 : (.instanceMethod (⟨"SecretBuyersModel", "visit", "(IIIIIII)I"⟩ : MethodName) : Cond) ∈ qw_tbl := qt_7 (List.mem_of_getElem? (i := 169) rfl) rfl
theorem w_1708 : (.selects "SecretBuyersModel" (⟨"SecretBuyersModel", "visit", "(IIIIIII)I"⟩ : MethodName) (⟨"SecretBuyersModel", "visit", "(IIIIIII)I"⟩ : MethodName) : Cond) ∈ qw_tbl := qt_7 (List.mem_of_getElem? (i := 170) rfl) rfl
theorem w_1709 : (.code (⟨"SecretBuyersModel", "visit", "(IIIIIII)I"⟩ : MethodName) prog_14_method_47_code 9 (Option.some Jvm.ClassFile.FieldType.int) : Cond) ∈ qw_tbl := qt_7 (List.mem_of_getElem? (i := 171) rfl) rfl
theorem w_1710 : (.methodLink "SecretBuyersModel" 375 (⟨"SecretBuyersModel", "isShop", "(I)Z"⟩ : MethodName) : Cond) ∈ qw_tbl := qt_7 (List.mem_of_getElem? (i := 172) rfl) rfl
theorem w_1712 : (.instanceMethod (⟨"SecretBuyersModel", "isShop", "(I)Z"⟩ : MethodName) : Cond) ∈ qw_tbl := qt_7 (List.mem_of_getElem? (i := 174) rfl) rfl
theorem w_1713 : (.code (⟨"SecretBuyersModel", "isShop", "(I)Z"⟩ : MethodName) prog_14_method_44_code 2 (Option.some Jvm.ClassFile.FieldType.boolean) : Cond) ∈ qw_tbl := qt_7 (List.mem_of_getElem? (i := 175) rfl) rfl
theorem w_1714 : (.methodLink "SecretBuyersModel" 378 (⟨"SecretBuyersModel", "isBuyer", "(I)Z"⟩ : MethodName) : Cond) ∈ qw_tbl := qt_7 (List.mem_of_getElem? (i := 176) rfl) rfl
theorem w_1716 : (.instanceMethod (⟨"SecretBuyersModel", "isBuyer", "(I)Z"⟩ : MethodName) : Cond) ∈ qw_tbl := qt_7 (List.mem_of_getElem? (i := 178) rfl) rfl
theorem w_1717 : (.code (⟨"SecretBuyersModel", "isBuyer", "(I)Z"⟩ : MethodName) prog_14_method_45_code 2 (Option.some Jvm.ClassFile.FieldType.boolean) : Cond) ∈ qw_tbl := qt_7 (List.mem_of_getElem? (i := 179) rfl) rfl
theorem w_1718 : (.methodLink "SecretBuyersModel" 381 (⟨"SecretBuyersModel", "visitsOf", "(II)I"⟩ : MethodName) : Cond) ∈ qw_tbl := qt_7 (List.mem_of_getElem? (i := 180) rfl) rfl
theorem w_1720 : (.instanceMethod (⟨"SecretBuyersModel", "visitsOf", "(II)I"⟩ : MethodName) : Cond) ∈ qw_tbl := qt_7 (List.mem_of_getElem? (i := 182) rfl) rfl
theorem w_1721 : (.code (⟨"SecretBuyersModel", "visitsOf", "(II)I"⟩ : MethodName) prog_14_method_46_code 5 (Option.some Jvm.ClassFile.FieldType.int) : Cond) ∈ qw_tbl := qt_7 (List.mem_of_getElem? (i := 183) rfl) rfl
theorem w_1722 : (.methodLink "SecretBuyersLaw" 66 (⟨"SecretBuyersModel", "appeal", "(II)Z"⟩ : MethodName) : Cond) ∈ qw_tbl := qt_7 (List.mem_of_getElem? (i := 184) rfl) rfl
theorem w_1723 : (.instanceMethod (⟨"SecretBuyersModel", "appeal", "(II)Z"⟩ : MethodName) : Cond) ∈ qw_tbl := qt_7 (List.mem_of_getElem? (i := 185) rfl) rfl
theorem w_1724 : (.selects "SecretBuyersModel" (⟨"SecretBuyersModel", "appeal", "(II)Z"⟩ : MethodName) (⟨"SecretBuyersModel", "appeal", "(II)Z"⟩ : MethodName) : Cond) ∈ qw_tbl := qt_7 (List.mem_of_getElem? (i := 186) rfl) rfl
theorem w_1725 : (.code (⟨"SecretBuyersModel", "appeal", "(II)Z"⟩ : MethodName) prog_14_method_48_code 3 (Option.some Jvm.ClassFile.FieldType.boolean) : Cond) ∈ qw_tbl := qt_7 (List.mem_of_getElem? (i := 187) rfl) rfl
theorem w_1726 : (.methodLink "SecretBuyersLaw" 83 (⟨"SecretBuyersModel", "look", "(II)I"⟩ : MethodName) : Cond) ∈ qw_tbl := qt_7 (List.mem_of_getElem? (i := 188) rfl) rfl
theorem w_1727 : (.instanceMethod (⟨"SecretBuyersModel", "look", "(II)I"⟩ : MethodName) : Cond) ∈ qw_tbl := qt_7 (List.mem_of_getElem? (i := 189) rfl) rfl
theorem w_1728 : (.selects "SecretBuyersModel" (⟨"SecretBuyersModel", "look", "(II)I"⟩ : MethodName) (⟨"SecretBuyersModel", "look", "(II)I"⟩ : MethodName) : Cond) ∈ qw_tbl := qt_7 (List.mem_of_getElem? (i := 190) rfl) rfl
theorem w_1729 : (.code (⟨"SecretBuyersModel", "look", "(II)I"⟩ : MethodName) prog_14_method_64_code 3 (Option.some Jvm.ClassFile.FieldType.int) : Cond) ∈ qw_tbl := qt_7 (List.mem_of_getElem? (i := 191) rfl) rfl
theorem w_1730 : (.methodLink "SecretBuyersModel" 394 (⟨"SecretBuyersModel", "isSeen", "(I)Z"⟩ : MethodName) : Cond) ∈ qw_tbl := qt_7 (List.mem_of_getElem? (i := 192) rfl) rfl
theorem w_1732 : (.instanceMethod (⟨"SecretBuyersModel", "isSeen", "(I)Z"⟩ : MethodName) : Cond) ∈ qw_tbl := qt_7 (List.mem_of_getElem? (i := 194) rfl) rfl
theorem w_1733 : (.code (⟨"SecretBuyersModel", "isSeen", "(I)Z"⟩ : MethodName) prog_14_method_49_code 2 (Option.some Jvm.ClassFile.FieldType.boolean) : Cond) ∈ qw_tbl := qt_7 (List.mem_of_getElem? (i := 195) rfl) rfl
theorem w_1734 : (.methodLink "SecretBuyersModel" 388 (⟨"SecretBuyersModel", "viewDay", "()I"⟩ : MethodName) : Cond) ∈ qw_tbl := qt_7 (List.mem_of_getElem? (i := 196) rfl) rfl
theorem w_1736 : (.instanceMethod (⟨"SecretBuyersModel", "viewDay", "()I"⟩ : MethodName) : Cond) ∈ qw_tbl := qt_7 (List.mem_of_getElem? (i := 198) rfl) rfl
theorem w_1737 : (.code (⟨"SecretBuyersModel", "viewDay", "()I"⟩ : MethodName) prog_14_method_39_code 1 (Option.some Jvm.ClassFile.FieldType.int) : Cond) ∈ qw_tbl := qt_7 (List.mem_of_getElem? (i := 199) rfl) rfl
theorem w_1738 : (.methodLink "SecretBuyersModel" 450 (⟨"SecretBuyersModel", "findAll", "()V"⟩ : MethodName) : Cond) ∈ qw_tbl := qt_7 (List.mem_of_getElem? (i := 200) rfl) rfl
theorem w_1740 : (.instanceMethod (⟨"SecretBuyersModel", "findAll", "()V"⟩ : MethodName) : Cond) ∈ qw_tbl := qt_7 (List.mem_of_getElem? (i := 202) rfl) rfl
theorem w_1741 : (.code (⟨"SecretBuyersModel", "findAll", "()V"⟩ : MethodName) prog_14_method_56_code 4 (Option.none : Option Jvm.ClassFile.FieldType) : Cond) ∈ qw_tbl := qt_7 (List.mem_of_getElem? (i := 203) rfl) rfl
theorem w_1742 : (.methodLink "SecretBuyersModel" 397 (⟨"SecretBuyersModel", "isAhead", "(II)Z"⟩ : MethodName) : Cond) ∈ qw_tbl := qt_7 (List.mem_of_getElem? (i := 204) rfl) rfl
theorem w_1744 : (.instanceMethod (⟨"SecretBuyersModel", "isAhead", "(II)Z"⟩ : MethodName) : Cond) ∈ qw_tbl := qt_7 (List.mem_of_getElem? (i := 206) rfl) rfl
theorem w_1745 : (.code (⟨"SecretBuyersModel", "isAhead", "(II)Z"⟩ : MethodName) prog_14_method_53_code 5 (Option.some Jvm.ClassFile.FieldType.boolean) : Cond) ∈ qw_tbl := qt_7 (List.mem_of_getElem? (i := 207) rfl) rfl
theorem w_1746 : (.methodLink "SecretBuyersModel" 403 (⟨"SecretBuyersModel", "latest", "(II)I"⟩ : MethodName) : Cond) ∈ qw_tbl := qt_7 (List.mem_of_getElem? (i := 208) rfl) rfl
theorem w_1748 : (.instanceMethod (⟨"SecretBuyersModel", "latest", "(II)I"⟩ : MethodName) : Cond) ∈ qw_tbl := qt_7 (List.mem_of_getElem? (i := 210) rfl) rfl
theorem w_1749 : (.code (⟨"SecretBuyersModel", "latest", "(II)I"⟩ : MethodName) prog_14_method_55_code 6 (Option.some Jvm.ClassFile.FieldType.int) : Cond) ∈ qw_tbl := qt_7 (List.mem_of_getElem? (i := 211) rfl) rfl
theorem w_1750 : (.methodLink "SecretBuyersModel" 406 (⟨"SecretBuyersModel", "formNow", "(I)I"⟩ : MethodName) : Cond) ∈ qw_tbl := qt_7 (List.mem_of_getElem? (i := 212) rfl) rfl
theorem w_1752 : (.instanceMethod (⟨"SecretBuyersModel", "formNow", "(I)I"⟩ : MethodName) : Cond) ∈ qw_tbl := qt_7 (List.mem_of_getElem? (i := 214) rfl) rfl
theorem w_1753 : (.code (⟨"SecretBuyersModel", "formNow", "(I)I"⟩ : MethodName) prog_14_method_50_code 4 (Option.some Jvm.ClassFile.FieldType.int) : Cond) ∈ qw_tbl := qt_7 (List.mem_of_getElem? (i := 215) rfl) rfl
theorem w_1754 : (.methodLink "SecretBuyersModel" 409 (⟨"SecretBuyersModel", "tells", "(III)V"⟩ : MethodName) : Cond) ∈ qw_tbl := qt_7 (List.mem_of_getElem? (i := 216) rfl) rfl
theorem w_1756 : (.instanceMethod (⟨"SecretBuyersModel", "tells", "(III)V"⟩ : MethodName) : Cond) ∈ qw_tbl := qt_7 (List.mem_of_getElem? (i := 218) rfl) rfl
theorem w_1757 : (.code (⟨"SecretBuyersModel", "tells", "(III)V"⟩ : MethodName) prog_14_method_54_code 4 (Option.none : Option Jvm.ClassFile.FieldType) : Cond) ∈ qw_tbl := qt_7 (List.mem_of_getElem? (i := 219) rfl) rfl
theorem w_1758 : (.methodLink "SecretBuyersModel" 391 (⟨"SecretBuyersModel", "bits", "(I)I"⟩ : MethodName) : Cond) ∈ qw_tbl := qt_7 (List.mem_of_getElem? (i := 220) rfl) rfl
theorem w_1759 : (.static (⟨"SecretBuyersModel", "bits", "(I)I"⟩ : MethodName) : Cond) ∈ qw_tbl := qt_7 (List.mem_of_getElem? (i := 221) rfl) rfl
theorem w_1760 : (.code (⟨"SecretBuyersModel", "bits", "(I)I"⟩ : MethodName) prog_14_method_51_code 3 (Option.some Jvm.ClassFile.FieldType.int) : Cond) ∈ qw_tbl := qt_7 (List.mem_of_getElem? (i := 222) rfl) rfl
theorem w_1761 : (.methodLink "SecretBuyersModel" 413 (⟨"SecretBuyersModel", "briefOf", "(I)I"⟩ : MethodName) : Cond) ∈ qw_tbl := qt_7 (List.mem_of_getElem? (i := 223) rfl) rfl
theorem w_1763 : (.instanceMethod (⟨"SecretBuyersModel", "briefOf", "(I)I"⟩ : MethodName) : Cond) ∈ qw_tbl := qt_7 (List.mem_of_getElem? (i := 225) rfl) rfl
theorem w_1764 : (.code (⟨"SecretBuyersModel", "briefOf", "(I)I"⟩ : MethodName) prog_14_method_52_code 5 (Option.some Jvm.ClassFile.FieldType.int) : Cond) ∈ qw_tbl := qt_7 (List.mem_of_getElem? (i := 226) rfl) rfl
theorem w_1765 : (.methodLink "SecretBuyersModel" 416 (⟨"SecretBuyersModel", "judges", "(I)V"⟩ : MethodName) : Cond) ∈ qw_tbl := qt_7 (List.mem_of_getElem? (i := 227) rfl) rfl
theorem w_1767 : (.instanceMethod (⟨"SecretBuyersModel", "judges", "(I)V"⟩ : MethodName) : Cond) ∈ qw_tbl := qt_7 (List.mem_of_getElem? (i := 229) rfl) rfl
theorem w_1768 : (.code (⟨"SecretBuyersModel", "judges", "(I)V"⟩ : MethodName) prog_14_method_33_code 7 (Option.none : Option Jvm.ClassFile.FieldType) : Cond) ∈ qw_tbl := qt_7 (List.mem_of_getElem? (i := 230) rfl) rfl
theorem w_1769 : (.methodLink "SecretBuyersModel" 355 (⟨"SecretBuyersModel", "worth", "(I)I"⟩ : MethodName) : Cond) ∈ qw_tbl := qt_7 (List.mem_of_getElem? (i := 231) rfl) rfl
theorem w_1771 : (.instanceMethod (⟨"SecretBuyersModel", "worth", "(I)I"⟩ : MethodName) : Cond) ∈ qw_tbl := qt_7 (List.mem_of_getElem? (i := 233) rfl) rfl
theorem w_1772 : (.code (⟨"SecretBuyersModel", "worth", "(I)I"⟩ : MethodName) prog_14_method_31_code 5 (Option.some Jvm.ClassFile.FieldType.int) : Cond) ∈ qw_tbl := qt_7 (List.mem_of_getElem? (i := 234) rfl) rfl
theorem w_1773 : (.methodLink "SecretBuyersModel" 345 (⟨"SecretBuyersModel", "both", "(III)I"⟩ : MethodName) : Cond) ∈ qw_tbl := qt_7 (List.mem_of_getElem? (i := 235) rfl) rfl
theorem w_1774 : (.static (⟨"SecretBuyersModel", "both", "(III)I"⟩ : MethodName) : Cond) ∈ qw_tbl := qt_7 (List.mem_of_getElem? (i := 236) rfl) rfl
theorem w_1775 : (.code (⟨"SecretBuyersModel", "both", "(III)I"⟩ : MethodName) prog_14_method_32_code 3 (Option.some Jvm.ClassFile.FieldType.int) : Cond) ∈ qw_tbl := qt_7 (List.mem_of_getElem? (i := 237) rfl) rfl
theorem w_1776 : (.methodLink "SecretBuyersModel" 419 (⟨"SecretBuyersModel", "isAlone", "(I)Z"⟩ : MethodName) : Cond) ∈ qw_tbl := qt_7 (List.mem_of_getElem? (i := 238) rfl) rfl
theorem w_1778 : (.instanceMethod (⟨"SecretBuyersModel", "isAlone", "(I)Z"⟩ : MethodName) : Cond) ∈ qw_tbl := qt_8 (List.mem_of_getElem? (i := 0) rfl) rfl
theorem w_1779 : (.code (⟨"SecretBuyersModel", "isAlone", "(I)Z"⟩ : MethodName) prog_14_method_57_code 6 (Option.some Jvm.ClassFile.FieldType.boolean) : Cond) ∈ qw_tbl := qt_8 (List.mem_of_getElem? (i := 1) rfl) rfl
theorem w_1780 : (.methodLink "SecretBuyersModel" 425 (⟨"SecretBuyersModel", "findFewest", "(II)V"⟩ : MethodName) : Cond) ∈ qw_tbl := qt_8 (List.mem_of_getElem? (i := 2) rfl) rfl
theorem w_1782 : (.instanceMethod (⟨"SecretBuyersModel", "findFewest", "(II)V"⟩ : MethodName) : Cond) ∈ qw_tbl := qt_8 (List.mem_of_getElem? (i := 4) rfl) rfl
theorem w_1783 : (.code (⟨"SecretBuyersModel", "findFewest", "(II)V"⟩ : MethodName) prog_14_method_60_code 7 (Option.none : Option Jvm.ClassFile.FieldType) : Cond) ∈ qw_tbl := qt_8 (List.mem_of_getElem? (i := 5) rfl) rfl
theorem w_1784 : (.methodLink "SecretBuyersModel" 438 (⟨"SecretBuyersModel", "areBoth", "(II)Z"⟩ : MethodName) : Cond) ∈ qw_tbl := qt_8 (List.mem_of_getElem? (i := 6) rfl) rfl
theorem w_1786 : (.instanceMethod (⟨"SecretBuyersModel", "areBoth", "(II)Z"⟩ : MethodName) : Cond) ∈ qw_tbl := qt_8 (List.mem_of_getElem? (i := 8) rfl) rfl
theorem w_1787 : (.code (⟨"SecretBuyersModel", "areBoth", "(II)Z"⟩ : MethodName) prog_14_method_59_code 6 (Option.some Jvm.ClassFile.FieldType.boolean) : Cond) ∈ qw_tbl := qt_8 (List.mem_of_getElem? (i := 9) rfl) rfl
theorem w_1788 : (.methodLink "SecretBuyersModel" 431 (⟨"SecretBuyersModel", "wayBetween", "(IIII)I"⟩ : MethodName) : Cond) ∈ qw_tbl := qt_8 (List.mem_of_getElem? (i := 10) rfl) rfl
theorem w_1789 : (.static (⟨"SecretBuyersModel", "wayBetween", "(IIII)I"⟩ : MethodName) : Cond) ∈ qw_tbl := qt_8 (List.mem_of_getElem? (i := 11) rfl) rfl
theorem w_1790 : (.code (⟨"SecretBuyersModel", "wayBetween", "(IIII)I"⟩ : MethodName) prog_14_method_58_code 4 (Option.some Jvm.ClassFile.FieldType.int) : Cond) ∈ qw_tbl := qt_8 (List.mem_of_getElem? (i := 12) rfl) rfl
theorem w_1791 : (.methodLink "SecretBuyersModel" 444 (⟨"SecretBuyersModel", "doesDo", "(I)Z"⟩ : MethodName) : Cond) ∈ qw_tbl := qt_8 (List.mem_of_getElem? (i := 13) rfl) rfl
theorem w_1793 : (.instanceMethod (⟨"SecretBuyersModel", "doesDo", "(I)Z"⟩ : MethodName) : Cond) ∈ qw_tbl := qt_8 (List.mem_of_getElem? (i := 15) rfl) rfl
theorem w_1794 : (.code (⟨"SecretBuyersModel", "doesDo", "(I)Z"⟩ : MethodName) prog_14_method_62_code 4 (Option.some Jvm.ClassFile.FieldType.boolean) : Cond) ∈ qw_tbl := qt_8 (List.mem_of_getElem? (i := 16) rfl) rfl
theorem w_1795 : (.methodLink "SecretBuyersModel" 447 (⟨"SecretBuyersModel", "isFirst", "(II)Z"⟩ : MethodName) : Cond) ∈ qw_tbl := qt_8 (List.mem_of_getElem? (i := 17) rfl) rfl
theorem w_1796 : (.static (⟨"SecretBuyersModel", "isFirst", "(II)Z"⟩ : MethodName) : Cond) ∈ qw_tbl := qt_8 (List.mem_of_getElem? (i := 18) rfl) rfl
theorem w_1797 : (.code (⟨"SecretBuyersModel", "isFirst", "(II)Z"⟩ : MethodName) prog_14_method_61_code 3 (Option.some Jvm.ClassFile.FieldType.boolean) : Cond) ∈ qw_tbl := qt_8 (List.mem_of_getElem? (i := 19) rfl) rfl
theorem w_1798 : (.methodLink "SecretBuyersModel" 453 (⟨"SecretBuyersModel", "counts", "(I)Z"⟩ : MethodName) : Cond) ∈ qw_tbl := qt_8 (List.mem_of_getElem? (i := 20) rfl) rfl
theorem w_1800 : (.instanceMethod (⟨"SecretBuyersModel", "counts", "(I)Z"⟩ : MethodName) : Cond) ∈ qw_tbl := qt_8 (List.mem_of_getElem? (i := 22) rfl) rfl
theorem w_1801 : (.code (⟨"SecretBuyersModel", "counts", "(I)Z"⟩ : MethodName) prog_14_method_63_code 2 (Option.some Jvm.ClassFile.FieldType.boolean) : Cond) ∈ qw_tbl := qt_8 (List.mem_of_getElem? (i := 23) rfl) rfl
theorem w_1802 : (.methodLink "SecretBuyersLaw" 91 (⟨"SecretBuyersModel", "fewest", "(II)I"⟩ : MethodName) : Cond) ∈ qw_tbl := qt_8 (List.mem_of_getElem? (i := 24) rfl) rfl
theorem w_1803 : (.instanceMethod (⟨"SecretBuyersModel", "fewest", "(II)I"⟩ : MethodName) : Cond) ∈ qw_tbl := qt_8 (List.mem_of_getElem? (i := 25) rfl) rfl
theorem w_1804 : (.selects "SecretBuyersModel" (⟨"SecretBuyersModel", "fewest", "(II)I"⟩ : MethodName) (⟨"SecretBuyersModel", "fewest", "(II)I"⟩ : MethodName) : Cond) ∈ qw_tbl := qt_8 (List.mem_of_getElem? (i := 26) rfl) rfl
theorem w_1805 : (.code (⟨"SecretBuyersModel", "fewest", "(II)I"⟩ : MethodName) prog_14_method_65_code 3 (Option.some Jvm.ClassFile.FieldType.int) : Cond) ∈ qw_tbl := qt_8 (List.mem_of_getElem? (i := 27) rfl) rfl
theorem w_1806 : (.methodLink "SecretBuyersModel" 456 (⟨"SecretBuyersModel", "isDay", "(I)Z"⟩ : MethodName) : Cond) ∈ qw_tbl := qt_8 (List.mem_of_getElem? (i := 28) rfl) rfl
theorem w_1807 : (.static (⟨"SecretBuyersModel", "isDay", "(I)Z"⟩ : MethodName) : Cond) ∈ qw_tbl := qt_8 (List.mem_of_getElem? (i := 29) rfl) rfl
theorem w_1808 : (.code (⟨"SecretBuyersModel", "isDay", "(I)Z"⟩ : MethodName) prog_14_method_36_code 1 (Option.some Jvm.ClassFile.FieldType.boolean) : Cond) ∈ qw_tbl := qt_8 (List.mem_of_getElem? (i := 30) rfl) rfl
theorem w_1809 : (.methodLink "SecretBuyersLaw" 95 (⟨"SecretBuyersModel", "set", "(III)I"⟩ : MethodName) : Cond) ∈ qw_tbl := qt_8 (List.mem_of_getElem? (i := 31) rfl) rfl
theorem w_1810 : (.instanceMethod (⟨"SecretBuyersModel", "set", "(III)I"⟩ : MethodName) : Cond) ∈ qw_tbl := qt_8 (List.mem_of_getElem? (i := 32) rfl) rfl
theorem w_1811 : (.selects "SecretBuyersModel" (⟨"SecretBuyersModel", "set", "(III)I"⟩ : MethodName) (⟨"SecretBuyersModel", "set", "(III)I"⟩ : MethodName) : Cond) ∈ qw_tbl := qt_8 (List.mem_of_getElem? (i := 33) rfl) rfl
theorem w_1812 : (.code (⟨"SecretBuyersModel", "set", "(III)I"⟩ : MethodName) prog_14_method_66_code 6 (Option.some Jvm.ClassFile.FieldType.int) : Cond) ∈ qw_tbl := qt_8 (List.mem_of_getElem? (i := 34) rfl) rfl
theorem w_1813 : (.methodLink "SecretBuyersLaw" 87 (⟨"SecretBuyersModel", "fair", "(I)I"⟩ : MethodName) : Cond) ∈ qw_tbl := qt_8 (List.mem_of_getElem? (i := 35) rfl) rfl
theorem w_1814 : (.instanceMethod (⟨"SecretBuyersModel", "fair", "(I)I"⟩ : MethodName) : Cond) ∈ qw_tbl := qt_8 (List.mem_of_getElem? (i := 36) rfl) rfl
theorem w_1815 : (.selects "SecretBuyersModel" (⟨"SecretBuyersModel", "fair", "(I)I"⟩ : MethodName) (⟨"SecretBuyersModel", "fair", "(I)I"⟩ : MethodName) : Cond) ∈ qw_tbl := qt_8 (List.mem_of_getElem? (i := 37) rfl) rfl
theorem w_1816 : (.code (⟨"SecretBuyersModel", "fair", "(I)I"⟩ : MethodName) prog_14_method_70_code 2 (Option.some Jvm.ClassFile.FieldType.int) : Cond) ∈ qw_tbl := qt_8 (List.mem_of_getElem? (i := 38) rfl) rfl
theorem w_1817 : (.methodLink "SecretBuyersModel" 462 (⟨"SecretBuyersModel", "findLeans", "()V"⟩ : MethodName) : Cond) ∈ qw_tbl := qt_8 (List.mem_of_getElem? (i := 39) rfl) rfl
theorem w_1819 : (.instanceMethod (⟨"SecretBuyersModel", "findLeans", "()V"⟩ : MethodName) : Cond) ∈ qw_tbl := qt_8 (List.mem_of_getElem? (i := 41) rfl) rfl
theorem w_1820 : (.code (⟨"SecretBuyersModel", "findLeans", "()V"⟩ : MethodName) prog_14_method_68_code 5 (Option.none : Option Jvm.ClassFile.FieldType) : Cond) ∈ qw_tbl := qt_8 (List.mem_of_getElem? (i := 42) rfl) rfl
theorem w_1821 : (.methodLink "SecretBuyersModel" 459 (⟨"SecretBuyersModel", "isMeeting", "(II)Z"⟩ : MethodName) : Cond) ∈ qw_tbl := qt_8 (List.mem_of_getElem? (i := 43) rfl) rfl
theorem w_1823 : (.instanceMethod (⟨"SecretBuyersModel", "isMeeting", "(II)Z"⟩ : MethodName) : Cond) ∈ qw_tbl := qt_8 (List.mem_of_getElem? (i := 45) rfl) rfl
theorem w_1824 : (.code (⟨"SecretBuyersModel", "isMeeting", "(II)Z"⟩ : MethodName) prog_14_method_67_code 3 (Option.some Jvm.ClassFile.FieldType.boolean) : Cond) ∈ qw_tbl := qt_8 (List.mem_of_getElem? (i := 46) rfl) rfl
theorem w_1825 : (.methodLink "SecretBuyersModel" 465 (⟨"SecretBuyersModel", "fairOf", "(I)I"⟩ : MethodName) : Cond) ∈ qw_tbl := qt_8 (List.mem_of_getElem? (i := 47) rfl) rfl
theorem w_1827 : (.instanceMethod (⟨"SecretBuyersModel", "fairOf", "(I)I"⟩ : MethodName) : Cond) ∈ qw_tbl := qt_8 (List.mem_of_getElem? (i := 49) rfl) rfl
theorem w_1828 : (.code (⟨"SecretBuyersModel", "fairOf", "(I)I"⟩ : MethodName) prog_14_method_69_code 2 (Option.some Jvm.ClassFile.FieldType.int) : Cond) ∈ qw_tbl := qt_8 (List.mem_of_getElem? (i := 50) rfl) rfl
theorem w_1829 : (.methodLink "SecretBuyersLaw" 98 (⟨"SecretBuyersModel", "lean", "(I)I"⟩ : MethodName) : Cond) ∈ qw_tbl := qt_8 (List.mem_of_getElem? (i := 51) rfl) rfl
theorem w_1830 : (.instanceMethod (⟨"SecretBuyersModel", "lean", "(I)I"⟩ : MethodName) : Cond) ∈ qw_tbl := qt_8 (List.mem_of_getElem? (i := 52) rfl) rfl
theorem w_1831 : (.selects "SecretBuyersModel" (⟨"SecretBuyersModel", "lean", "(I)I"⟩ : MethodName) (⟨"SecretBuyersModel", "lean", "(I)I"⟩ : MethodName) : Cond) ∈ qw_tbl := qt_8 (List.mem_of_getElem? (i := 53) rfl) rfl
theorem w_1832 : (.code (⟨"SecretBuyersModel", "lean", "(I)I"⟩ : MethodName) prog_14_method_71_code 2 (Option.some Jvm.ClassFile.FieldType.int) : Cond) ∈ qw_tbl := qt_8 (List.mem_of_getElem? (i := 54) rfl) rfl
theorem w_1833 : (.methodLink "SecretBuyersLaw" 102 (⟨"SecretBuyersModel", "meetings", "(II)I"⟩ : MethodName) : Cond) ∈ qw_tbl := qt_8 (List.mem_of_getElem? (i := 55) rfl) rfl
theorem w_1834 : (.instanceMethod (⟨"SecretBuyersModel", "meetings", "(II)I"⟩ : MethodName) : Cond) ∈ qw_tbl := qt_8 (List.mem_of_getElem? (i := 56) rfl) rfl
theorem w_1835 : (.selects "SecretBuyersModel" (⟨"SecretBuyersModel", "meetings", "(II)I"⟩ : MethodName) (⟨"SecretBuyersModel", "meetings", "(II)I"⟩ : MethodName) : Cond) ∈ qw_tbl := qt_8 (List.mem_of_getElem? (i := 57) rfl) rfl
theorem w_1836 : (.code (⟨"SecretBuyersModel", "meetings", "(II)I"⟩ : MethodName) prog_14_method_72_code 6 (Option.some Jvm.ClassFile.FieldType.int) : Cond) ∈ qw_tbl := qt_8 (List.mem_of_getElem? (i := 58) rfl) rfl
theorem w_1837 : (.methodLink "SecretBuyersLaw" 106 (⟨"SecretBuyersModel", "mean", "(III)I"⟩ : MethodName) : Cond) ∈ qw_tbl := qt_8 (List.mem_of_getElem? (i := 59) rfl) rfl
theorem w_1838 : (.instanceMethod (⟨"SecretBuyersModel", "mean", "(III)I"⟩ : MethodName) : Cond) ∈ qw_tbl := qt_8 (List.mem_of_getElem? (i := 60) rfl) rfl
theorem w_1839 : (.selects "SecretBuyersModel" (⟨"SecretBuyersModel", "mean", "(III)I"⟩ : MethodName) (⟨"SecretBuyersModel", "mean", "(III)I"⟩ : MethodName) : Cond) ∈ qw_tbl := qt_8 (List.mem_of_getElem? (i := 61) rfl) rfl
theorem w_1840 : (.code (⟨"SecretBuyersModel", "mean", "(III)I"⟩ : MethodName) prog_14_method_76_code 4 (Option.some Jvm.ClassFile.FieldType.int) : Cond) ∈ qw_tbl := qt_8 (List.mem_of_getElem? (i := 62) rfl) rfl
theorem w_1841 : (.methodLink "SecretBuyersModel" 474 (⟨"SecretBuyersModel", "hasMean", "(III)Z"⟩ : MethodName) : Cond) ∈ qw_tbl := qt_8 (List.mem_of_getElem? (i := 63) rfl) rfl
theorem w_1843 : (.instanceMethod (⟨"SecretBuyersModel", "hasMean", "(III)Z"⟩ : MethodName) : Cond) ∈ qw_tbl := qt_8 (List.mem_of_getElem? (i := 65) rfl) rfl
theorem w_1844 : (.code (⟨"SecretBuyersModel", "hasMean", "(III)Z"⟩ : MethodName) prog_14_method_75_code 4 (Option.some Jvm.ClassFile.FieldType.boolean) : Cond) ∈ qw_tbl := qt_8 (List.mem_of_getElem? (i := 66) rfl) rfl
theorem w_1845 : (.methodLink "SecretBuyersModel" 468 (⟨"SecretBuyersModel", "areDays", "(II)Z"⟩ : MethodName) : Cond) ∈ qw_tbl := qt_8 (List.mem_of_getElem? (i := 67) rfl) rfl
theorem w_1846 : (.static (⟨"SecretBuyersModel", "areDays", "(II)Z"⟩ : MethodName) : Cond) ∈ qw_tbl := qt_8 (List.mem_of_getElem? (i := 68) rfl) rfl
theorem w_1847 : (.code (⟨"SecretBuyersModel", "areDays", "(II)Z"⟩ : MethodName) prog_14_method_73_code 2 (Option.some Jvm.ClassFile.FieldType.boolean) : Cond) ∈ qw_tbl := qt_8 (List.mem_of_getElem? (i := 69) rfl) rfl
theorem w_1848 : (.methodLink "SecretBuyersModel" 471 (⟨"SecretBuyersModel", "findMeans", "(II)V"⟩ : MethodName) : Cond) ∈ qw_tbl := qt_8 (List.mem_of_getElem? (i := 70) rfl) rfl
theorem w_1850 : (.instanceMethod (⟨"SecretBuyersModel", "findMeans", "(II)V"⟩ : MethodName) : Cond) ∈ qw_tbl := qt_8 (List.mem_of_getElem? (i := 72) rfl) rfl
theorem w_1851 : (.code (⟨"SecretBuyersModel", "findMeans", "(II)V"⟩ : MethodName) prog_14_method_74_code 6 (Option.none : Option Jvm.ClassFile.FieldType) : Cond) ∈ qw_tbl := qt_8 (List.mem_of_getElem? (i := 73) rfl) rfl
theorem w_1852 : (.methodLink "SecretBuyersLaw" 110 (⟨"SecretBuyersModel", "doubt", "(III)I"⟩ : MethodName) : Cond) ∈ qw_tbl := qt_8 (List.mem_of_getElem? (i := 74) rfl) rfl
theorem w_1853 : (.instanceMethod (⟨"SecretBuyersModel", "doubt", "(III)I"⟩ : MethodName) : Cond) ∈ qw_tbl := qt_8 (List.mem_of_getElem? (i := 75) rfl) rfl
theorem w_1854 : (.selects "SecretBuyersModel" (⟨"SecretBuyersModel", "doubt", "(III)I"⟩ : MethodName) (⟨"SecretBuyersModel", "doubt", "(III)I"⟩ : MethodName) : Cond) ∈ qw_tbl := qt_8 (List.mem_of_getElem? (i := 76) rfl) rfl
theorem w_1855 : (.code (⟨"SecretBuyersModel", "doubt", "(III)I"⟩ : MethodName) prog_14_method_78_code 4 (Option.some Jvm.ClassFile.FieldType.int) : Cond) ∈ qw_tbl := qt_8 (List.mem_of_getElem? (i := 77) rfl) rfl
theorem w_1856 : (.methodLink "SecretBuyersModel" 477 (⟨"SecretBuyersModel", "doubtOf", "(I)I"⟩ : MethodName) : Cond) ∈ qw_tbl := qt_8 (List.mem_of_getElem? (i := 78) rfl) rfl
theorem w_1858 : (.instanceMethod (⟨"SecretBuyersModel", "doubtOf", "(I)I"⟩ : MethodName) : Cond) ∈ qw_tbl := qt_8 (List.mem_of_getElem? (i := 80) rfl) rfl
theorem w_1859 : (.code (⟨"SecretBuyersModel", "doubtOf", "(I)I"⟩ : MethodName) prog_14_method_77_code 2 (Option.some Jvm.ClassFile.FieldType.int) : Cond) ∈ qw_tbl := qt_8 (List.mem_of_getElem? (i := 81) rfl) rfl
theorem w_1860 : (.methodLink "SecretBuyersLaw" 115 (⟨"SecretBuyersModel", "apart", "(IIII)I"⟩ : MethodName) : Cond) ∈ qw_tbl := qt_8 (List.mem_of_getElem? (i := 82) rfl) rfl
theorem w_1861 : (.instanceMethod (⟨"SecretBuyersModel", "apart", "(IIII)I"⟩ : MethodName) : Cond) ∈ qw_tbl := qt_8 (List.mem_of_getElem? (i := 83) rfl) rfl
theorem w_1862 : (.selects "SecretBuyersModel" (⟨"SecretBuyersModel", "apart", "(IIII)I"⟩ : MethodName) (⟨"SecretBuyersModel", "apart", "(IIII)I"⟩ : MethodName) : Cond) ∈ qw_tbl := qt_8 (List.mem_of_getElem? (i := 84) rfl) rfl
theorem w_1863 : (.code (⟨"SecretBuyersModel", "apart", "(IIII)I"⟩ : MethodName) prog_14_method_81_code 5 (Option.some Jvm.ClassFile.FieldType.int) : Cond) ∈ qw_tbl := qt_8 (List.mem_of_getElem? (i := 85) rfl) rfl
theorem w_1864 : (.methodLink "SecretBuyersModel" 480 (⟨"SecretBuyersModel", "areTwo", "(IIII)Z"⟩ : MethodName) : Cond) ∈ qw_tbl := qt_8 (List.mem_of_getElem? (i := 86) rfl) rfl
theorem w_1866 : (.instanceMethod (⟨"SecretBuyersModel", "areTwo", "(IIII)Z"⟩ : MethodName) : Cond) ∈ qw_tbl := qt_8 (List.mem_of_getElem? (i := 88) rfl) rfl
theorem w_1867 : (.code (⟨"SecretBuyersModel", "areTwo", "(IIII)Z"⟩ : MethodName) prog_14_method_80_code 5 (Option.some Jvm.ClassFile.FieldType.boolean) : Cond) ∈ qw_tbl := qt_8 (List.mem_of_getElem? (i := 89) rfl) rfl
theorem w_1868 : (.methodLink "SecretBuyersModel" 484 (⟨"SecretBuyersModel", "isLess", "(II)Z"⟩ : MethodName) : Cond) ∈ qw_tbl := qt_8 (List.mem_of_getElem? (i := 90) rfl) rfl
theorem w_1870 : (.instanceMethod (⟨"SecretBuyersModel", "isLess", "(II)Z"⟩ : MethodName) : Cond) ∈ qw_tbl := qt_8 (List.mem_of_getElem? (i := 92) rfl) rfl
theorem w_1871 : (.code (⟨"SecretBuyersModel", "isLess", "(II)Z"⟩ : MethodName) prog_14_method_79_code 3 (Option.some Jvm.ClassFile.FieldType.boolean) : Cond) ∈ qw_tbl := qt_8 (List.mem_of_getElem? (i := 93) rfl) rfl
theorem w_1872 : (.methodLink "SecretBuyersLaw" 119 (⟨"SecretBuyersModel", "order", "(IIII)I"⟩ : MethodName) : Cond) ∈ qw_tbl := qt_8 (List.mem_of_getElem? (i := 94) rfl) rfl
theorem w_1873 : (.instanceMethod (⟨"SecretBuyersModel", "order", "(IIII)I"⟩ : MethodName) : Cond) ∈ qw_tbl := qt_8 (List.mem_of_getElem? (i := 95) rfl) rfl
theorem w_1874 : (.selects "SecretBuyersModel" (⟨"SecretBuyersModel", "order", "(IIII)I"⟩ : MethodName) (⟨"SecretBuyersModel", "order", "(IIII)I"⟩ : MethodName) : Cond) ∈ qw_tbl := qt_8 (List.mem_of_getElem? (i := 96) rfl) rfl
theorem w_1875 : (.code (⟨"SecretBuyersModel", "order", "(IIII)I"⟩ : MethodName) prog_14_method_82_code 11 (Option.some Jvm.ClassFile.FieldType.int) : Cond) ∈ qw_tbl := qt_8 (List.mem_of_getElem? (i := 97) rfl) rfl
theorem w_1876 : (.methodLink "SecretBuyersLaw" 123 (⟨"SecretBuyersModel", "enough", "(IIII)I"⟩ : MethodName) : Cond) ∈ qw_tbl := qt_8 (List.mem_of_getElem? (i := 98) rfl) rfl
theorem w_1877 : (.instanceMethod (⟨"SecretBuyersModel", "enough", "(IIII)I"⟩ : MethodName) : Cond) ∈ qw_tbl := qt_8 (List.mem_of_getElem? (i := 99) rfl) rfl
theorem w_1878 : (.selects "SecretBuyersModel" (⟨"SecretBuyersModel", "enough", "(IIII)I"⟩ : MethodName) (⟨"SecretBuyersModel", "enough", "(IIII)I"⟩ : MethodName) : Cond) ∈ qw_tbl := qt_8 (List.mem_of_getElem? (i := 100) rfl) rfl
theorem w_1879 : (.code (⟨"SecretBuyersModel", "enough", "(IIII)I"⟩ : MethodName) prog_14_method_83_code 7 (Option.some Jvm.ClassFile.FieldType.int) : Cond) ∈ qw_tbl := qt_8 (List.mem_of_getElem? (i := 101) rfl) rfl
theorem w_1880 : (.methodLink "SecretBuyersLaw" 127 (⟨"SecretBuyersModel", "may", "(III)I"⟩ : MethodName) : Cond) ∈ qw_tbl := qt_8 (List.mem_of_getElem? (i := 102) rfl) rfl
theorem w_1881 : (.instanceMethod (⟨"SecretBuyersModel", "may", "(III)I"⟩ : MethodName) : Cond) ∈ qw_tbl := qt_8 (List.mem_of_getElem? (i := 103) rfl) rfl
theorem w_1882 : (.selects "SecretBuyersModel" (⟨"SecretBuyersModel", "may", "(III)I"⟩ : MethodName) (⟨"SecretBuyersModel", "may", "(III)I"⟩ : MethodName) : Cond) ∈ qw_tbl := qt_8 (List.mem_of_getElem? (i := 104) rfl) rfl
theorem w_1883 : (.code (⟨"SecretBuyersModel", "may", "(III)I"⟩ : MethodName) prog_14_method_85_code 4 (Option.some Jvm.ClassFile.FieldType.int) : Cond) ∈ qw_tbl := qt_8 (List.mem_of_getElem? (i := 105) rfl) rfl
theorem w_1884 : (.methodLink "SecretBuyersModel" 487 (⟨"SecretBuyersModel", "mayGo", "(III)Z"⟩ : MethodName) : Cond) ∈ qw_tbl := qt_8 (List.mem_of_getElem? (i := 106) rfl) rfl
theorem w_1886 : (.instanceMethod (⟨"SecretBuyersModel", "mayGo", "(III)Z"⟩ : MethodName) : Cond) ∈ qw_tbl := qt_8 (List.mem_of_getElem? (i := 108) rfl) rfl
theorem w_1887 : (.code (⟨"SecretBuyersModel", "mayGo", "(III)Z"⟩ : MethodName) prog_14_method_84_code 8 (Option.some Jvm.ClassFile.FieldType.boolean) : Cond) ∈ qw_tbl := qt_8 (List.mem_of_getElem? (i := 109) rfl) rfl
theorem w_1888 : (.methodLink "SecretBuyersLaw" 131 (⟨"SecretBuyersModel", "given", "(III)I"⟩ : MethodName) : Cond) ∈ qw_tbl := qt_8 (List.mem_of_getElem? (i := 110) rfl) rfl
theorem w_1889 : (.instanceMethod (⟨"SecretBuyersModel", "given", "(III)I"⟩ : MethodName) : Cond) ∈ qw_tbl := qt_8 (List.mem_of_getElem? (i := 111) rfl) rfl
theorem w_1890 : (.selects "SecretBuyersModel" (⟨"SecretBuyersModel", "given", "(III)I"⟩ : MethodName) (⟨"SecretBuyersModel", "given", "(III)I"⟩ : MethodName) : Cond) ∈ qw_tbl := qt_8 (List.mem_of_getElem? (i := 112) rfl) rfl
theorem w_1891 : (.code (⟨"SecretBuyersModel", "given", "(III)I"⟩ : MethodName) prog_14_method_89_code 6 (Option.some Jvm.ClassFile.FieldType.int) : Cond) ∈ qw_tbl := qt_8 (List.mem_of_getElem? (i := 113) rfl) rfl
theorem w_1892 : (.methodLink "SecretBuyersModel" 497 (⟨"SecretBuyersModel", "gives", "(II)I"⟩ : MethodName) : Cond) ∈ qw_tbl := qt_8 (List.mem_of_getElem? (i := 114) rfl) rfl
theorem w_1894 : (.instanceMethod (⟨"SecretBuyersModel", "gives", "(II)I"⟩ : MethodName) : Cond) ∈ qw_tbl := qt_8 (List.mem_of_getElem? (i := 116) rfl) rfl
theorem w_1895 : (.code (⟨"SecretBuyersModel", "gives", "(II)I"⟩ : MethodName) prog_14_method_88_code 9 (Option.some Jvm.ClassFile.FieldType.int) : Cond) ∈ qw_tbl := qt_8 (List.mem_of_getElem? (i := 117) rfl) rfl
theorem w_1896 : (.methodLink "SecretBuyersModel" 491 (⟨"SecretBuyersModel", "wayOf", "(II)I"⟩ : MethodName) : Cond) ∈ qw_tbl := qt_8 (List.mem_of_getElem? (i := 118) rfl) rfl
theorem w_1898 : (.instanceMethod (⟨"SecretBuyersModel", "wayOf", "(II)I"⟩ : MethodName) : Cond) ∈ qw_tbl := qt_8 (List.mem_of_getElem? (i := 120) rfl) rfl
theorem w_1899 : (.code (⟨"SecretBuyersModel", "wayOf", "(II)I"⟩ : MethodName) prog_14_method_86_code 3 (Option.some Jvm.ClassFile.FieldType.int) : Cond) ∈ qw_tbl := qt_8 (List.mem_of_getElem? (i := 121) rfl) rfl
theorem w_1900 : (.constant "SecretBuyersModel" 490 1000000 : Cond) ∈ qw_tbl := qt_8 (List.mem_of_getElem? (i := 122) rfl) rfl
theorem w_1901 : (.methodLink "SecretBuyersModel" 494 (⟨"SecretBuyersModel", "sumBy", "(III)I"⟩ : MethodName) : Cond) ∈ qw_tbl := qt_8 (List.mem_of_getElem? (i := 123) rfl) rfl
theorem w_1903 : (.instanceMethod (⟨"SecretBuyersModel", "sumBy", "(III)I"⟩ : MethodName) : Cond) ∈ qw_tbl := qt_8 (List.mem_of_getElem? (i := 125) rfl) rfl
theorem w_1904 : (.code (⟨"SecretBuyersModel", "sumBy", "(III)I"⟩ : MethodName) prog_14_method_87_code 5 (Option.some Jvm.ClassFile.FieldType.int) : Cond) ∈ qw_tbl := qt_8 (List.mem_of_getElem? (i := 126) rfl) rfl
theorem w_1905 : (.methodLink "SecretBuyersLaw" 135 (⟨"SecretBuyersModel", "drawn", "(III)I"⟩ : MethodName) : Cond) ∈ qw_tbl := qt_8 (List.mem_of_getElem? (i := 127) rfl) rfl
theorem w_1906 : (.instanceMethod (⟨"SecretBuyersModel", "drawn", "(III)I"⟩ : MethodName) : Cond) ∈ qw_tbl := qt_8 (List.mem_of_getElem? (i := 128) rfl) rfl
theorem w_1907 : (.selects "SecretBuyersModel" (⟨"SecretBuyersModel", "drawn", "(III)I"⟩ : MethodName) (⟨"SecretBuyersModel", "drawn", "(III)I"⟩ : MethodName) : Cond) ∈ qw_tbl := qt_8 (List.mem_of_getElem? (i := 129) rfl) rfl
theorem w_1908 : (.code (⟨"SecretBuyersModel", "drawn", "(III)I"⟩ : MethodName) prog_14_method_90_code 10 (Option.some Jvm.ClassFile.FieldType.int) : Cond) ∈ qw_tbl := qt_8 (List.mem_of_getElem? (i := 130) rfl) rfl
theorem w_1909 : (.constantLong "SecretBuyersModel" 500 1103515245 : Cond) ∈ qw_tbl := qt_8 (List.mem_of_getElem? (i := 131) rfl) rfl
theorem w_1910 : (.constantLong "SecretBuyersModel" 502 12345 : Cond) ∈ qw_tbl := qt_8 (List.mem_of_getElem? (i := 132) rfl) rfl
theorem w_1911 : (.constantLong "SecretBuyersModel" 504 2147483648 : Cond) ∈ qw_tbl := qt_8 (List.mem_of_getElem? (i := 133) rfl) rfl
theorem w_1912 : (.constantLong "SecretBuyersModel" 506 65536 : Cond) ∈ qw_tbl := qt_8 (List.mem_of_getElem? (i := 134) rfl) rfl
theorem w_1913 : (.methodLink "SecretBuyersLaw" 139 (⟨"SecretBuyersModel", "sway", "(II)I"⟩ : MethodName) : Cond) ∈ qw_tbl := qt_8 (List.mem_of_getElem? (i := 135) rfl) rfl
theorem w_1914 : (.instanceMethod (⟨"SecretBuyersModel", "sway", "(II)I"⟩ : MethodName) : Cond) ∈ qw_tbl := qt_8 (List.mem_of_getElem? (i := 136) rfl) rfl
theorem w_1915 : (.selects "SecretBuyersModel" (⟨"SecretBuyersModel", "sway", "(II)I"⟩ : MethodName) (⟨"SecretBuyersModel", "sway", "(II)I"⟩ : MethodName) : Cond) ∈ qw_tbl := qt_8 (List.mem_of_getElem? (i := 137) rfl) rfl
theorem w_1916 : (.code (⟨"SecretBuyersModel", "sway", "(II)I"⟩ : MethodName) prog_14_method_91_code 8 (Option.some Jvm.ClassFile.FieldType.int) : Cond) ∈ qw_tbl := qt_8 (List.mem_of_getElem? (i := 138) rfl) rfl
theorem w_1917 : (.methodLink "SecretBuyersLaw" 143 (⟨"SecretBuyersModel", "sum", "(IIII)I"⟩ : MethodName) : Cond) ∈ qw_tbl := qt_8 (List.mem_of_getElem? (i := 139) rfl) rfl
theorem w_1918 : (.instanceMethod (⟨"SecretBuyersModel", "sum", "(IIII)I"⟩ : MethodName) : Cond) ∈ qw_tbl := qt_8 (List.mem_of_getElem? (i := 140) rfl) rfl
theorem w_1919 : (.selects "SecretBuyersModel" (⟨"SecretBuyersModel", "sum", "(IIII)I"⟩ : MethodName) (⟨"SecretBuyersModel", "sum", "(IIII)I"⟩ : MethodName) : Cond) ∈ qw_tbl := qt_8 (List.mem_of_getElem? (i := 141) rfl) rfl
theorem w_1920 : (.code (⟨"SecretBuyersModel", "sum", "(IIII)I"⟩ : MethodName) prog_14_method_92_code 7 (Option.some Jvm.ClassFile.FieldType.int) : Cond) ∈ qw_tbl := qt_8 (List.mem_of_getElem? (i := 142) rfl) rfl
theorem w_1921 : (.methodLink "SecretBuyersLaw" 147 (⟨"SecretBuyersModel", "count", "(I)I"⟩ : MethodName) : Cond) ∈ qw_tbl := qt_8 (List.mem_of_getElem? (i := 143) rfl) rfl
theorem w_1922 : (.instanceMethod (⟨"SecretBuyersModel", "count", "(I)I"⟩ : MethodName) : Cond) ∈ qw_tbl := qt_8 (List.mem_of_getElem? (i := 144) rfl) rfl
theorem w_1923 : (.selects "SecretBuyersModel" (⟨"SecretBuyersModel", "count", "(I)I"⟩ : MethodName) (⟨"SecretBuyersModel", "count", "(I)I"⟩ : MethodName) : Cond) ∈ qw_tbl := qt_8 (List.mem_of_getElem? (i := 145) rfl) rfl
theorem w_1924 : (.code (⟨"SecretBuyersModel", "count", "(I)I"⟩ : MethodName) prog_14_method_93_code 4 (Option.some Jvm.ClassFile.FieldType.int) : Cond) ∈ qw_tbl := qt_8 (List.mem_of_getElem? (i := 146) rfl) rfl
theorem w_1925 : (.constantLong "SecretBuyersLaw" 67 4294967295 : Cond) ∈ qw_tbl := qt_8 (List.mem_of_getElem? (i := 147) rfl) rfl
theorem w_1926 : (.sameMethod "java/lang/Throwable" "java/lang/Throwable" "fillInStackTrace" "(I)Ljava/lang/Throwable;" : Cond) ∈ qw_tbl := qt_8 (List.mem_of_getElem? (i := 148) rfl) rfl
theorem w_1927 : (.castable "SecretBuyers" "java/lang/Object" : Cond) ∈ lw_tbl := (fun h => List.mem_append_right _ (List.mem_append_right _ (List.mem_append_right _ (List.mem_append_right _ (List.mem_append_right _ (List.mem_append_right _ (List.mem_append_right _ (List.mem_append_right _ (h))))))))) (List.mem_of_getElem? (l := tables_1_8) (i := 149) rfl)
theorem w_1928 : (.castable "SecretBuyers$Book" "java/lang/Object" : Cond) ∈ lw_tbl := (fun h => List.mem_append_right _ (List.mem_append_right _ (List.mem_append_right _ (List.mem_append_right _ (List.mem_append_right _ (List.mem_append_right _ (List.mem_append_right _ (List.mem_append_right _ (h))))))))) (List.mem_of_getElem? (l := tables_1_8) (i := 150) rfl)
theorem w_1929 : (.castable "SecretBuyers$Tape" "java/lang/Object" : Cond) ∈ lw_tbl := (fun h => List.mem_append_right _ (List.mem_append_right _ (List.mem_append_right _ (List.mem_append_right _ (List.mem_append_right _ (List.mem_append_right _ (List.mem_append_right _ (List.mem_append_right _ (h))))))))) (List.mem_of_getElem? (l := tables_1_8) (i := 151) rfl)
theorem w_1930 : (.castable "SecretBuyers$Reader" "java/lang/Object" : Cond) ∈ lw_tbl := (fun h => List.mem_append_right _ (List.mem_append_right _ (List.mem_append_right _ (List.mem_append_right _ (List.mem_append_right _ (List.mem_append_right _ (List.mem_append_right _ (List.mem_append_right _ (h))))))))) (List.mem_of_getElem? (l := tables_1_8) (i := 152) rfl)
theorem w_1931 : (.castable "SecretBuyers$Truth" "java/lang/Object" : Cond) ∈ lw_tbl := (fun h => List.mem_append_right _ (List.mem_append_right _ (List.mem_append_right _ (List.mem_append_right _ (List.mem_append_right _ (List.mem_append_right _ (List.mem_append_right _ (List.mem_append_right _ (h))))))))) (List.mem_of_getElem? (l := tables_1_8) (i := 153) rfl)
theorem w_1932 : (.castable "SecretBuyers$Scorer" "java/lang/Object" : Cond) ∈ lw_tbl := (fun h => List.mem_append_right _ (List.mem_append_right _ (List.mem_append_right _ (List.mem_append_right _ (List.mem_append_right _ (List.mem_append_right _ (List.mem_append_right _ (List.mem_append_right _ (h))))))))) (List.mem_of_getElem? (l := tables_1_8) (i := 154) rfl)
theorem w_1933 : (.castable "SecretBuyers$Means" "java/lang/Object" : Cond) ∈ lw_tbl := (fun h => List.mem_append_right _ (List.mem_append_right _ (List.mem_append_right _ (List.mem_append_right _ (List.mem_append_right _ (List.mem_append_right _ (List.mem_append_right _ (List.mem_append_right _ (h))))))))) (List.mem_of_getElem? (l := tables_1_8) (i := 155) rfl)
theorem w_1934 : (.castable "SecretBuyers$Giver" "java/lang/Object" : Cond) ∈ lw_tbl := (fun h => List.mem_append_right _ (List.mem_append_right _ (List.mem_append_right _ (List.mem_append_right _ (List.mem_append_right _ (List.mem_append_right _ (List.mem_append_right _ (List.mem_append_right _ (h))))))))) (List.mem_of_getElem? (l := tables_1_8) (i := 156) rfl)
theorem w_1935 : (.castable "SecretBuyersModel" "java/lang/Object" : Cond) ∈ lw_tbl := (fun h => List.mem_append_right _ (List.mem_append_right _ (List.mem_append_right _ (List.mem_append_right _ (List.mem_append_right _ (List.mem_append_right _ (List.mem_append_right _ (List.mem_append_right _ (h))))))))) (List.mem_of_getElem? (l := tables_1_8) (i := 157) rfl)
theorem w_1936 : (.castable "SecretBuyers$Shop" "java/lang/Object" : Cond) ∈ lw_tbl := (fun h => List.mem_append_right _ (List.mem_append_right _ (List.mem_append_right _ (List.mem_append_right _ (List.mem_append_right _ (List.mem_append_right _ (List.mem_append_right _ (List.mem_append_right _ (h))))))))) (List.mem_of_getElem? (l := tables_1_8) (i := 158) rfl)
theorem w_1937 : (.castable "SecretBuyers$Place" "java/lang/Object" : Cond) ∈ lw_tbl := (fun h => List.mem_append_right _ (List.mem_append_right _ (List.mem_append_right _ (List.mem_append_right _ (List.mem_append_right _ (List.mem_append_right _ (List.mem_append_right _ (List.mem_append_right _ (h))))))))) (List.mem_of_getElem? (l := tables_1_8) (i := 159) rfl)
theorem w_1938 : (.castable "SecretBuyers$Visit" "java/lang/Object" : Cond) ∈ lw_tbl := (fun h => List.mem_append_right _ (List.mem_append_right _ (List.mem_append_right _ (List.mem_append_right _ (List.mem_append_right _ (List.mem_append_right _ (List.mem_append_right _ (List.mem_append_right _ (h))))))))) (List.mem_of_getElem? (l := tables_1_8) (i := 160) rfl)
theorem w_1939 : (.castable "SecretBuyers$Brief" "java/lang/Object" : Cond) ∈ lw_tbl := (fun h => List.mem_append_right _ (List.mem_append_right _ (List.mem_append_right _ (List.mem_append_right _ (List.mem_append_right _ (List.mem_append_right _ (List.mem_append_right _ (List.mem_append_right _ (h))))))))) (List.mem_of_getElem? (l := tables_1_8) (i := 161) rfl)
theorem w_1940 : (.castable "java/util/NoSuchElementException" "java/lang/Object" : Cond) ∈ lw_tbl := (fun h => List.mem_append_right _ (List.mem_append_right _ (List.mem_append_right _ (List.mem_append_right _ (List.mem_append_right _ (List.mem_append_right _ (List.mem_append_right _ (List.mem_append_right _ (h))))))))) (List.mem_of_getElem? (l := tables_1_8) (i := 162) rfl)
theorem w_1941 : (.castable "java/lang/Throwable" "java/lang/Object" : Cond) ∈ lw_tbl := (fun h => List.mem_append_right _ (List.mem_append_right _ (List.mem_append_right _ (List.mem_append_right _ (List.mem_append_right _ (List.mem_append_right _ (List.mem_append_right _ (List.mem_append_right _ (h))))))))) (List.mem_of_getElem? (l := tables_1_8) (i := 163) rfl)
theorem w_1942 : (.castable "java/lang/String" "java/lang/Object" : Cond) ∈ lw_tbl := (fun h => List.mem_append_right _ (List.mem_append_right _ (List.mem_append_right _ (List.mem_append_right _ (List.mem_append_right _ (List.mem_append_right _ (List.mem_append_right _ (List.mem_append_right _ (h))))))))) (List.mem_of_getElem? (l := tables_1_8) (i := 164) rfl)
