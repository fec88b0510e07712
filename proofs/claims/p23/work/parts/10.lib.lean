/-! the world of the system by tables: a slot's number is 100 * its class + its place; an object's own address stands at 100 * its class + 99 -/
def qkT : List (List Nat) := [[2, 2, 2, 2, 2, 2, 2, 2, 0, 0, 0, 0, 0, 0, 0, 0, 0, 0, 0], [0, 0, 0, 2], [3, 2, 2, 2, 0], [3, 12, 9, 2, 2, 2, 2, 2, 2, 2, 0, 0], [0, 0], [11, 2, 2, 0, 0, 0], [3, 2, 2, 2, 0, 0, 0, 0, 0, 0], [7, 0, 0, 0, 0], [2, 0, 0, 0, 0, 1, 0], [0, 0, 0, 3, 2, 2, 2, 2, 0, 0], [0, 0, 0, 0, 0, 0, 0, 0, 0, 0, 0, 0, 0, 0, 0], [3, 11, 8, 12, 9, 6, 5, 0, 0], [0, 2, 0, 0, 2, 2, 2, 0, 0, 2, 0, 2, 2, 2, 2, 2, 2, 2, 2, 0, 2, 0, 2, 2, 2, 0, 2, 2, 0, 0, 0, 0, 0, 2, 2, 2, 2, 2, 2, 0, 2, 2, 0, 0, 0, 0, 0, 0, 2, 2, 2, 2, 2, 2, 2, 2, 0, 2, 2, 2, 0, 2, 2, 2, 2, 0, 2, 2, 0, 0, 0, 2, 2, 2, 2, 2, 2, 2, 2, 2, 2]]
def qyT : List (List Nat) := [[4, 5, 6, 6, 7, 0, 0, 0, 0, 0, 0, 0, 0, 0, 0, 0, 0, 0, 0], [0, 0, 0, 0], [0, 3, 3, 0, 0], [0, 0, 0, 0, 0, 0, 0, 0, 0, 0, 0, 0], [0, 0], [0, 3, 0, 0, 0, 0], [0, 0, 0, 0, 0, 0, 0, 0, 0, 0], [0, 0, 0, 0, 0], [2, 0, 0, 0, 0, 0, 0], [0, 0, 0, 0, 6, 0, 0, 1, 0, 0], [0, 0, 0, 0, 0, 0, 0, 0, 0, 0, 0, 0, 0, 0, 0], [0, 0, 0, 0, 0, 0, 0, 0, 0], [0, 0, 0, 0, 0, 0, 3, 0, 0, 3, 0, 0, 0, 0, 0, 0, 0, 0, 0, 0, 3, 0, 0, 0, 0, 0, 0, 0, 0, 0, 0, 0, 0, 0, 0, 0, 0, 0, 1, 0, 0, 0, 0, 0, 0, 0, 0, 0, 0, 0, 0, 0, 0, 0, 0, 0, 0, 0, 0, 0, 0, 0, 0, 0, 0, 0, 0, 1, 0, 0, 0, 0, 0, 0, 0, 0, 0, 0, 0, 0, 0]]
def qlT : List (List Nat) := [[20, 8, 120, 120, 16, 60, 60, 60, 0, 0, 0, 0, 0, 0, 0, 0, 0, 0, 0], [0, 0, 0, 0], [0, 256, 8, 8, 0], [0, 0, 0, 8, 8, 64, 20, 20, 20, 20, 0, 0], [0, 0], [0, 8, 1000, 0, 0, 0], [0, 32, 8, 20, 0, 0, 0, 0, 0, 0], [0, 0, 0, 0, 0], [1000, 0, 0, 0, 0, 0, 0], [0, 0, 0, 0, 12, 12, 12, 12, 0, 0], [0, 0, 0, 0, 0, 0, 0, 0, 0, 0, 0, 0, 0, 0, 0], [0, 0, 0, 0, 0, 0, 0, 0, 0], [0, 1000, 0, 0, 1002, 1002, 1002, 0, 0, 15, 0, 17, 17, 17, 17, 272, 272, 272, 272, 0, 8, 0, 20400, 20400, 6, 0, 8, 1200, 0, 0, 0, 0, 0, 20, 20, 20, 20, 20, 20, 0, 8, 8, 0, 0, 0, 0, 0, 0, 120, 120, 120, 120, 120, 120, 120, 120, 0, 60, 60, 60, 0, 120, 120, 120, 120, 0, 12, 144, 0, 0, 0, 8, 8, 20, 20, 20, 8, 59049, 8, 8, 64]]
/-- the kind of a slot: 0 a number, 1 a long, 2 an array of its own, 3 + j the object of class j -/
def qk (n : Nat) : Nat := (qkT.getD (n / 100) []).getD (n % 100) 0
/-- what the array of a slot holds: 0 int, 1 boolean, 2 byte, 3 long, 4 and on references -/
def qy (n : Nat) : Nat := (qyT.getD (n / 100) []).getD (n % 100) 0
def ql (n : Nat) : Nat := (qlT.getD (n / 100) []).getD (n % 100) 0
def qN (c : Nat) : Nat := (qkT.getD c []).length
/-- numbers, rows of numbers, rows of longs (a long field: the row's place 0), rows of references, further cells -/
abbrev qS : Type := (Nat → Int32) × (Nat → Nat → Int32) × (Nat → Nat → Int64) × (Nat → Nat → Option Nat) × va_W
abbrev qE : Type := va_G × (Nat → ClassId) × (Nat → Nat)
def qob (T : Nat) : List Nat := match T with
  | 0 => [11, 0, 8, 5, 9, 6, 3, 2]
  | 1 => [12]
  | _ => []
def qar (T : Nat) : List Nat := match T with
  | 0 => [0, 1, 2, 3, 4, 5, 6, 7, 800, 501, 502, 904, 905, 906, 907, 601, 602, 603, 303, 304, 305, 306, 307, 308, 309, 201, 202, 203]
  | 1 => [1201, 1204, 1205, 1206, 1209, 1211, 1212, 1213, 1214, 1215, 1216, 1217, 1218, 1220, 1222, 1223, 1224, 1226, 1227, 1233, 1234, 1235, 1236, 1237, 1238, 1240, 1241, 1248, 1249, 1250, 1251, 1252, 1253, 1254, 1255, 1257, 1258, 1259, 1261, 1262, 1263, 1264, 1266, 1267, 1271, 1272, 1273, 1274, 1275, 1276, 1277, 1278, 1279, 1280]
  | _ => []
def qv (E : qE) (u : qS) (n : Nat) : Value := match qk n with
  | 0 => .int (u.1 n)
  | 1 => .long (u.2.2.1 n 0)
  | 2 => .ref (E.2.2 n)
  | j + 3 => .ref (E.2.2 (100 * j + 99))
def qfs (E : qE) (u : qS) (c : Nat) : List Value := (List.range (qN c)).map (fun k => qv E u (100 * c + k))
def qe (E : qE) (u : qS) (n : Nat) : va_E := .inl (E.2.1 (qy n), ql n, if qy n < 3 then .inl (u.2.1 n) else if qy n = 3 then .inr (.inl (u.2.2.1 n)) else .inr (.inr (.inr (.inr (u.2.2.2.1 n)))))
def qoc (E : qE) (u : qS) (c : Nat) : Nat × va_E := (E.2.2 (100 * c + 99), .inr (c, qfs E u c))
def qac (E : qE) (u : qS) (n : Nat) : Nat × va_E := (E.2.2 n, qe E u n)
def qW (E : qE) (T : Nat) (u : qS) : va_W := (qob T).map (qoc E u) ++ ((qar T).map (qac E u) ++ u.2.2.2.2)
def qT (E : qE) : List (ClassId × FieldType) := [(E.2.1 0, .int), (E.2.1 1, .boolean), (E.2.1 2, .byte), (E.2.1 3, .long), (E.2.1 4, .object "SecretBuyers$Shop"), (E.2.1 5, .object "SecretBuyers$Place"), (E.2.1 6, .object "SecretBuyers$Visit"), (E.2.1 7, .object "SecretBuyers$Brief")]
/-! the words of the nest, which are carried by the states -/
abbrev qn_130 : Cond := .methodLinkNest "SecretBuyers" 9 (⟨"SecretBuyers$Book", "<init>", "()V"⟩ : MethodName) "SecretBuyers"
abbrev qn_135 : Cond := .arrayOver (Jvm.ClassFile.FieldType.object "SecretBuyers$Shop")
abbrev qn_137 : Cond := .arrayOver (Jvm.ClassFile.FieldType.object "SecretBuyers$Place")
abbrev qn_139 : Cond := .arrayOver (Jvm.ClassFile.FieldType.object "SecretBuyers$Visit")
abbrev qn_141 : Cond := .arrayOver (Jvm.ClassFile.FieldType.object "SecretBuyers$Brief")
abbrev qn_234 : Cond := .methodLinkNest "SecretBuyers" 18 (⟨"SecretBuyers$Tape", "<init>", "()V"⟩ : MethodName) "SecretBuyers"
abbrev qn_567 : Cond := .methodLinkNest "SecretBuyers$Book" 64 (⟨"SecretBuyers", "isWithin", "(III)Z"⟩ : MethodName) "SecretBuyers"
abbrev qn_694 : Cond := .methodLinkNest "SecretBuyers$Tape" 15 (⟨"SecretBuyers", "isWithin", "(III)Z"⟩ : MethodName) "SecretBuyers"
abbrev qn_728 : Cond := .fieldLinkNest "SecretBuyers$Tape" 66 "SecretBuyers" "WORDS" "[J" "SecretBuyers"
abbrev qn_768 : Cond := .methodLinkNest "SecretBuyers$Reader" 101 (⟨"SecretBuyers", "isWithin", "(III)Z"⟩ : MethodName) "SecretBuyers"
abbrev qn_806 : Cond := .castable "[I" "java/lang/Cloneable"
abbrev qn_859 : Cond := .methodLinkNest "SecretBuyers$Truth" 118 (⟨"SecretBuyers", "isWithin", "(III)Z"⟩ : MethodName) "SecretBuyers"
abbrev qn_956 : Cond := .methodLinkNest "SecretBuyers$Scorer" 109 (⟨"SecretBuyers", "isWithin", "(III)Z"⟩ : MethodName) "SecretBuyers"
abbrev qn_1024 : Cond := .methodLinkNest "SecretBuyers$Means" 117 (⟨"SecretBuyers", "isWithin", "(III)Z"⟩ : MethodName) "SecretBuyers"
abbrev qn_1205 : Cond := .castable "java/util/NoSuchElementException" "java/util/NoSuchElementException"
abbrev qn_1206 : Cond := .declares (⟨"java/lang/RuntimeException", "<init>", "()V"⟩ : MethodName)
abbrev qn_1207 : Cond := .declares (⟨"java/lang/RuntimeException", "<init>", "(Ljava/lang/String;)V"⟩ : MethodName)
abbrev qn_1208 : Cond := .declares (⟨"java/lang/Exception", "<init>", "()V"⟩ : MethodName)
abbrev qn_1209 : Cond := .declares (⟨"java/lang/Exception", "<init>", "(Ljava/lang/String;)V"⟩ : MethodName)
abbrev qn_1210 : Cond := .declares (⟨"java/lang/Throwable", "<init>", "()V"⟩ : MethodName)
abbrev qn_1211 : Cond := .declares (⟨"java/lang/Throwable", "<init>", "(Ljava/lang/String;)V"⟩ : MethodName)
def qNs (s : State) : Prop := va_Nw qn_130 s ∧ va_Nw qn_135 s ∧ va_Nw qn_137 s ∧ va_Nw qn_139 s ∧ va_Nw qn_141 s ∧ va_Nw qn_234 s ∧ va_Nw qn_567 s ∧ va_Nw qn_694 s ∧ va_Nw qn_728 s ∧ va_Nw qn_768 s ∧ va_Nw qn_806 s ∧ va_Nw qn_859 s ∧ va_Nw qn_956 s ∧ va_Nw qn_1024 s ∧ va_Nw qn_1205 s ∧ va_Nw qn_1206 s ∧ va_Nw qn_1207 s ∧ va_Nw qn_1208 s ∧ va_Nw qn_1209 s ∧ va_Nw qn_1210 s ∧ va_Nw qn_1211 s
theorem qNs.moved {s U : State} (hW : s.WarmedH U.vm) (h : qNs s) : qNs U := ⟨va_Nw.warmM hW h.1, va_AO.moved hW.alike h.2.1, va_AO.moved hW.alike h.2.2.1, va_AO.moved hW.alike h.2.2.2.1, va_AO.moved hW.alike h.2.2.2.2.1, va_Nw.warmM hW h.2.2.2.2.2.1, va_Nw.warmM hW h.2.2.2.2.2.2.1, va_Nw.warmM hW h.2.2.2.2.2.2.2.1, va_Nw.warmF hW h.2.2.2.2.2.2.2.2.1, va_Nw.warmM hW h.2.2.2.2.2.2.2.2.2.1, va_Nw.warmC hW h.2.2.2.2.2.2.2.2.2.2.1, va_Nw.warmM hW h.2.2.2.2.2.2.2.2.2.2.2.1, va_Nw.warmM hW h.2.2.2.2.2.2.2.2.2.2.2.2.1, va_Nw.warmM hW h.2.2.2.2.2.2.2.2.2.2.2.2.2.1, va_Nw.warmC hW h.2.2.2.2.2.2.2.2.2.2.2.2.2.2.1, va_Nw.warmD hW h.2.2.2.2.2.2.2.2.2.2.2.2.2.2.2.1, va_Nw.warmD hW h.2.2.2.2.2.2.2.2.2.2.2.2.2.2.2.2.1, va_Nw.warmD hW h.2.2.2.2.2.2.2.2.2.2.2.2.2.2.2.2.2.1, va_Nw.warmD hW h.2.2.2.2.2.2.2.2.2.2.2.2.2.2.2.2.2.2.1, va_Nw.warmD hW h.2.2.2.2.2.2.2.2.2.2.2.2.2.2.2.2.2.2.2.1, va_Nw.warmD hW h.2.2.2.2.2.2.2.2.2.2.2.2.2.2.2.2.2.2.2.2⟩
theorem qNs.same {s U : State} (hW : s.vm = U.vm) (h : qNs s) : qNs U := ⟨va_Nw.same rfl hW h.1, va_AO.moved (by rw [← hW]; exact Vm.Alike.refl _) h.2.1, va_AO.moved (by rw [← hW]; exact Vm.Alike.refl _) h.2.2.1, va_AO.moved (by rw [← hW]; exact Vm.Alike.refl _) h.2.2.2.1, va_AO.moved (by rw [← hW]; exact Vm.Alike.refl _) h.2.2.2.2.1, va_Nw.same rfl hW h.2.2.2.2.2.1, va_Nw.same rfl hW h.2.2.2.2.2.2.1, va_Nw.same rfl hW h.2.2.2.2.2.2.2.1, va_Nw.same rfl hW h.2.2.2.2.2.2.2.2.1, va_Nw.same rfl hW h.2.2.2.2.2.2.2.2.2.1, va_Nw.same rfl hW h.2.2.2.2.2.2.2.2.2.2.1, va_Nw.same rfl hW h.2.2.2.2.2.2.2.2.2.2.2.1, va_Nw.same rfl hW h.2.2.2.2.2.2.2.2.2.2.2.2.1, va_Nw.same rfl hW h.2.2.2.2.2.2.2.2.2.2.2.2.2.1, va_Nw.same rfl hW h.2.2.2.2.2.2.2.2.2.2.2.2.2.2.1, va_Nw.same rfl hW h.2.2.2.2.2.2.2.2.2.2.2.2.2.2.2.1, va_Nw.same rfl hW h.2.2.2.2.2.2.2.2.2.2.2.2.2.2.2.2.1, va_Nw.same rfl hW h.2.2.2.2.2.2.2.2.2.2.2.2.2.2.2.2.2.1, va_Nw.same rfl hW h.2.2.2.2.2.2.2.2.2.2.2.2.2.2.2.2.2.2.1, va_Nw.same rfl hW h.2.2.2.2.2.2.2.2.2.2.2.2.2.2.2.2.2.2.2.1, va_Nw.same rfl hW h.2.2.2.2.2.2.2.2.2.2.2.2.2.2.2.2.2.2.2.2⟩
theorem qNs.n130 {s : State} (h : qNs s) : va_Nw qn_130 s := h.1
theorem qNs.n135 {s : State} (h : qNs s) : va_Nw qn_135 s := h.2.1
theorem qNs.n137 {s : State} (h : qNs s) : va_Nw qn_137 s := h.2.2.1
theorem qNs.n139 {s : State} (h : qNs s) : va_Nw qn_139 s := h.2.2.2.1
theorem qNs.n141 {s : State} (h : qNs s) : va_Nw qn_141 s := h.2.2.2.2.1
theorem qNs.n234 {s : State} (h : qNs s) : va_Nw qn_234 s := h.2.2.2.2.2.1
theorem qNs.n567 {s : State} (h : qNs s) : va_Nw qn_567 s := h.2.2.2.2.2.2.1
theorem qNs.n694 {s : State} (h : qNs s) : va_Nw qn_694 s := h.2.2.2.2.2.2.2.1
theorem qNs.n728 {s : State} (h : qNs s) : va_Nw qn_728 s := h.2.2.2.2.2.2.2.2.1
theorem qNs.n768 {s : State} (h : qNs s) : va_Nw qn_768 s := h.2.2.2.2.2.2.2.2.2.1
theorem qNs.n806 {s : State} (h : qNs s) : va_Nw qn_806 s := h.2.2.2.2.2.2.2.2.2.2.1
theorem qNs.n859 {s : State} (h : qNs s) : va_Nw qn_859 s := h.2.2.2.2.2.2.2.2.2.2.2.1
theorem qNs.n956 {s : State} (h : qNs s) : va_Nw qn_956 s := h.2.2.2.2.2.2.2.2.2.2.2.2.1
theorem qNs.n1024 {s : State} (h : qNs s) : va_Nw qn_1024 s := h.2.2.2.2.2.2.2.2.2.2.2.2.2.1
theorem qNs.n1205 {s : State} (h : qNs s) : va_Nw qn_1205 s := h.2.2.2.2.2.2.2.2.2.2.2.2.2.2.1
theorem qNs.n1206 {s : State} (h : qNs s) : va_Nw qn_1206 s := h.2.2.2.2.2.2.2.2.2.2.2.2.2.2.2.1
theorem qNs.n1207 {s : State} (h : qNs s) : va_Nw qn_1207 s := h.2.2.2.2.2.2.2.2.2.2.2.2.2.2.2.2.1
theorem qNs.n1208 {s : State} (h : qNs s) : va_Nw qn_1208 s := h.2.2.2.2.2.2.2.2.2.2.2.2.2.2.2.2.2.1
theorem qNs.n1209 {s : State} (h : qNs s) : va_Nw qn_1209 s := h.2.2.2.2.2.2.2.2.2.2.2.2.2.2.2.2.2.2.1
theorem qNs.n1210 {s : State} (h : qNs s) : va_Nw qn_1210 s := h.2.2.2.2.2.2.2.2.2.2.2.2.2.2.2.2.2.2.2.1
theorem qNs.n1211 {s : State} (h : qNs s) : va_Nw qn_1211 s := h.2.2.2.2.2.2.2.2.2.2.2.2.2.2.2.2.2.2.2.2
theorem qNs.of {args : Array Value} {s : State} (h : ∀ w ∈ lw_tbl, w.before args s = true) : qNs s := ⟨va_Nw.of rfl (h _ w_130), va_AO.of (h _ w_135), va_AO.of (h _ w_137), va_AO.of (h _ w_139), va_AO.of (h _ w_141), va_Nw.of rfl (h _ w_234), va_Nw.of rfl (h _ w_567), va_Nw.of rfl (h _ w_694), va_Nw.of rfl (h _ w_728), va_Nw.of rfl (h _ w_768), va_Nw.of rfl (h _ w_806), va_Nw.of rfl (h _ w_859), va_Nw.of rfl (h _ w_956), va_Nw.of rfl (h _ w_1024), va_Nw.of rfl (h _ w_1205), va_Nw.of rfl (h _ w_1206), va_Nw.of rfl (h _ w_1207), va_Nw.of rfl (h _ w_1208), va_Nw.of rfl (h _ w_1209), va_Nw.of rfl (h _ w_1210), va_Nw.of rfl (h _ w_1211)⟩
/-- the heap holds the world -/
def qH (E : qE) (A : Nat → Prop) (T : Nat) (u : qS) (s : State) (H : Heap) : Prop := va_K E.1 vwCl (qT E) s ∧ va_P E.1 vwCl (qW E T u) H ∧ va_D A (qW E T u) ∧ qNs s
def qsI (u : qS) (n : Nat) (x : Int32) : qS := (upd u.1 n x, u.2)
def qsF (u : qS) (n : Nat) (f : Nat → Int32) : qS := (u.1, va_up u.2.1 n f, u.2.2)
def qsG (u : qS) (n : Nat) (f : Nat → Int64) : qS := (u.1, u.2.1, va_up u.2.2.1 n f, u.2.2.2)
def qsR (u : qS) (n : Nat) (f : Nat → Option Nat) : qS := (u.1, u.2.1, u.2.2.1, va_up u.2.2.2.1 n f, u.2.2.2.2)
def qsX (u : qS) (d : va_W) : qS := (u.1, u.2.1, u.2.2.1, u.2.2.2.1, d)
theorem qob_ok : ∀ T c, c ∈ qob T → qN c ≤ 90 := by
  intro T
  match T with
  | 0 => exact (by decide : ∀ c, c ∈ qob 0 → qN c ≤ 90)
  | 1 => exact (by decide : ∀ c, c ∈ qob 1 → qN c ≤ 90)
  | T + 2 => intro c h; cases h
theorem qar_ok : ∀ T n, n ∈ qar T → qk n = 2 := by
  intro T
  match T with
  | 0 => exact (by decide : ∀ n, n ∈ qar 0 → qk n = 2)
  | 1 => exact (by decide : ∀ n, n ∈ qar 1 → qk n = 2)
  | T + 2 => intro c h; cases h
theorem qob_nd : ∀ T, (qob T).Nodup := by
  intro T
  match T with
  | 0 => decide
  | 1 => decide
  | T + 2 => exact List.nodup_nil
theorem qar_nd : ∀ T, (qar T).Nodup := by
  intro T
  match T with
  | 0 => decide
  | 1 => decide
  | T + 2 => exact List.nodup_nil
theorem ql_map_set {α β : Type} (f g : α → β) (l : List α) (i : Nat) (a : α) (hi : l[i]? = some a) (hn : l.Nodup) (h : ∀ b ∈ l, b ≠ a → g b = f b) : (l.map f).set i (g a) = l.map g := by
  apply List.ext_getElem?
  intro j
  by_cases hj : i = j
  · subst hj
    have hl : i < (l.map f).length := by rw [List.length_map]; exact (List.getElem?_eq_some_iff.mp hi).1
    rw [List.getElem?_set_self hl, List.getElem?_map, hi]; rfl
  · rw [List.getElem?_set_ne hj, List.getElem?_map, List.getElem?_map]
    cases hb : l[j]? with
    | none => rfl
    | some b =>
      have hne : b ≠ a := fun e => by
        subst e
        obtain ⟨h1, h2⟩ := List.getElem?_eq_some_iff.mp hi
        obtain ⟨h3, h4⟩ := List.getElem?_eq_some_iff.mp hb
        rcases Nat.lt_or_gt_of_ne hj with q | q
        · exact List.pairwise_iff_getElem.mp hn i j h1 h3 q (h2.trans h4.symm)
        · exact List.pairwise_iff_getElem.mp hn j i h3 h1 q (h4.trans h2.symm)
      show some (f b) = some (g b)
      rw [h b (List.mem_of_getElem? hb) hne]
theorem qW_ob {E : qE} {T : Nat} {u : qS} {i c : Nat} (hi : (qob T)[i]? = some c) : (qW E T u)[i]? = some (qoc E u c) := by
  have hl : i < ((qob T).map (qoc E u)).length := by rw [List.length_map]; exact (List.getElem?_eq_some_iff.mp hi).1
  rw [qW, List.getElem?_append_left hl, List.getElem?_map, hi]; rfl
theorem qW_ar {E : qE} {T : Nat} {u : qS} {j n : Nat} (hj : (qar T)[j]? = some n) : (qW E T u)[(qob T).length + j]? = some (qac E u n) := by
  have hl : j < ((qar T).map (qac E u)).length := by rw [List.length_map]; exact (List.getElem?_eq_some_iff.mp hj).1
  rw [qW, List.getElem?_append_right (by rw [List.length_map]; omega), List.length_map, Nat.add_sub_cancel_left, List.getElem?_append_left hl, List.getElem?_map, hj]; rfl
theorem qfs_get {E : qE} {u : qS} {c k : Nat} (hk : k < qN c) : (qfs E u c)[k]? = some (qv E u (100 * c + k)) := by
  rw [qfs, List.getElem?_map, List.getElem?_range hk]; rfl
theorem qfs_set {E : qE} {u : qS} {c k : Nat} (x : Int32) (hk : k < qN c) (hN : qN c ≤ 90) (h0 : qk (100 * c + k) = 0) : (qfs E u c).set k (.int x) = qfs E (qsI u (100 * c + k) x) c := by
  have hv : qv E (qsI u (100 * c + k) x) (100 * c + k) = .int x := by
    unfold qv; rw [h0]; show Value.int (upd u.1 (100 * c + k) x (100 * c + k)) = _; rw [pk_us]
  unfold qfs
  rw [← hv]
  refine ql_map_set (fun k => qv E u (100 * c + k)) (fun j => qv E (qsI u (100 * c + k) x) (100 * c + j)) (List.range (qN c)) k k (List.getElem?_range hk) List.nodup_range (fun b hb hne => ?_)
  show qv E (qsI u (100 * c + k) x) (100 * c + b) = qv E u (100 * c + b)
  unfold qv
  have : upd u.1 (100 * c + k) x (100 * c + b) = u.1 (100 * c + b) := pk_un (by omega)
  show (match qk (100 * c + b) with | 0 => Value.int (upd u.1 (100 * c + k) x (100 * c + b)) | 1 => Value.long (u.2.2.1 (100 * c + b) 0) | 2 => Value.ref (E.2.2 (100 * c + b)) | j + 3 => Value.ref (E.2.2 (100 * j + 99))) = _
  rw [this]
theorem qfs_other {E : qE} {u : qS} {c c' k : Nat} (x : Int32) (hN : qN c' ≤ 90) (hk : k < 90) (hne : c' ≠ c) : qfs E (qsI u (100 * c + k) x) c' = qfs E u c' := by
  unfold qfs
  refine List.map_congr_left (fun j hj => ?_)
  have hj := List.mem_range.mp hj
  have : upd u.1 (100 * c + k) x (100 * c' + j) = u.1 (100 * c' + j) := pk_un (by omega)
  show (match qk (100 * c' + j) with | 0 => Value.int (upd u.1 (100 * c + k) x (100 * c' + j)) | 1 => Value.long (u.2.2.1 (100 * c' + j) 0) | 2 => Value.ref (E.2.2 (100 * c' + j)) | i + 3 => Value.ref (E.2.2 (100 * i + 99))) = qv E u (100 * c' + j)
  rw [this]; rfl
theorem qW_setI {E : qE} {T : Nat} {u : qS} {i c k : Nat} (x : Int32) (hi : (qob T)[i]? = some c) (hk : k < qN c) (h0 : qk (100 * c + k) = 0) : (qW E T u).set i (E.2.2 (100 * c + 99), .inr (c, (qfs E u c).set k (.int x))) = qW E T (qsI u (100 * c + k) x) := by
  have hN := qob_ok T c (List.mem_of_getElem? hi)
  have hl : i < ((qob T).map (qoc E u)).length := by rw [List.length_map]; exact (List.getElem?_eq_some_iff.mp hi).1
  unfold qW
  rw [List.set_append_left _ _ hl, qfs_set x hk hN h0]
  have h := ql_map_set (qoc E u) (qoc E (qsI u (100 * c + k) x)) (qob T) i c hi (qob_nd T) (fun b hb hne => by
    show (_, _) = (_, _)
    rw [qfs_other x (qob_ok T b hb) (by omega) hne])
  rw [← h]; rfl
theorem qW_setA {E : qE} {T : Nat} {u u' : qS} {j n : Nat} (hj : (qar T)[j]? = some n) (h1 : ∀ c ∈ qob T, qfs E u' c = qfs E u c) (h2 : ∀ m, m ≠ n → qe E u' m = qe E u m) (h3 : u'.2.2.2.2 = u.2.2.2.2) : (qW E T u).set ((qob T).length + j) (E.2.2 n, qe E u' n) = qW E T u' := by
  have hl : j < ((qar T).map (qac E u)).length := by rw [List.length_map]; exact (List.getElem?_eq_some_iff.mp hj).1
  unfold qW
  rw [List.set_append_right _ _ (by rw [List.length_map]; omega), List.length_map, Nat.add_sub_cancel_left, List.set_append_left _ _ hl, h3]
  have e1 : (qob T).map (qoc E u') = (qob T).map (qoc E u) := List.map_congr_left (fun c hc => by show (_, _) = (_, _); rw [h1 c hc])
  have e2 := ql_map_set (qac E u) (qac E u') (qar T) j n hj (qar_nd T) (fun b _ hne => by show (_, _) = (_, _); rw [h2 b hne])
  rw [e1, ← e2]; rfl
theorem qe_F {E : qE} {u : qS} {n : Nat} {f : Nat → Int32} (hy : qy n < 3) : qe E (qsF u n f) n = .inl (E.2.1 (qy n), ql n, .inl f) := by
  unfold qe
  rw [if_pos hy]
  show Sum.inl (E.2.1 (qy n), ql n, Sum.inl (va_up u.2.1 n f n)) = _
  unfold va_up; rw [if_pos rfl]
theorem qe_Fo {E : qE} {u : qS} {n m : Nat} {f : Nat → Int32} (h : m ≠ n) : qe E (qsF u n f) m = qe E u m := by
  unfold qe
  show (Sum.inl (E.2.1 (qy m), ql m, if qy m < 3 then Sum.inl (va_up u.2.1 n f m) else _) : va_E) = _
  unfold va_up; rw [if_neg h]; rfl
theorem qe_0 {E : qE} {u : qS} {n : Nat} (hy : qy n < 3) : qe E u n = .inl (E.2.1 (qy n), ql n, .inl (u.2.1 n)) := by
  unfold qe; rw [if_pos hy]
theorem qe_3 {E : qE} {u : qS} {n : Nat} (hy : qy n = 3) : qe E u n = .inl (E.2.1 3, ql n, .inr (.inl (u.2.2.1 n))) := by
  unfold qe; rw [if_neg (by omega), if_pos hy, hy]
theorem qe_4 {E : qE} {u : qS} {n t : Nat} (hy : qy n = t) (ht : 3 < t) : qe E u n = .inl (E.2.1 t, ql n, .inr (.inr (.inr (.inr (u.2.2.2.1 n))))) := by
  unfold qe; rw [if_neg (by omega), if_neg (by omega), hy]
theorem qW_setF {E : qE} {T : Nat} {u : qS} {j n : Nat} (f : Nat → Int32) (hj : (qar T)[j]? = some n) (hy : qy n < 3) : (qW E T u).set ((qob T).length + j) (E.2.2 n, .inl (E.2.1 (qy n), ql n, .inl f)) = qW E T (qsF u n f) := by
  rw [← qe_F (u := u) hy]
  exact qW_setA hj (fun _ _ => rfl) (fun m h => qe_Fo h) rfl
theorem qe_G {E : qE} {u : qS} {n : Nat} {f : Nat → Int64} (hy : qy n = 3) : qe E (qsG u n f) n = .inl (E.2.1 3, ql n, .inr (.inl f)) := by
  rw [qe_3 hy]
  show (Sum.inl (E.2.1 3, ql n, Sum.inr (Sum.inl (va_up u.2.2.1 n f n))) : va_E) = _
  unfold va_up; rw [if_pos rfl]
theorem qe_Go {E : qE} {u : qS} {n m : Nat} {f : Nat → Int64} (h : m ≠ n) : qe E (qsG u n f) m = qe E u m := by
  unfold qe
  show (Sum.inl (E.2.1 (qy m), ql m, if qy m < 3 then Sum.inl (u.2.1 m) else if qy m = 3 then Sum.inr (Sum.inl (va_up u.2.2.1 n f m)) else _) : va_E) = _
  unfold va_up; rw [if_neg h]; rfl
theorem qfs_G {E : qE} {u : qS} {n c : Nat} {f : Nat → Int64} (h : qk n = 2) : qfs E (qsG u n f) c = qfs E u c := by
  unfold qfs
  refine List.map_congr_left (fun j _ => ?_)
  unfold qv
  show (match qk (100 * c + j) with | 0 => Value.int (u.1 (100 * c + j)) | 1 => Value.long (va_up u.2.2.1 n f (100 * c + j) 0) | 2 => Value.ref (E.2.2 (100 * c + j)) | i + 3 => Value.ref (E.2.2 (100 * i + 99))) = _
  by_cases e : 100 * c + j = n
  · rw [e, h]
  · unfold va_up; rw [if_neg e]
theorem qW_setG {E : qE} {T : Nat} {u : qS} {j n : Nat} (f : Nat → Int64) (hj : (qar T)[j]? = some n) (hy : qy n = 3) : (qW E T u).set ((qob T).length + j) (E.2.2 n, .inl (E.2.1 3, ql n, .inr (.inl f))) = qW E T (qsG u n f) := by
  rw [← qe_G (u := u) hy]
  exact qW_setA hj (fun c _ => qfs_G (qar_ok T n (List.mem_of_getElem? hj))) (fun m h => qe_Go h) rfl
theorem qe_R {E : qE} {u : qS} {n t : Nat} {f : Nat → Option Nat} (hy : qy n = t) (ht : 3 < t) : qe E (qsR u n f) n = .inl (E.2.1 t, ql n, .inr (.inr (.inr (.inr f)))) := by
  rw [qe_4 hy ht]
  show (Sum.inl (E.2.1 t, ql n, Sum.inr (Sum.inr (Sum.inr (Sum.inr (va_up u.2.2.2.1 n f n))))) : va_E) = _
  unfold va_up; rw [if_pos rfl]
theorem qe_Ro {E : qE} {u : qS} {n m : Nat} {f : Nat → Option Nat} (h : m ≠ n) : qe E (qsR u n f) m = qe E u m := by
  unfold qe
  show (Sum.inl (E.2.1 (qy m), ql m, if qy m < 3 then Sum.inl (u.2.1 m) else if qy m = 3 then Sum.inr (Sum.inl (u.2.2.1 m)) else Sum.inr (Sum.inr (Sum.inr (Sum.inr (va_up u.2.2.2.1 n f m))))) : va_E) = _
  unfold va_up; rw [if_neg h]
theorem qW_setR {E : qE} {T : Nat} {u : qS} {j n t : Nat} (f : Nat → Option Nat) (hj : (qar T)[j]? = some n) (hy : qy n = t) (ht : 3 < t) : (qW E T u).set ((qob T).length + j) (E.2.2 n, .inl (E.2.1 t, ql n, .inr (.inr (.inr (.inr f))))) = qW E T (qsR u n f) := by
  rw [← qe_R (u := u) hy ht]
  exact qW_setA hj (fun _ _ => rfl) (fun m h => qe_Ro h) rfl
/-! the words: one list for all methods -/
abbrev uws (y : MethodName) (cc : ByteArray) (n : Nat) (r : Option FieldType) : List Cond := .code y cc n r :: qw_tbl
theorem uw_in {Ts : List Cond} (hT : ∀ w ∈ qw_tbl, w ∈ Ts) {y : MethodName} {cc : ByteArray} {n : Nat} {r : Option FieldType} (h : Cond.code y cc n r ∈ qw_tbl) : GoodIn Ts (uws y cc n r) := fun w hw => by
  rcases List.mem_cons.mp hw with e | h'
  · rw [e]; exact ⟨hT _ h, good_of_word (uw_g h)⟩
  · exact ⟨hT _ h', good_of_word (uw_g h')⟩
def qR (f c s : Nat) : Room := { frames := f, cells := c, slots := s, locals := 60 * f }
section QROWS
variable {p : Program} {l : Launch} {e : Env} {R : Room} {s : State} {m : MethodId} {args : Array Value} {below : List Frame} {meth : Method} {c : Code} {H H0 : Heap} {locs : List Loc} {cells slots : Nat} {Q : State → Prop}
variable {cc : ByteArray} {nL pc : Nat} {ls : Array Slot} {rest : List Value} {own : String} {Ts : List Cond} {E : qE} {A : Nat → Prop} {T : Nat} {u : qS}
/-- what a walk has at hand: the machine, the code, the words -/
def qX (p : Program) (m : MethodId) (c : Code) (cc : ByteArray) (nL : Nat) (s : State) (args : Array Value) (own : String) : Prop := p.tables.exec = Jvm.exec ∧ c.code = cc ∧ c.maxLocals = nL ∧ s.vm.findClass own = some m.cls ∧ ∀ w ∈ qw_tbl, w.before args s = true
theorem qX.fix (h : qX p m c cc nL s args own) : CallFix p m c cc nL s args qw_tbl own := h
theorem q_get (hF : qX p m c cc nL s args own) (hU : qH E A T u s H) {index : Nat} (hdg : decode cc pc = .ok (.getfield index, 3)) (i ci k n o : Nat) (hn : 100 * ci + k = n) (ho : 100 * ci + 99 = o) (hi : (qob T)[i]? = some ci) {C : String} {TT : u_T} {N : Nat} (hc : vwCl[ci]? = some (C, TT, N)) (hin : ∀ w ∈ u_ws C TT N, w ∈ qw_tbl) (hk : k < N) (hkq : k < qN ci) (hl : Cond.fieldLink own index C (TT k).2.1 (TT k).2.2.1 ∈ qw_tbl) (hsm : (TT k).1 = C) {v : Value} (hv : qv E u n = v)
    (kk : W p l e R s m args below meth c H locs cells slots Q (F0 m (pc + 3) ls (v :: rest))) : W p l e R s m args below meth c H locs cells slots Q (F0 m pc ls (.ref (E.2.2 o) :: rest)) := by
  subst hn ho
  exact va_get (D := E.1) (ci := ci) (v := v) (C := C) (T := TT) (N := N) hF.1 hF.2.1 hF.2.2.2.2 hin hF.2.2.2.1 hU.1 hU.2.1 i (fs := qfs E u ci) (qW_ob hi) hc k hk (hF.2.2.2.2 _ hl) (fun _ h9 => by rw [hsm] at h9; exact h9) (by rw [qfs_get hkq, hv]) hdg kk
theorem q_put (hF : qX p m c cc nL s args own) (hU : qH E A T u s H) (hS : va_S A H0 H locs) {index : Nat} (hdg : decode cc pc = .ok (.putfield index, 3)) (i ci k n o : Nat) (hn : 100 * ci + k = n) (ho : 100 * ci + 99 = o) (hi : (qob T)[i]? = some ci) {C : String} {TT : u_T} {N : Nat} (hc : vwCl[ci]? = some (C, TT, N)) (hin : ∀ w ∈ u_ws C TT N, w ∈ qw_tbl) (ty0 : Nat → FieldType) (hty : ∀ k, k < N → parseFieldDescriptor (TT k).2.2.1 = some (ty0 k)) (hnm : ∀ a, a < N → ∀ b, b < N → a ≠ b → (TT a).2.1 ≠ (TT b).2.1) (hk : k < N) (hkq : k < qN ci) (h0 : qk n = 0) (hl : Cond.fieldLink own index C (TT k).2.1 (TT k).2.2.1 ∈ qw_tbl) (hsm : (TT k).1 = C) (hfin : (TT k).2.2.2 = false) {x : Int32} (hnar : narrow (ty0 k) (.int x) = .int x) (hfit : fits (ty0 k) (.int x) = true)
    (kk : ∀ (H1 : Heap) (locs1 : List Loc), qH E A T (qsI u n x) s H1 → va_S A H0 H1 locs1 → W p l e R s m args below meth c H1 locs1 cells slots Q (F0 m (pc + 3) ls rest)) : W p l e R s m args below meth c H locs cells slots Q (F0 m pc ls (.int x :: .ref (E.2.2 o) :: rest)) := by
  subst hn ho
  refine va_put (D := E.1) (ci := ci) (v := .int x) (ty := ty0 k) (C := C) (T := TT) (N := N) hF.1 hF.2.1 hF.2.2.2.2 hin ty0 hty hnm hF.2.2.2.1 hU.1 hU.2.1 hU.2.2.1 hS i (fs := qfs E u ci) (qW_ob hi) hc k hk (hF.2.2.2.2 _ hl) (fun _ h9 => by rw [hsm] at h9; exact h9) hfin (hty k hk) hnar hfit (by unfold qfs; rw [List.length_map, List.length_range]; exact hkq) hdg (fun H1 locs1 h1 h2 h3 => ?_)
  rw [qW_setI x hi hkq h0] at h1 h2
  exact kk H1 locs1 ⟨hU.1, h1, h2, hU.2.2.2⟩ h3
theorem q_iald (hF : qX p m c cc nL s args own) (hU : qH E A T u s H) (hdg : decode cc pc = .ok (.iaload, 1)) (j n : Nat) (hj : (qar T)[j]? = some n) (hy : qy n = 0) {i : Int32} (hin : vp_in i (ql n)) {v : Int32} (hv : u.2.1 n i.toNatClampNeg = v)
    (kk : W p l e R s m args below meth c H locs cells slots Q (F0 m (pc + 1) ls (.int v :: rest))) : W p l e R s m args below meth c H locs cells slots Q (F0 m pc ls (.int i :: .ref (E.2.2 n) :: rest)) := by
  subst hv
  exact va_iald (D := E.1) hF.1 hF.2.1 hU.1 hU.2.1 ((qob T).length + j) 0 (cA := E.2.1 0) (n := ql n) (f := u.2.1 n) (by rw [qW_ar hj, qac, qe_0 (by omega), hy]) rfl hin hdg kk
theorem q_zald (hF : qX p m c cc nL s args own) (hU : qH E A T u s H) (hdg : decode cc pc = .ok (.baload, 1)) (j n : Nat) (hj : (qar T)[j]? = some n) (hy : qy n = 1) {i : Int32} (hin : vp_in i (ql n)) {v : Int32} (hv : u.2.1 n i.toNatClampNeg = v)
    (kk : W p l e R s m args below meth c H locs cells slots Q (F0 m (pc + 1) ls (.int v :: rest))) : W p l e R s m args below meth c H locs cells slots Q (F0 m pc ls (.int i :: .ref (E.2.2 n) :: rest)) := by
  subst hv
  exact va_zald (D := E.1) hF.1 hF.2.1 hU.1 hU.2.1 ((qob T).length + j) 1 (cA := E.2.1 1) (n := ql n) (f := u.2.1 n) (by rw [qW_ar hj, qac, qe_0 (by omega), hy]) rfl hin hdg kk
theorem q_bald (hF : qX p m c cc nL s args own) (hU : qH E A T u s H) (hdg : decode cc pc = .ok (.baload, 1)) (j n : Nat) (hj : (qar T)[j]? = some n) (hy : qy n = 2) {i : Int32} (hin : vp_in i (ql n)) {v : Int32} (hv : u.2.1 n i.toNatClampNeg = v)
    (kk : W p l e R s m args below meth c H locs cells slots Q (F0 m (pc + 1) ls (.int v :: rest))) : W p l e R s m args below meth c H locs cells slots Q (F0 m pc ls (.int i :: .ref (E.2.2 n) :: rest)) := by
  subst hv
  exact va_bald (D := E.1) hF.1 hF.2.1 hU.1 hU.2.1 ((qob T).length + j) 2 (cA := E.2.1 2) (n := ql n) (f := u.2.1 n) (by rw [qW_ar hj, qac, qe_0 (by omega), hy]) rfl hin hdg kk
theorem q_lald (hF : qX p m c cc nL s args own) (hU : qH E A T u s H) (hdg : decode cc pc = .ok (.laload, 1)) (j n : Nat) (hj : (qar T)[j]? = some n) (hy : qy n = 3) {i : Int32} (hin : vp_in i (ql n)) {v : Int64} (hv : u.2.2.1 n i.toNatClampNeg = v)
    (kk : W p l e R s m args below meth c H locs cells slots Q (F0 m (pc + 1) ls (.long v :: rest))) : W p l e R s m args below meth c H locs cells slots Q (F0 m pc ls (.int i :: .ref (E.2.2 n) :: rest)) := by
  subst hv
  exact va_lald (D := E.1) hF.1 hF.2.1 hU.1 hU.2.1 ((qob T).length + j) 3 (cA := E.2.1 3) (n := ql n) (f := u.2.2.1 n) (by rw [qW_ar hj, qac, qe_3 hy]) rfl hin hdg kk
theorem q_alen (hF : qX p m c cc nL s args own) (hU : qH E A T u s H) (hdg : decode cc pc = .ok (.arraylength, 1)) (j n : Nat) (hj : (qar T)[j]? = some n) (t : Nat) (ht : qy n = t ∧ t < 8) {v : Int32} (hv : Int32.ofNat (ql n) = v)
    (kk : W p l e R s m args below meth c H locs cells slots Q (F0 m (pc + 1) ls (.int v :: rest))) : W p l e R s m args below meth c H locs cells slots Q (F0 m pc ls (.ref (E.2.2 n) :: rest)) := by
  obtain ⟨ht, h8⟩ := ht
  have hq : ∃ ty, (qT E)[t]? = some (E.2.1 t, ty) := by
    rcases (by omega : t = 0 ∨ t = 1 ∨ t = 2 ∨ t = 3 ∨ t = 4 ∨ t = 5 ∨ t = 6 ∨ t = 7) with rfl | rfl | rfl | rfl | rfl | rfl | rfl | rfl <;> exact ⟨_, rfl⟩
  obtain ⟨ty, hq⟩ := hq
  have he : ∃ x : vp_A, (qW E T u)[(qob T).length + j]? = some (E.2.2 n, .inl (E.2.1 t, x)) ∧ x.1 = ql n := by
    rw [qW_ar hj, qac]
    unfold qe
    rw [ht]
    exact ⟨_, rfl, rfl⟩
  obtain ⟨x, he, hx1⟩ := he
  exact va_alen (D := E.1) hF.1 hF.2.1 hU.1 hU.2.1 ((qob T).length + j) t (cA := E.2.1 t) (x := x) he hq (by rw [hx1]; exact hv) hdg kk
theorem q_iast (hF : qX p m c cc nL s args own) (hU : qH E A T u s H) (hS : va_S A H0 H locs) (hdg : decode cc pc = .ok (.iastore, 1)) (j n : Nat) (hj : (qar T)[j]? = some n) (hy : qy n = 0) {i x : Int32} (hin : vp_in i (ql n))
    (kk : ∀ (f' : Nat → Int32) (H1 : Heap) (locs1 : List Loc), f' = upd (u.2.1 n) i.toNatClampNeg x → qH E A T (qsF u n f') s H1 → va_S A H0 H1 locs1 → W p l e R s m args below meth c H1 locs1 cells slots Q (F0 m (pc + 1) ls rest)) : W p l e R s m args below meth c H locs cells slots Q (F0 m pc ls (.int x :: .int i :: .ref (E.2.2 n) :: rest)) := by
  refine va_iast (D := E.1) hF.1 hF.2.1 hU.1 hU.2.1 hU.2.2.1 hS ((qob T).length + j) 0 (cA := E.2.1 0) (n := ql n) (f := u.2.1 n) (by rw [qW_ar hj, qac, qe_0 (by omega), hy]) rfl hin hdg (fun H1 locs1 h1 h2 h3 => ?_)
  rw [← hy, qW_setF _ hj (by omega)] at h1 h2
  exact kk _ H1 locs1 rfl ⟨hU.1, h1, h2, hU.2.2.2⟩ h3
theorem q_zast (hF : qX p m c cc nL s args own) (hU : qH E A T u s H) (hS : va_S A H0 H locs) (hdg : decode cc pc = .ok (.bastore, 1)) (j n : Nat) (hj : (qar T)[j]? = some n) (hy : qy n = 1) {i x : Int32} (hin : vp_in i (ql n)) {x' : Int32} (hx' : vp_nar .boolean x = x')
    (kk : ∀ (f' : Nat → Int32) (H1 : Heap) (locs1 : List Loc), f' = upd (u.2.1 n) i.toNatClampNeg x' → qH E A T (qsF u n f') s H1 → va_S A H0 H1 locs1 → W p l e R s m args below meth c H1 locs1 cells slots Q (F0 m (pc + 1) ls rest)) : W p l e R s m args below meth c H locs cells slots Q (F0 m pc ls (.int x :: .int i :: .ref (E.2.2 n) :: rest)) := by
  subst hx'
  refine va_zast (D := E.1) hF.1 hF.2.1 hU.1 hU.2.1 hU.2.2.1 hS ((qob T).length + j) 1 (cA := E.2.1 1) (n := ql n) (f := u.2.1 n) (by rw [qW_ar hj, qac, qe_0 (by omega), hy]) rfl hin hdg (fun H1 locs1 h1 h2 h3 => ?_)
  rw [← hy, qW_setF _ hj (by omega)] at h1 h2
  exact kk _ H1 locs1 rfl ⟨hU.1, h1, h2, hU.2.2.2⟩ h3
theorem q_bast (hF : qX p m c cc nL s args own) (hU : qH E A T u s H) (hS : va_S A H0 H locs) (hdg : decode cc pc = .ok (.bastore, 1)) (j n : Nat) (hj : (qar T)[j]? = some n) (hy : qy n = 2) {i x : Int32} (hin : vp_in i (ql n)) {x' : Int32} (hx' : vp_nar .byte x = x')
    (kk : ∀ (f' : Nat → Int32) (H1 : Heap) (locs1 : List Loc), f' = upd (u.2.1 n) i.toNatClampNeg x' → qH E A T (qsF u n f') s H1 → va_S A H0 H1 locs1 → W p l e R s m args below meth c H1 locs1 cells slots Q (F0 m (pc + 1) ls rest)) : W p l e R s m args below meth c H locs cells slots Q (F0 m pc ls (.int x :: .int i :: .ref (E.2.2 n) :: rest)) := by
  subst hx'
  refine va_bast (D := E.1) hF.1 hF.2.1 hU.1 hU.2.1 hU.2.2.1 hS ((qob T).length + j) 2 (cA := E.2.1 2) (n := ql n) (f := u.2.1 n) (by rw [qW_ar hj, qac, qe_0 (by omega), hy]) rfl hin hdg (fun H1 locs1 h1 h2 h3 => ?_)
  rw [← hy, qW_setF _ hj (by omega)] at h1 h2
  exact kk _ H1 locs1 rfl ⟨hU.1, h1, h2, hU.2.2.2⟩ h3
theorem q_last (hF : qX p m c cc nL s args own) (hU : qH E A T u s H) (hS : va_S A H0 H locs) (hdg : decode cc pc = .ok (.lastore, 1)) (j n : Nat) (hj : (qar T)[j]? = some n) (hy : qy n = 3) {i : Int32} {x : Int64} (hin : vp_in i (ql n))
    (kk : ∀ (f' : Nat → Int64) (H1 : Heap) (locs1 : List Loc), f' = vp_updL (u.2.2.1 n) i.toNatClampNeg x → qH E A T (qsG u n f') s H1 → va_S A H0 H1 locs1 → W p l e R s m args below meth c H1 locs1 cells slots Q (F0 m (pc + 1) ls rest)) : W p l e R s m args below meth c H locs cells slots Q (F0 m pc ls (.long x :: .int i :: .ref (E.2.2 n) :: rest)) := by
  refine va_last (D := E.1) hF.1 hF.2.1 hU.1 hU.2.1 hU.2.2.1 hS ((qob T).length + j) 3 (cA := E.2.1 3) (n := ql n) (f := u.2.2.1 n) (by rw [qW_ar hj, qac, qe_3 hy]) rfl hin hdg (fun H1 locs1 h1 h2 h3 => ?_)
  rw [qW_setG _ hj hy] at h1 h2
  exact kk _ H1 locs1 rfl ⟨hU.1, h1, h2, hU.2.2.2⟩ h3
end QROWS
/-! contracts over the world, and calls -/
def qPc (E : qE) (A : Nat → Prop) (T : Nat) (u : qS) (av : List Value) : Array Value → State → Prop := va_Pc av (fun U => qH E A T u U U.heap ∧ ∀ q : Nat, U.heap.size ≤ q → A q)
def qB (E : qE) (A : Nat → Prop) (T : Nat) (u : qS) (t : State) : Prop := qH E A T u t t.heap
def qQi (E : qE) (A : Nat → Prop) (T : Nat) (post : Int32 → qS → Prop) : Array Value → State → Outcome → State → Prop := va_Qi post (qB E A T) A
def qQl (E : qE) (A : Nat → Prop) (T : Nat) (post : Int64 → qS → Prop) : Array Value → State → Outcome → State → Prop := va_Ql post (qB E A T) A
def qQv (E : qE) (A : Nat → Prop) (T : Nat) (post : qS → Prop) : Array Value → State → Outcome → State → Prop := va_Qv post (qB E A T) A
theorem qPc_blind {E : qE} {A : Nat → Prop} {T : Nat} {u : qS} {av : List Value} : FrameBlind (qPc E A T u av) := fun a U g mk h => ⟨h.1, ⟨va_K.moved (u := U) (U := U.calling g mk a) (Vm.Alike.refl U.vm) h.2.1.1, h.2.1.2.1, h.2.1.2.2.1, h.2.1.2.2.2.same rfl⟩, h.2.2⟩
section QCALLS
variable {p : Program} {l : Launch} {e : Env} {R : Room} {s : State} {m : MethodId} {args : Array Value} {below : List Frame} {meth : Method} {c : Code} {H H0 : Heap} {locs : List Loc} {cells slots : Nat} {Q : State → Prop}
variable {cc : ByteArray} {nL pc : Nat} {ls : Array Slot} {rest st0 As : List Value} {own : String} {E : qE} {A : Nat → Prop} {T : Nat} {u : qS} {y : MethodName} {bytes : ByteArray} {maxL index mc ms f : Nat} {ret : Option FieldType}
theorem q_pre (hF : qX p m c cc nL s args own) (hU : qH E A T u s H) (hS : va_S A H0 H locs) (hA : ∀ q : Nat, H0.size ≤ q → A q) (av : List Value) : ∀ U : State, U.heap = H → s.WarmedH U.vm → qPc E A T u av av.toArray U := fun U hU' hW => ⟨rfl, ⟨va_K.moved hW.alike hU.1, by rw [hU']; exact hU.2.1, hU.2.2.1, hU.2.2.2.moved hW⟩, by rw [hU']; exact fun q h => hA q (Nat.le_trans hS.1 h)⟩
theorem q_runV {Qc : Array Value → State → Outcome → State → Prop} (hF : qX p m c cc nL s args own) (hU : qH E A T u s H) (hS : va_S A H0 H locs) (hA : ∀ q : Nat, H0.size ≤ q → A q) (n i ci o : Nat) (ho : 100 * ci + 99 = o) (hi : (qob T)[i]? = some ci) {C : String} {TT : u_T} {N : Nat} (hc : vwCl[ci]? = some (C, TT, N))
    (hM : Met l y (uws y bytes maxL ret) (qR f mc ms) (qPc E A T u (.ref (E.2.2 o) :: As)) Qc mc ms A)
    (w1 : Cond.methodLink own index y ∈ qw_tbl) (w2 : Cond.instanceMethod y ∈ qw_tbl) (w3 : Cond.selects C y y ∈ qw_tbl) (w4 : Cond.initialized C ∈ qw_tbl) (w5 : Cond.code y bytes maxL ret ∈ qw_tbl)
    (hd : y.cls = C ∧ y.cls ≠ "java/lang/invoke/MethodHandle" ∧ y.cls ≠ "java/lang/invoke/VarHandle" ∧ (parseMethodDescriptor y.desc).map (fun d => d.parameters.length) = some n) (hR : f + 1 ≤ R.frames ∧ 8 + (maxL + 11) + 60 * f ≤ R.locals)
    (hdg : decode cc pc = .ok (.invokevirtual index, 3)) (hn : As.length = n) (hsize : ls.size = nL) (hstack : st0 = As.reverse ++ .ref (E.2.2 o) :: rest) (hW : (rest.map fun v => v.category).sum ≤ 8) (hf : cells + mc ≤ R.cells ∧ slots + ms ≤ R.slots) :
    va_Run p l e R s m args below meth c H locs cells slots mc ms (F0 m pc ls st0) rest (Qc (Value.ref (E.2.2 o) :: As).toArray) A := by
  have hG : GoodIn qw_tbl (wsV own index C y (uws y bytes maxL ret)) := fun w hw => by
    rcases List.mem_append.mp hw with h | h
    · rcases List.mem_cons.mp h with e | h
      · rw [e]; exact ⟨w1, good_of_word (uw_g w1)⟩
      · rcases List.mem_cons.mp h with e | h
        · rw [e]; exact ⟨w2, good_of_word (uw_g w2)⟩
        · rcases List.mem_cons.mp h with e | h
          · rw [e]; exact ⟨w3, good_of_word (uw_g w3)⟩
          · rcases List.mem_cons.mp h with e | h
            · rw [e]; exact ⟨w4, good_of_word (uw_g w4)⟩
            · cases h
    · exact uw_in (fun _ h => h) w5 w h
  subst ho
  exact va_runV (As := As) (rest := rest) hF.fix hM (cwV n hF.2.2.2.2 hG rfl rfl rfl hd hR) ⟨qPc_blind, va_recv hU.1 hU.2.1 hc (qW_ob hi), q_pre hF hU hS hA _⟩ rfl hn hsize hstack (lv_room hW) hdg hf
theorem q_runS {Qc : Array Value → State → Outcome → State → Prop} (hF : qX p m c cc nL s args own) (hU : qH E A T u s H) (hS : va_S A H0 H locs) (hA : ∀ q : Nat, H0.size ≤ q → A q) (n : Nat)
    (hM : Met l y (uws y bytes maxL ret) (qR f mc ms) (qPc E A T u As) Qc mc ms A)
    (w1 : Cond.methodLink own index y ∈ qw_tbl) (w2 : Cond.static y ∈ qw_tbl) (w4 : Cond.initialized y.cls ∈ qw_tbl) (w5 : Cond.code y bytes maxL ret ∈ qw_tbl)
    (hd : y.cls ≠ "java/lang/invoke/MethodHandle" ∧ y.cls ≠ "java/lang/invoke/VarHandle" ∧ (parseMethodDescriptor y.desc).map (fun d => d.parameters.length) = some n) (hR : f + 1 ≤ R.frames ∧ 8 + (maxL + 11) + 60 * f ≤ R.locals)
    (hdg : decode cc pc = .ok (.invokestatic index, 3)) (hn : As.length = n) (hsize : ls.size = nL) (hstack : st0 = As.reverse ++ rest) (hW : (rest.map fun v => v.category).sum ≤ 8) (hf : cells + mc ≤ R.cells ∧ slots + ms ≤ R.slots) :
    va_Run p l e R s m args below meth c H locs cells slots mc ms (F0 m pc ls st0) rest (Qc As.toArray) A :=
  va_runS (As := As) (rest := rest) hF.fix hM ⟨callB_of n hF.2.2.2.2 (uw_in (fun _ h => h) w5) rfl rfl rfl (hF.2.2.2.2 _ w4) (hF.2.2.2.2 _ w1) hd hR, hF.2.2.2.2 _ w2⟩ ⟨qPc_blind, q_pre hF hU hS hA _⟩ rfl hn hsize hstack (lv_room hW) hdg hf
theorem q_runSN {Qc : Array Value → State → Outcome → State → Prop} {host : String} (hF : qX p m c cc nL s args own) (hU : qH E A T u s H) (hS : va_S A H0 H locs) (hA : ∀ q : Nat, H0.size ≤ q → A q) (n : Nat)
    (hM : Met l y (uws y bytes maxL ret) (qR f mc ms) (qPc E A T u As) Qc mc ms A)
    (w1 : va_Nw (.methodLinkNest own index y host) s) (w2 : Cond.static y ∈ qw_tbl) (w4 : Cond.initialized y.cls ∈ qw_tbl) (w5 : Cond.code y bytes maxL ret ∈ qw_tbl)
    (hd : y.cls ≠ "java/lang/invoke/MethodHandle" ∧ y.cls ≠ "java/lang/invoke/VarHandle" ∧ (parseMethodDescriptor y.desc).map (fun d => d.parameters.length) = some n) (hR : f + 1 ≤ R.frames ∧ 8 + (maxL + 11) + 60 * f ≤ R.locals)
    (hdg : decode cc pc = .ok (.invokestatic index, 3)) (hn : As.length = n) (hsize : ls.size = nL) (hstack : st0 = As.reverse ++ rest) (hW : (rest.map fun v => v.category).sum ≤ 8) (hf : cells + mc ≤ R.cells ∧ slots + ms ≤ R.slots) :
    va_Run p l e R s m args below meth c H locs cells slots mc ms (F0 m pc ls st0) rest (Qc As.toArray) A :=
  va_runSN (As := As) (rest := rest) hF.fix hM ⟨va_cnB n hF.2.2.2.2 (uw_in (fun _ h => h) w5) rfl rfl rfl w1 (hF.2.2.2.2 _ w4) hd hR, hF.2.2.2.2 _ w2, trivial⟩ ⟨qPc_blind, q_pre hF hU hS hA _⟩ rfl hn hsize hstack (lv_room hW) hdg hf
theorem q_calli {post : Int32 → qS → Prop} {a : Array Value} (hr : va_Run p l e R s m args below meth c H locs cells slots mc ms (F0 m pc ls st0) rest (qQi E A T post a) A) (hN : qNs s) (hS : va_S A H0 H locs)
    (kk : ∀ (r : Int32) (u' : qS) (H1 : Heap) (locs1 : List Loc), post r u' → qH E A T u' s H1 → va_S A H0 H1 locs1 → W p l e R s m args below meth c H1 locs1 (cells + mc) (slots + ms) Q (F0 m (pc + 3) ls (.int r :: rest))) : W p l e R s m args below meth c H locs cells slots Q (F0 m pc ls st0) :=
  va_calli hr hS (fun _ _ h => h) (fun _ h => h) (fun r u' t H1 locs1 ht hvm hw hB _ _ hS1 => kk r u' H1 locs1 hw ⟨va_K.moved hvm.symm hB.1, by rw [← ht]; exact hB.2.1, hB.2.2.1, hN⟩ hS1)
theorem q_callv {post : qS → Prop} {a : Array Value} (hr : va_Run p l e R s m args below meth c H locs cells slots mc ms (F0 m pc ls st0) rest (qQv E A T post a) A) (hN : qNs s) (hS : va_S A H0 H locs)
    (kk : ∀ (u' : qS) (H1 : Heap) (locs1 : List Loc), post u' → qH E A T u' s H1 → va_S A H0 H1 locs1 → W p l e R s m args below meth c H1 locs1 (cells + mc) (slots + ms) Q (F0 m (pc + 3) ls rest)) : W p l e R s m args below meth c H locs cells slots Q (F0 m pc ls st0) :=
  va_callv hr hS (fun _ _ h => h) (fun _ h => h) (fun u' t H1 locs1 ht hvm hw hB _ _ hS1 => kk u' H1 locs1 hw ⟨va_K.moved hvm.symm hB.1, by rw [← ht]; exact hB.2.1, hB.2.2.1, hN⟩ hS1)
theorem q_iret {post : Int32 → qS → Prop} {ty : FieldType} {x : Int32} (hF : qX p m c cc nL s args own) (hr : meth.sig.returnType = some ty) (hn : narrow ty (.int x) = .int x) (hlocks : meth.locks = false) (hU : qH E A T u s H) (hS : va_S A s.heap H locs) (hdg : decode cc pc = .ok (.ireturn, 1)) (hp : post x u) : W p l e R s m args below meth c H locs cells slots (MQ below (qQi E A T post) args s cells slots A) (F0 m pc ls [.int x]) :=
  W.zret (v := x) hF.1 hF.2.1 hr hn (fun t ht hW => ⟨⟨x, u, rfl, hp, va_K.moved hW.alike hU.1, by rw [ht]; exact hU.2.1, hU.2.2.1, hU.2.2.2.moved hW⟩, hS.F ht⟩) hS.2.2 hdg hlocks
theorem q_vret {post : qS → Prop} (hF : qX p m c cc nL s args own) (hr : meth.sig.returnType = none) (hlocks : meth.locks = false) (hU : qH E A T u s H) (hS : va_S A s.heap H locs) (hdg : decode cc pc = .ok (.return_, 1)) (hp : post u) : W p l e R s m args below meth c H locs cells slots (MQ below (qQv E A T post) args s cells slots A) (F0 m pc ls []) :=
  W.vret hF.1 hF.2.1 hr (fun t ht hW => ⟨⟨u, rfl, hp, va_K.moved hW.alike hU.1, by rw [ht]; exact hU.2.1, hU.2.2.1, hU.2.2.2.moved hW⟩, hS.F ht⟩) hS.2.2 hdg hlocks
/-- a contract out of a walk from the entry -/
theorem q_met {Qc : Array Value → State → Outcome → State → Prop} {mcR msR : Nat} (av : List Value) (hy : plainName y.cls = true) (hlen : (lg_sl av).length ≤ maxL) (hcls : y.cls = own)
    (body : ∀ (p : Program) (e : Env) (s : State) (m : MethodId) (below : List Frame) (meth : Method) (c : Code) (ls : Array Slot), qX p m c bytes maxL s av.toArray own → meth.sig.returnType = ret → meth.locks = false → qH E A T u s s.heap → va_S A s.heap s.heap [] → (∀ q : Nat, s.heap.size ≤ q → A q) → lv_has ls maxL (lv_args 0 av) →
      W p l e (qR f mcR msR) s m av.toArray below meth c s.heap [] 0 0 (MQ below Qc av.toArray s mc ms A) (F0 m 0 ls [])) : Met l y (uws y bytes maxL ret) (qR f mcR msR) (qPc E A T u av) Qc mc ms A := by
  refine Met.ofW (cc := bytes) (maxL := maxL) (ret := ret) hy rfl ?_
  intro p e s m args below meth c s₁ B hml hv
  obtain ⟨rfl, hU, hA⟩ := hv
  have hts := atoms_spec (ws := uws y bytes maxL ret) B.pre
  have hown : s.vm.findClass own = some m.cls := by rw [← hcls]; exact findClass_of_methodNamed B.named
  have hl := lv_entry av (n := maxL) hlen
  rw [lg_entry_eq]
  exact body p e s m below meth c _ ⟨B.exec, B.bytes, hml, hown, fun w h => hts w (List.mem_cons_of_mem _ h)⟩ B.returns B.notSynchronized hU va_S.rf hA hl
end QCALLS
theorem q_in {i : Int32} {n : Nat} (h : ¬ (i < 0 ∨ n ≤ i.toNatClampNeg)) : vp_in i n := h
section QTOP
variable {p : Program} {l : Launch} {e : Env} {R : Room} {s : State} {m : MethodId} {args : Array Value} {below : List Frame} {meth : Method} {c : Code} {H : Heap} {locs : List Loc} {cells slots : Nat} {Q : State → Prop} {pc : Nat} {ls : Array Slot} {rest : List Value}
theorem q_topi {x y : Int32} (h : x = y) (k : W p l e R s m args below meth c H locs cells slots Q (F0 m pc ls (.int y :: rest))) : W p l e R s m args below meth c H locs cells slots Q (F0 m pc ls (.int x :: rest)) := by
  rw [h]; exact k
end QTOP
