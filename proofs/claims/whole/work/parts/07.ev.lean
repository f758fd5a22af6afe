/-! the texts: those that are read in (their bytes are known), then the messages -/
def am_nS : Nat := 22
def am_lens : List Nat := [1, 5, 4, 4, 4, 4, 4, 4, 5, 2, 3, 1, 1, 5, 6, 4, 6, 1, 1, 1, 3, 2]
def am_byts : List (List Int32) := [[59], [104, 111, 117, 115, 101], [100, 101, 97, 102], [119, 97, 110, 116], [99, 111, 100, 101], [110, 111, 110, 101], [119, 105, 110, 100], [103, 97, 108, 101], [102, 105, 114, 115, 116], [105, 102], [110, 111, 116], [40], [41], [99, 111, 105, 110, 115], [117, 114, 103, 101, 110, 116], [99, 111, 115, 116], [119, 97, 105, 116, 101, 100], [43], [60], [62], [97, 110, 100], [111, 114]]
def am_sts : List (String × Nat × String × Nat) := [("BellTown$Reader", 44, ";", 0), ("BellTown$TownText", 34, "house", 1), ("BellTown$TownText", 98, "deaf", 2), ("BellTown$TownText", 43, "want", 3), ("BellTown$TownText", 48, "code", 4), ("BellTown$TownText", 57, "none", 5), ("BellTown$TownText", 59, "wind", 6), ("BellTown$TownText", 65, "gale", 7), ("BellTown", 107, "the text is wrong", 22), ("BellTown", 117, "there are 10 texts", 23), ("BellTown$LawText", 31, "first", 8), ("BellTown$LawText", 44, "if", 9), ("BellTown$LawText", 68, "not", 10), ("BellTown$LawText", 73, "(", 11), ("BellTown$LawText", 78, ")", 12), ("BellTown$LawText", 98, "house", 1), ("BellTown$LawText", 100, "coins", 13), ("BellTown$LawText", 102, "urgent", 14), ("BellTown$LawText", 104, "cost", 15), ("BellTown$LawText", 106, "waited", 16), ("BellTown$LawText", 96, "+", 17), ("BellTown$LawText", 84, "<", 18), ("BellTown$LawText", 86, ">", 19), ("BellTown$LawText", 64, "and", 20), ("BellTown$LawText", 66, "or", 21), ("BellTown", 387, "no such house", 24), ("BellTown", 162, "a house has what 0 to 5", 25), ("BellTown", 393, "no such want", 26), ("BellTown", 397, "a word is 2 to 511", 27), ("BellTown", 191, "a way has what 0 to 3", 28), ("BellTown", 401, "a minute is 0 to 999", 29), ("BellTown", 196, "the house has no word for it", 30), ("BellTown", 403, "there are 12 ringings", 31), ("BellTown", 395, "no such ringing", 32), ("BellTown", 234, "a distance is 0 to 8", 33), ("BellTown", 249, "both houses are one", 34), ("BellTown", 399, "the first house has no word for it", 35), ("BellTown", 405, "six o'clock has what 0 and 1", 36), ("BellTown", 289, "the house has a word for it", 37), ("BellTown", 304, "the tape is not strokes, a blank and wants", 38), ("BellTown", 309, "no such kind came", 39), ("BellTown", 320, "a word has 1 to 8 strokes", 40), ("BellTown", 339, "the minutes are not 0 to 60 apart", 41), ("BellTown", 348, "an evening has 1 to 12 ringings", 42), ("BellTown", 350, "an evening has what 0 to 3", 43), ("BellTownModel", 152, "house", 1), ("BellTownModel", 144, "deaf", 2), ("BellTownModel", 158, "want", 3), ("BellTownModel", 163, "code", 4), ("BellTownModel", 169, "none", 5), ("BellTownModel", 171, "wind", 6), ("BellTownModel", 177, "gale", 7), ("BellTownModel", 221, "first", 8), ("BellTownModel", 223, "if", 9), ("BellTownModel", 206, "not", 10), ("BellTownModel", 186, "coins", 13), ("BellTownModel", 188, "urgent", 14), ("BellTownModel", 190, "cost", 15), ("BellTownModel", 192, "waited", 16), ("BellTownModel", 214, "and", 20), ("BellTownModel", 219, "or", 21)]
/-! the words that every method is given: all good words of the tables; the others are facts of their own -/
def am_G : List Cond := lw_tbl.filter goodWord
theorem am_G_t {i : Nat} {w : Cond} (h : tables_1[i]? = some w) (g : goodWord w = true) : w ∈ am_G :=
  List.mem_filter.mpr ⟨List.mem_append_right _ (List.mem_of_getElem? h), g⟩
theorem am_G_p {i : Nat} {q : MethodName × Nat} (h : lw_privs[i]? = some q) : Cond.selects q.1.cls q.1 q.1 ∈ am_G :=
  List.mem_filter.mpr ⟨List.mem_append_left _ (List.mem_map.mpr ⟨q, List.mem_of_getElem? h, rfl⟩), rfl⟩
theorem am_G_good {w : Cond} (h : w ∈ am_G) : goodWord w = true := (List.mem_filter.mp h).2
def am_isN : Cond → Bool
  | .fieldLinkNest _ _ _ _ _ _ => true
  | .methodLinkNest _ _ _ _ => true
  | .declares _ => true
  | .castable _ _ => true
  | _ => false
def am_nw : List Cond := tables_1.filter am_isN
theorem am_nw_t {i : Nat} {w : Cond} (h : tables_1[i]? = some w) (g : am_isN w = true) : w ∈ am_nw := List.mem_filter.mpr ⟨List.mem_of_getElem? h, g⟩
theorem am_nw_on {w : Cond} (h : am_isN w = true) : w.onTables = true := by
  cases w <;> first | rfl | (simp [am_isN] at h)
theorem am_nw_warm {w : Cond} (h : am_isN w = true) {s U : State} (hW : s.WarmedH U.vm) (hz : va_Nw w s) : va_Nw w U := by
  cases w <;> first | exact va_Nw.warmF hW hz | exact va_Nw.warmM hW hz | exact va_Nw.warmD hW hz | exact va_Nw.warmC hW hz | (simp [am_isN] at h)
/-- the exceptions -/
def am_exs : List String := ["java/lang/IndexOutOfBoundsException", "java/lang/IllegalArgumentException", "java/lang/UnsupportedOperationException", "java/util/NoSuchElementException"]
def am_ex (k : Nat) : String := am_exs.getD k ""
/-- what lies in the heap and never changes: the texts, the script, the statics that are read -/
def am_H (E : am_E) (s : State) (H : Heap) : Prop := vk_S am_nS am_lens am_byts (fun k => E.1 (1000 + k)) (fun k => E.1 (2000 + k)) (am_A E) s H ∧ va_X (E.1 900) E.2.2.2.2.2.1 E.2.2.2.2.2.2 s H ∧ E.1 900 < E.2.2.2.1 ∧ E.2.2.2.1 ≤ H.size ∧
  vx_Zq Bundle.tN "UNASSIGNED_STACK" Bundle.steD (am_A E) s H ∧ vx_Zq Bundle.tN "SUPPRESSED_SENTINEL" Bundle.listD (am_A E) s H ∧ va_Z "java/lang/String" "COMPACT_STRINGS" "Z" (.int 1) (am_A E) s H ∧
  ∃ v : Value, (v = .null ∨ v = .ref (E.1 950)) ∧ va_Z "jdk/internal/util/Preconditions" "SIOOBE_FORMATTER" "Ljava/util/function/BiFunction;" v (am_A E) s H
/-- what holds of the machine wherever a method of ours begins -/
def am_I (E : am_E) (s : State) : Prop := va_K E.2.1 vwCl (am_tys E) s ∧ am_D E ∧ (∀ w ∈ am_nw, va_Nw w s) ∧ (∀ q ∈ am_sts, vk_R q.1 q.2.1 q.2.2.1 (E.1 (1000 + q.2.2.2)) s) ∧ (∀ i j, i < 4 → j < 4 → i ≠ j → va_Nc (am_ex i) (am_ex j) s) ∧ am_H E s s.heap
theorem am_H.to {E : am_E} {s U : State} {H H1 : Heap} (hvm : s.vm.Alike U.vm) (hz : H.size ≤ H1.size) (hq : ∀ a : Nat, a < H.size → ¬ am_A E a → H1[a]? = H[a]?) (h : am_H E s H) : am_H E U H1 := by
  obtain ⟨h1, h2, h3, h4, h5, h6, h7, v, hv, h8⟩ := h
  exact ⟨(h1.kept hq).moved hvm, (h2.kept (hq _ (Nat.lt_of_lt_of_le h3 h4) (Nat.not_le.mpr h3))).moved hvm, h3, Nat.le_trans h4 hz, (h5.kept hq).moved hvm, (h6.kept hq).moved hvm, (h7.kept hq).moved hvm, v, hv, (h8.kept hq).moved hvm⟩
theorem am_I.to {E : am_E} {s U : State} (hW : s.WarmedH U.vm) (hz : s.heap.size ≤ U.heap.size) (hq : ∀ a : Nat, a < s.heap.size → ¬ am_A E a → U.heap[a]? = s.heap[a]?) (h : am_I E s) : am_I E U := by
  obtain ⟨h1, h2, h3, h4, h5, h6⟩ := h
  exact ⟨h1.moved hW.alike, h2, fun w hw => am_nw_warm (List.mem_filter.mp hw).2 hW (h3 w hw), fun q hq' => vk_R.warm hW (h4 q hq'), fun i j hi hj hn => (h5 i j hi hj hn).moved hW.alike, h6.to hW.alike hz hq⟩
/-- a method: its class, code, locals, answer's type, handlers, room -/
abbrev am_Y : Type := String × ByteArray × Nat × Option FieldType × List (Nat × Nat × Nat × Nat) × Room
def am_C (E : am_E) (Y : am_Y) (p : Program) (l : Launch) (s : State) (m : MethodId) (args : Array Value) (meth : Method) (c : Code) : Prop :=
  p.tables.exec = Jvm.exec ∧ c.code = Y.2.1 ∧ c.maxLocals = Y.2.2.1 ∧ meth.sig.returnType = Y.2.2.2.1 ∧ meth.locks = false ∧ s.vm.findClass Y.1 = some m.cls ∧ (∀ w ∈ am_G, w.before args s = true) ∧ l.stackTraces = false ∧ am_I E s ∧ c.exceptionTable.toList = tableOf Y.2.2.2.2.1
/-- FROM HERE THE METHOD DOES WHAT e SAYS: if e is some r, the machine comes to an end with r -/
def am_Ev {β : Type} (E : am_E) (l : Launch) (Y : am_Y) (Z : List Frame → Array Value → State → β → State → Prop) (cs sl pc : Nat) (L : List (Option Value)) (st : List Value) (S : am_S) (e : Option β) : Prop :=
  ∀ r, e = some r → ∀ (p : Program) (en : Env) (s : State) (m : MethodId) (args : Array Value) (below : List Frame) (meth : Method) (c : Code), am_C E Y p l s m args meth c →
    ∀ (H : Heap) (locs : List Loc) (ls : Array Slot), va_P E.2.1 vwCl (am_ws E S) H → va_S (am_A E) s.heap H locs → am_has E ls Y.2.2.1 L →
      W p l en Y.2.2.2.2.2 s m args below meth c H locs cs sl (Z below args s r) (F0 m pc ls (st.map (am_v E)))
section EV
variable {β : Type} {E : am_E} {l : Launch} {Y : am_Y} {Z : List Frame → Array Value → State → β → State → Prop} {cs sl pc : Nat} {L : List (Option Value)} {st : List Value} {S : am_S} {e e1 e2 : Option β}
/-- a case is made where nothing is done -/
theorem ev_split {q : Prop} {hq : Decidable q} (kt : q → am_Ev E l Y Z cs sl pc L st S e1) (kf : ¬ q → am_Ev E l Y Z cs sl pc L st S e2) : am_Ev E l Y Z cs sl pc L st S (@ite _ q hq e1 e2) := by
  intro r hr
  by_cases h : q
  · rw [if_pos h] at hr; exact kt h r hr
  · rw [if_neg h] at hr; exact kf h r hr
theorem ev_none : am_Ev E l Y Z cs sl pc L st S none := fun r hr => nomatch hr
theorem ev_eq (h : e1 = e2) (k : am_Ev E l Y Z cs sl pc L st S e2) : am_Ev E l Y Z cs sl pc L st S e1 := h ▸ k
theorem ev_iload {k : Nat} {x : Int32} (hd : decode Y.2.1 pc = .ok (.iload k, 2)) (hv : L[k]? = some (some (.int x))) (kk : am_Ev E l Y Z cs sl (pc + 2) L (.int x :: st) S e) : am_Ev E l Y Z cs sl pc L st S e := by
  intro r hr p en s m args below meth c C H locs ls hP hS hl
  exact lv_iload C.1 C.2.1 hd (hl.2.2 k _ hv).2 (kk r hr p en s m args below meth c C H locs ls hP hS hl)
theorem ev_iload_n {k : Fin 4} {x : Int32} (hd : decode Y.2.1 pc = .ok (.iload_n k, 1)) (hv : L[(k : Nat)]? = some (some (.int x))) (kk : am_Ev E l Y Z cs sl (pc + 1) L (.int x :: st) S e) : am_Ev E l Y Z cs sl pc L st S e := by
  intro r hr p en s m args below meth c C H locs ls hP hS hl
  exact lv_iload_n C.1 C.2.1 hd rfl (hl.2.2 k _ hv).2 (kk r hr p en s m args below meth c C H locs ls hP hS hl)
theorem ev_aload {k : Nat} {x : Nat} (hd : decode Y.2.1 pc = .ok (.aload k, 2)) (hv : L[k]? = some (some (.ref x))) (kk : am_Ev E l Y Z cs sl (pc + 2) L (.ref x :: st) S e) : am_Ev E l Y Z cs sl pc L st S e := by
  intro r hr p en s m args below meth c C H locs ls hP hS hl
  exact lv_aload C.1 C.2.1 hd (hl.2.2 k _ hv).2 (kk r hr p en s m args below meth c C H locs ls hP hS hl)
theorem ev_aload_n {k : Fin 4} {x : Nat} (hd : decode Y.2.1 pc = .ok (.aload_n k, 1)) (hv : L[(k : Nat)]? = some (some (.ref x))) (kk : am_Ev E l Y Z cs sl (pc + 1) L (.ref x :: st) S e) : am_Ev E l Y Z cs sl pc L st S e := by
  intro r hr p en s m args below meth c C H locs ls hP hS hl
  exact lv_aload_n C.1 C.2.1 hd rfl (hl.2.2 k _ hv).2 (kk r hr p en s m args below meth c C H locs ls hP hS hl)
theorem ev_iconst {n : Int} {v : Int32} (hd : decode Y.2.1 pc = .ok (.iconst n, 1)) (hv : Int32.ofInt n = v) (kk : am_Ev E l Y Z cs sl (pc + 1) L (.int v :: st) S e) : am_Ev E l Y Z cs sl pc L st S e := by
  intro r hr p en s m args below meth c C H locs ls hP hS hl
  exact lv_iconst C.1 C.2.1 hd hv (kk r hr p en s m args below meth c C H locs ls hP hS hl)
theorem ev_bipush {n : Int} {v : Int32} (hd : decode Y.2.1 pc = .ok (.bipush n, 2)) (hv : (Int8.ofInt n).toInt32 = v) (kk : am_Ev E l Y Z cs sl (pc + 2) L (.int v :: st) S e) : am_Ev E l Y Z cs sl pc L st S e := by
  intro r hr p en s m args below meth c C H locs ls hP hS hl
  exact lv_bipush C.1 C.2.1 hd hv (kk r hr p en s m args below meth c C H locs ls hP hS hl)
theorem ev_sipush {n : Int} {v : Int32} (hd : decode Y.2.1 pc = .ok (.sipush n, 3)) (hv : (Int16.ofInt n).toInt32 = v) (kk : am_Ev E l Y Z cs sl (pc + 3) L (.int v :: st) S e) : am_Ev E l Y Z cs sl pc L st S e := by
  intro r hr p en s m args below meth c C H locs ls hP hS hl
  exact lv_sipush C.1 C.2.1 hd hv (kk r hr p en s m args below meth c C H locs ls hP hS hl)
theorem ev_lconst {n : Fin 2} {v : Int64} (hd : decode Y.2.1 pc = .ok (.lconst n, 1)) (hv : Int64.ofNat (n : Nat) = v) (kk : am_Ev E l Y Z cs sl (pc + 1) L (.long v :: st) S e) : am_Ev E l Y Z cs sl pc L st S e := by
  intro r hr p en s m args below meth c C H locs ls hP hS hl
  exact lv_lconst C.1 C.2.1 hd hv (kk r hr p en s m args below meth c C H locs ls hP hS hl)
theorem ev_iadd {x y : Int32} (hd : decode Y.2.1 pc = .ok (.iadd, 1)) (kk : am_Ev E l Y Z cs sl (pc + 1) L (.int (x + y) :: st) S e) : am_Ev E l Y Z cs sl pc L (.int y :: .int x :: st) S e := by
  intro r hr p en s m args below meth c C H locs ls hP hS hl
  exact lv_iadd C.1 C.2.1 hd (kk r hr p en s m args below meth c C H locs ls hP hS hl)
theorem ev_isub {x y : Int32} (hd : decode Y.2.1 pc = .ok (.isub, 1)) (kk : am_Ev E l Y Z cs sl (pc + 1) L (.int (x - y) :: st) S e) : am_Ev E l Y Z cs sl pc L (.int y :: .int x :: st) S e := by
  intro r hr p en s m args below meth c C H locs ls hP hS hl
  exact lv_isub C.1 C.2.1 hd (kk r hr p en s m args below meth c C H locs ls hP hS hl)
theorem ev_imul {x y : Int32} (hd : decode Y.2.1 pc = .ok (.imul, 1)) (kk : am_Ev E l Y Z cs sl (pc + 1) L (.int (x * y) :: st) S e) : am_Ev E l Y Z cs sl pc L (.int y :: .int x :: st) S e := by
  intro r hr p en s m args below meth c C H locs ls hP hS hl
  exact lv_imul C.1 C.2.1 hd (kk r hr p en s m args below meth c C H locs ls hP hS hl)
theorem ev_iand {x y : Int32} (hd : decode Y.2.1 pc = .ok (.iand, 1)) (kk : am_Ev E l Y Z cs sl (pc + 1) L (.int (x &&& y) :: st) S e) : am_Ev E l Y Z cs sl pc L (.int y :: .int x :: st) S e := by
  intro r hr p en s m args below meth c C H locs ls hP hS hl
  exact lv_iand C.1 C.2.1 hd (kk r hr p en s m args below meth c C H locs ls hP hS hl)
theorem ev_ior {x y : Int32} (hd : decode Y.2.1 pc = .ok (.ior, 1)) (kk : am_Ev E l Y Z cs sl (pc + 1) L (.int (x ||| y) :: st) S e) : am_Ev E l Y Z cs sl pc L (.int y :: .int x :: st) S e := by
  intro r hr p en s m args below meth c C H locs ls hP hS hl
  exact lv_ior C.1 C.2.1 hd (kk r hr p en s m args below meth c C H locs ls hP hS hl)
theorem ev_ixor {x y : Int32} (hd : decode Y.2.1 pc = .ok (.ixor, 1)) (kk : am_Ev E l Y Z cs sl (pc + 1) L (.int (x ^^^ y) :: st) S e) : am_Ev E l Y Z cs sl pc L (.int y :: .int x :: st) S e := by
  intro r hr p en s m args below meth c C H locs ls hP hS hl
  exact lv_ixor C.1 C.2.1 hd (kk r hr p en s m args below meth c C H locs ls hP hS hl)
theorem ev_ishl {x y : Int32} (hd : decode Y.2.1 pc = .ok (.ishl, 1)) (kk : am_Ev E l Y Z cs sl (pc + 1) L (.int (x <<< (y &&& 31)) :: st) S e) : am_Ev E l Y Z cs sl pc L (.int y :: .int x :: st) S e := by
  intro r hr p en s m args below meth c C H locs ls hP hS hl
  exact lv_ishl C.1 C.2.1 hd (kk r hr p en s m args below meth c C H locs ls hP hS hl)
theorem ev_ishr {x y : Int32} (hd : decode Y.2.1 pc = .ok (.ishr, 1)) (kk : am_Ev E l Y Z cs sl (pc + 1) L (.int (x >>> (y &&& 31)) :: st) S e) : am_Ev E l Y Z cs sl pc L (.int y :: .int x :: st) S e := by
  intro r hr p en s m args below meth c C H locs ls hP hS hl
  exact lv_ishr C.1 C.2.1 hd (kk r hr p en s m args below meth c C H locs ls hP hS hl)
theorem ev_iushr {x y : Int32} (hd : decode Y.2.1 pc = .ok (.iushr, 1)) (kk : am_Ev E l Y Z cs sl (pc + 1) L (.int (x.toUInt32 >>> (y.toUInt32 &&& Int32.toUInt32 31)).toInt32 :: st) S e) : am_Ev E l Y Z cs sl pc L (.int y :: .int x :: st) S e := by
  intro r hr p en s m args below meth c C H locs ls hP hS hl
  exact lv_iushr C.1 C.2.1 hd rfl (kk r hr p en s m args below meth c C H locs ls hP hS hl)
theorem ev_idiv {x y : Int32} (hd : decode Y.2.1 pc = .ok (.idiv, 1)) (hne : ¬ y = 0) (kk : am_Ev E l Y Z cs sl (pc + 1) L (.int (x / y) :: st) S e) : am_Ev E l Y Z cs sl pc L (.int y :: .int x :: st) S e := by
  intro r hr p en s m args below meth c C H locs ls hP hS hl
  exact lv_idiv C.1 C.2.1 hd hne (kk r hr p en s m args below meth c C H locs ls hP hS hl)
theorem ev_irem {x y : Int32} (hd : decode Y.2.1 pc = .ok (.irem, 1)) (hne : ¬ y = 0) (kk : am_Ev E l Y Z cs sl (pc + 1) L (.int (x - x / y * y) :: st) S e) : am_Ev E l Y Z cs sl pc L (.int y :: .int x :: st) S e := by
  intro r hr p en s m args below meth c C H locs ls hP hS hl
  exact lv_irem C.1 C.2.1 hd hne (kk r hr p en s m args below meth c C H locs ls hP hS hl)
theorem ev_ineg {x : Int32} (hd : decode Y.2.1 pc = .ok (.ineg, 1)) (kk : am_Ev E l Y Z cs sl (pc + 1) L (.int (-x) :: st) S e) : am_Ev E l Y Z cs sl pc L (.int x :: st) S e := by
  intro r hr p en s m args below meth c C H locs ls hP hS hl
  exact lv_ineg C.1 C.2.1 hd (kk r hr p en s m args below meth c C H locs ls hP hS hl)
theorem ev_i2b {x : Int32} (hd : decode Y.2.1 pc = .ok (.i2b, 1)) (kk : am_Ev E l Y Z cs sl (pc + 1) L (.int x.toInt8.toInt32 :: st) S e) : am_Ev E l Y Z cs sl pc L (.int x :: st) S e := by
  intro r hr p en s m args below meth c C H locs ls hP hS hl
  exact lv_i2b C.1 C.2.1 hd rfl (kk r hr p en s m args below meth c C H locs ls hP hS hl)
theorem ev_i2s {x : Int32} (hd : decode Y.2.1 pc = .ok (.i2s, 1)) (kk : am_Ev E l Y Z cs sl (pc + 1) L (.int x.toInt16.toInt32 :: st) S e) : am_Ev E l Y Z cs sl pc L (.int x :: st) S e := by
  intro r hr p en s m args below meth c C H locs ls hP hS hl
  exact lv_i2s C.1 C.2.1 hd rfl (kk r hr p en s m args below meth c C H locs ls hP hS hl)
theorem ev_i2l {x : Int32} (hd : decode Y.2.1 pc = .ok (.i2l, 1)) (kk : am_Ev E l Y Z cs sl (pc + 1) L (.long x.toInt64 :: st) S e) : am_Ev E l Y Z cs sl pc L (.int x :: st) S e := by
  intro r hr p en s m args below meth c C H locs ls hP hS hl
  exact lv_i2l C.1 C.2.1 hd rfl (kk r hr p en s m args below meth c C H locs ls hP hS hl)
theorem ev_lcmp {x y : Int64} (hd : decode Y.2.1 pc = .ok (.lcmp, 1)) (kk : am_Ev E l Y Z cs sl (pc + 1) L (.int (lg_cmp x y) :: st) S e) : am_Ev E l Y Z cs sl pc L (.long y :: .long x :: st) S e := by
  intro r hr p en s m args below meth c C H locs ls hP hS hl
  exact W.lcmp C.1 C.2.1 hd (kk r hr p en s m args below meth c C H locs ls hP hS hl)
theorem ev_dup {v : Value} (hd : decode Y.2.1 pc = .ok (.dup, 1)) (hc : v.category = 1) (kk : am_Ev E l Y Z cs sl (pc + 1) L (v :: v :: st) S e) : am_Ev E l Y Z cs sl pc L (v :: st) S e := by
  intro r hr p en s m args below meth c C H locs ls hP hS hl
  exact lv_dup C.1 C.2.1 hd (am_cat hc) (kk r hr p en s m args below meth c C H locs ls hP hS hl)
theorem ev_dup2 {v w : Value} (hd : decode Y.2.1 pc = .ok (.dup2, 1)) (hc : v.category = 1) (hw : w.category = 1) (kk : am_Ev E l Y Z cs sl (pc + 1) L (v :: w :: v :: w :: st) S e) : am_Ev E l Y Z cs sl pc L (v :: w :: st) S e := by
  intro r hr p en s m args below meth c C H locs ls hP hS hl
  exact lv_dup2_11 C.1 C.2.1 hd (am_cat hc) (am_cat hw) (kk r hr p en s m args below meth c C H locs ls hP hS hl)
theorem ev_pop {v : Value} (hd : decode Y.2.1 pc = .ok (.pop, 1)) (hc : v.category = 1) (kk : am_Ev E l Y Z cs sl (pc + 1) L st S e) : am_Ev E l Y Z cs sl pc L (v :: st) S e := by
  intro r hr p en s m args below meth c C H locs ls hP hS hl
  exact lv_pop C.1 C.2.1 hd (am_cat hc) (kk r hr p en s m args below meth c C H locs ls hP hS hl)
theorem ev_goto {off : Int} {tgt : Nat} (hd : decode Y.2.1 pc = .ok (.goto off, 3)) (ht : (pc : Int) + off = (tgt : Int)) (kk : am_Ev E l Y Z cs sl tgt L st S e) : am_Ev E l Y Z cs sl pc L st S e := by
  intro r hr p en s m args below meth c C H locs ls hP hS hl
  exact lv_goto C.1 C.2.1 hd ht (kk r hr p en s m args below meth c C H locs ls hP hS hl)
theorem ev_ldcI {idx : Nat} {v : Int32} (hd : decode Y.2.1 pc = .ok (.ldc idx, 2)) (hw : Cond.constant Y.1 idx v ∈ am_G) (kk : am_Ev E l Y Z cs sl (pc + 2) L (.int v :: st) S e) : am_Ev E l Y Z cs sl pc L st S e := by
  intro r hr p en s m args below meth c C H locs ls hP hS hl
  exact lv_ldc C.1 C.2.1 C.2.2.2.2.2.1 (C.2.2.2.2.2.2.1 _ hw) hd (kk r hr p en s m args below meth c C H locs ls hP hS hl)
theorem ev_ldcwI {idx : Nat} {v : Int32} (hd : decode Y.2.1 pc = .ok (.ldc_w idx, 3)) (hw : Cond.constant Y.1 idx v ∈ am_G) (kk : am_Ev E l Y Z cs sl (pc + 3) L (.int v :: st) S e) : am_Ev E l Y Z cs sl pc L st S e := by
  intro r hr p en s m args below meth c C H locs ls hP hS hl
  exact lv_ldcw C.1 C.2.1 C.2.2.2.2.2.1 (C.2.2.2.2.2.2.1 _ hw) hd (kk r hr p en s m args below meth c C H locs ls hP hS hl)
theorem ev_ldcS {idx k : Nat} {tx : String} (hd : decode Y.2.1 pc = .ok (.ldc idx, 2)) (hw : (Y.1, idx, tx, k) ∈ am_sts) (kk : am_Ev E l Y Z cs sl (pc + 2) L (.ref (1000 + k) :: st) S e) : am_Ev E l Y Z cs sl pc L st S e := by
  intro r hr p en s m args below meth c C H locs ls hP hS hl
  exact va_ldcS C.1 C.2.1 C.2.2.2.2.2.1 (C.2.2.2.2.2.2.2.2.1.2.2.2.1 _ hw) hd (kk r hr p en s m args below meth c C H locs ls hP hS hl)
theorem ev_istore {k : Nat} {x : Int32} (hd : decode Y.2.1 pc = .ok (.istore k, 2)) (hk : k < Y.2.2.1) (kk : am_Ev E l Y Z cs sl (pc + 2) (L.set k (some (.int x))) st S e) : am_Ev E l Y Z cs sl pc L (.int x :: st) S e := by
  intro r hr p en s m args below meth c C H locs ls hP hS hl
  exact lv_istore C.1 C.2.1 hd (am_has_lv hl) hk rfl (fun ls2 hl2 => kk r hr p en s m args below meth c C H locs ls2 hP hS (am_has_set hl rfl hl2))
theorem ev_istore_n {k : Fin 4} {x : Int32} (hd : decode Y.2.1 pc = .ok (.istore_n k, 1)) (hk : (k : Nat) < Y.2.2.1) (kk : am_Ev E l Y Z cs sl (pc + 1) (L.set (k : Nat) (some (.int x))) st S e) : am_Ev E l Y Z cs sl pc L (.int x :: st) S e := by
  intro r hr p en s m args below meth c C H locs ls hP hS hl
  exact lv_istore_n C.1 C.2.1 hd rfl (am_has_lv hl) hk rfl (fun ls2 hl2 => kk r hr p en s m args below meth c C H locs ls2 hP hS (am_has_set hl rfl hl2))
theorem ev_astore {k : Nat} {x : Nat} (hd : decode Y.2.1 pc = .ok (.astore k, 2)) (hk : k < Y.2.2.1) (kk : am_Ev E l Y Z cs sl (pc + 2) (L.set k (some (.ref x))) st S e) : am_Ev E l Y Z cs sl pc L (.ref x :: st) S e := by
  intro r hr p en s m args below meth c C H locs ls hP hS hl
  exact lv_astore C.1 C.2.1 hd (am_has_lv hl) hk rfl (fun ls2 hl2 => kk r hr p en s m args below meth c C H locs ls2 hP hS (am_has_set hl rfl hl2))
theorem ev_astore_n {k : Fin 4} {x : Nat} (hd : decode Y.2.1 pc = .ok (.astore_n k, 1)) (hk : (k : Nat) < Y.2.2.1) (kk : am_Ev E l Y Z cs sl (pc + 1) (L.set (k : Nat) (some (.ref x))) st S e) : am_Ev E l Y Z cs sl pc L (.ref x :: st) S e := by
  intro r hr p en s m args below meth c C H locs ls hP hS hl
  exact lv_astore_n C.1 C.2.1 hd rfl (am_has_lv hl) hk rfl (fun ls2 hl2 => kk r hr p en s m args below meth c C H locs ls2 hP hS (am_has_set hl rfl hl2))
theorem ev_iinc {k : Nat} {n : Int} {x v : Int32} (hd : decode Y.2.1 pc = .ok (.iinc k n, 3)) (hk : k < Y.2.2.1) (hx : L[k]? = some (some (.int x))) (hv : x + Int32.ofInt n = v) (kk : am_Ev E l Y Z cs sl (pc + 3) (L.set k (some (.int v))) st S e) : am_Ev E l Y Z cs sl pc L st S e := by
  intro r hr p en s m args below meth c C H locs ls hP hS hl
  obtain ⟨i, hi⟩ := List.getElem?_of_mem (am_pr_mem (E := E) (q := (k, Value.int x)) |>.mpr ⟨_, hx, rfl⟩)
  exact lv_iinc C.1 C.2.1 hd (am_has_lv hl) hi hv hk rfl (fun ls2 hl2 => kk r hr p en s m args below meth c C H locs ls2 hP hS (am_has_set (v := .int v) hl rfl hl2))
theorem ev_if_eq {x : Int32} {off : Int} {tgt : Nat} (hd : decode Y.2.1 pc = .ok (.ifCond .eq off, 3)) (ht : (pc : Int) + off = (tgt : Int)) (kt : x = 0 → am_Ev E l Y Z cs sl tgt L st S e1) (kf : ¬ x = 0 → am_Ev E l Y Z cs sl (pc + 3) L st S e2) : am_Ev E l Y Z cs sl pc L (.int x :: st) S (if x = 0 then e1 else e2) := by
  intro r hr p en s m args below meth c C H locs ls hP hS hl
  exact lv_if_eq C.1 C.2.1 hd ht (fun q => kt (q) r (by rw [if_pos (q)] at hr; exact hr) p en s m args below meth c C H locs ls hP hS hl) (fun q => kf (q) r (by rw [if_neg (q)] at hr; exact hr) p en s m args below meth c C H locs ls hP hS hl)
theorem ev_if_ne {x : Int32} {off : Int} {tgt : Nat} (hd : decode Y.2.1 pc = .ok (.ifCond .ne off, 3)) (ht : (pc : Int) + off = (tgt : Int)) (kt : ¬ x = 0 → am_Ev E l Y Z cs sl tgt L st S e2) (kf : x = 0 → am_Ev E l Y Z cs sl (pc + 3) L st S e1) : am_Ev E l Y Z cs sl pc L (.int x :: st) S (if x = 0 then e1 else e2) := by
  intro r hr p en s m args below meth c C H locs ls hP hS hl
  exact lv_if_ne C.1 C.2.1 hd ht (fun q => kt (q) r (by rw [if_neg (q)] at hr; exact hr) p en s m args below meth c C H locs ls hP hS hl) (fun q => kf (q) r (by rw [if_pos (q)] at hr; exact hr) p en s m args below meth c C H locs ls hP hS hl)
theorem ev_if_lt {x : Int32} {off : Int} {tgt : Nat} (hd : decode Y.2.1 pc = .ok (.ifCond .lt off, 3)) (ht : (pc : Int) + off = (tgt : Int)) (kt : x < 0 → am_Ev E l Y Z cs sl tgt L st S e1) (kf : ¬ x < 0 → am_Ev E l Y Z cs sl (pc + 3) L st S e2) : am_Ev E l Y Z cs sl pc L (.int x :: st) S (if x < 0 then e1 else e2) := by
  intro r hr p en s m args below meth c C H locs ls hP hS hl
  exact lv_if_lt C.1 C.2.1 hd ht (fun q => kt (q) r (by rw [if_pos (q)] at hr; exact hr) p en s m args below meth c C H locs ls hP hS hl) (fun q => kf (q) r (by rw [if_neg (q)] at hr; exact hr) p en s m args below meth c C H locs ls hP hS hl)
theorem ev_if_ge {x : Int32} {off : Int} {tgt : Nat} (hd : decode Y.2.1 pc = .ok (.ifCond .ge off, 3)) (ht : (pc : Int) + off = (tgt : Int)) (kt : ¬ x < 0 → am_Ev E l Y Z cs sl tgt L st S e2) (kf : x < 0 → am_Ev E l Y Z cs sl (pc + 3) L st S e1) : am_Ev E l Y Z cs sl pc L (.int x :: st) S (if x < 0 then e1 else e2) := by
  intro r hr p en s m args below meth c C H locs ls hP hS hl
  exact lv_if_ge C.1 C.2.1 hd ht (fun q => kt (Int32.not_lt.mpr q) r (by rw [if_neg (Int32.not_lt.mpr q)] at hr; exact hr) p en s m args below meth c C H locs ls hP hS hl) (fun q => kf (Int32.not_le.mp q) r (by rw [if_pos (Int32.not_le.mp q)] at hr; exact hr) p en s m args below meth c C H locs ls hP hS hl)
theorem ev_if_gt {x : Int32} {off : Int} {tgt : Nat} (hd : decode Y.2.1 pc = .ok (.ifCond .gt off, 3)) (ht : (pc : Int) + off = (tgt : Int)) (kt : 0 < x → am_Ev E l Y Z cs sl tgt L st S e1) (kf : ¬ 0 < x → am_Ev E l Y Z cs sl (pc + 3) L st S e2) : am_Ev E l Y Z cs sl pc L (.int x :: st) S (if 0 < x then e1 else e2) := by
  intro r hr p en s m args below meth c C H locs ls hP hS hl
  exact lv_if_gt C.1 C.2.1 hd ht (fun q => kt (q) r (by rw [if_pos (q)] at hr; exact hr) p en s m args below meth c C H locs ls hP hS hl) (fun q => kf (q) r (by rw [if_neg (q)] at hr; exact hr) p en s m args below meth c C H locs ls hP hS hl)
theorem ev_if_le {x : Int32} {off : Int} {tgt : Nat} (hd : decode Y.2.1 pc = .ok (.ifCond .le off, 3)) (ht : (pc : Int) + off = (tgt : Int)) (kt : ¬ 0 < x → am_Ev E l Y Z cs sl tgt L st S e2) (kf : 0 < x → am_Ev E l Y Z cs sl (pc + 3) L st S e1) : am_Ev E l Y Z cs sl pc L (.int x :: st) S (if 0 < x then e1 else e2) := by
  intro r hr p en s m args below meth c C H locs ls hP hS hl
  exact lv_if_le C.1 C.2.1 hd ht (fun q => kt (Int32.not_lt.mpr q) r (by rw [if_neg (Int32.not_lt.mpr q)] at hr; exact hr) p en s m args below meth c C H locs ls hP hS hl) (fun q => kf (Int32.not_le.mp q) r (by rw [if_pos (Int32.not_le.mp q)] at hr; exact hr) p en s m args below meth c C H locs ls hP hS hl)
theorem ev_icmp_eq {x y : Int32} {off : Int} {tgt : Nat} (hd : decode Y.2.1 pc = .ok (.if_icmp .eq off, 3)) (ht : (pc : Int) + off = (tgt : Int)) (kt : x = y → am_Ev E l Y Z cs sl tgt L st S e1) (kf : ¬ x = y → am_Ev E l Y Z cs sl (pc + 3) L st S e2) : am_Ev E l Y Z cs sl pc L (.int y :: .int x :: st) S (if x = y then e1 else e2) := by
  intro r hr p en s m args below meth c C H locs ls hP hS hl
  exact lv_icmp_eq C.1 C.2.1 hd ht (fun q => kt (q) r (by rw [if_pos (q)] at hr; exact hr) p en s m args below meth c C H locs ls hP hS hl) (fun q => kf (q) r (by rw [if_neg (q)] at hr; exact hr) p en s m args below meth c C H locs ls hP hS hl)
theorem ev_icmp_ne {x y : Int32} {off : Int} {tgt : Nat} (hd : decode Y.2.1 pc = .ok (.if_icmp .ne off, 3)) (ht : (pc : Int) + off = (tgt : Int)) (kt : ¬ x = y → am_Ev E l Y Z cs sl tgt L st S e2) (kf : x = y → am_Ev E l Y Z cs sl (pc + 3) L st S e1) : am_Ev E l Y Z cs sl pc L (.int y :: .int x :: st) S (if x = y then e1 else e2) := by
  intro r hr p en s m args below meth c C H locs ls hP hS hl
  exact lv_icmp_ne C.1 C.2.1 hd ht (fun q => kt (q) r (by rw [if_neg (q)] at hr; exact hr) p en s m args below meth c C H locs ls hP hS hl) (fun q => kf (q) r (by rw [if_pos (q)] at hr; exact hr) p en s m args below meth c C H locs ls hP hS hl)
theorem ev_icmp_lt {x y : Int32} {off : Int} {tgt : Nat} (hd : decode Y.2.1 pc = .ok (.if_icmp .lt off, 3)) (ht : (pc : Int) + off = (tgt : Int)) (kt : x < y → am_Ev E l Y Z cs sl tgt L st S e1) (kf : ¬ x < y → am_Ev E l Y Z cs sl (pc + 3) L st S e2) : am_Ev E l Y Z cs sl pc L (.int y :: .int x :: st) S (if x < y then e1 else e2) := by
  intro r hr p en s m args below meth c C H locs ls hP hS hl
  exact lv_icmp_lt C.1 C.2.1 hd ht (fun q => kt (q) r (by rw [if_pos (q)] at hr; exact hr) p en s m args below meth c C H locs ls hP hS hl) (fun q => kf (q) r (by rw [if_neg (q)] at hr; exact hr) p en s m args below meth c C H locs ls hP hS hl)
theorem ev_icmp_ge {x y : Int32} {off : Int} {tgt : Nat} (hd : decode Y.2.1 pc = .ok (.if_icmp .ge off, 3)) (ht : (pc : Int) + off = (tgt : Int)) (kt : ¬ x < y → am_Ev E l Y Z cs sl tgt L st S e2) (kf : x < y → am_Ev E l Y Z cs sl (pc + 3) L st S e1) : am_Ev E l Y Z cs sl pc L (.int y :: .int x :: st) S (if x < y then e1 else e2) := by
  intro r hr p en s m args below meth c C H locs ls hP hS hl
  exact lv_icmp_ge C.1 C.2.1 hd ht (fun q => kt (Int32.not_lt.mpr q) r (by rw [if_neg (Int32.not_lt.mpr q)] at hr; exact hr) p en s m args below meth c C H locs ls hP hS hl) (fun q => kf (Int32.not_le.mp q) r (by rw [if_pos (Int32.not_le.mp q)] at hr; exact hr) p en s m args below meth c C H locs ls hP hS hl)
theorem ev_icmp_gt {x y : Int32} {off : Int} {tgt : Nat} (hd : decode Y.2.1 pc = .ok (.if_icmp .gt off, 3)) (ht : (pc : Int) + off = (tgt : Int)) (kt : y < x → am_Ev E l Y Z cs sl tgt L st S e1) (kf : ¬ y < x → am_Ev E l Y Z cs sl (pc + 3) L st S e2) : am_Ev E l Y Z cs sl pc L (.int y :: .int x :: st) S (if y < x then e1 else e2) := by
  intro r hr p en s m args below meth c C H locs ls hP hS hl
  exact lv_icmp_gt C.1 C.2.1 hd ht (fun q => kt (q) r (by rw [if_pos (q)] at hr; exact hr) p en s m args below meth c C H locs ls hP hS hl) (fun q => kf (q) r (by rw [if_neg (q)] at hr; exact hr) p en s m args below meth c C H locs ls hP hS hl)
theorem ev_icmp_le {x y : Int32} {off : Int} {tgt : Nat} (hd : decode Y.2.1 pc = .ok (.if_icmp .le off, 3)) (ht : (pc : Int) + off = (tgt : Int)) (kt : ¬ y < x → am_Ev E l Y Z cs sl tgt L st S e2) (kf : y < x → am_Ev E l Y Z cs sl (pc + 3) L st S e1) : am_Ev E l Y Z cs sl pc L (.int y :: .int x :: st) S (if y < x then e1 else e2) := by
  intro r hr p en s m args below meth c C H locs ls hP hS hl
  exact lv_icmp_le C.1 C.2.1 hd ht (fun q => kt (Int32.not_lt.mpr q) r (by rw [if_neg (Int32.not_lt.mpr q)] at hr; exact hr) p en s m args below meth c C H locs ls hP hS hl) (fun q => kf (Int32.not_le.mp q) r (by rw [if_pos (Int32.not_le.mp q)] at hr; exact hr) p en s m args below meth c C H locs ls hP hS hl)
end EV
