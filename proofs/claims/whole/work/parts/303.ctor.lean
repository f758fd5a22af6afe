/-! THE BEGINNING: things come one after the other, the o-th at the place base + o; a state of the fields and rows as a list of what was put -/
def cn_ws (E : am_E) (S : am_S) (n : Nat) : va_W := (List.range n).map (fun o => (E.1 o, am_ent E S o))
theorem cn_ws_get {E : am_E} {S : am_S} {n o : Nat} (h : o < n) : (cn_ws E S n)[o]? = some (E.1 o, am_ent E S o) := by simp [cn_ws, h]
theorem cn_ws_len {E : am_E} {S : am_S} {n : Nat} : (cn_ws E S n).length = n := by simp [cn_ws]
theorem cn_ws_succ {E : am_E} {S : am_S} {n : Nat} : cn_ws E S (n + 1) = cn_ws E S n ++ [(E.1 n, am_ent E S n)] := by simp [cn_ws, List.range_succ]
theorem cn_ws_full {E : am_E} {S : am_S} : cn_ws E S am_N = am_ws E S := rfl
def cn_I (E : am_E) (s : State) : Prop := va_K E.2.1 vwCl (am_tys E) s ∧ (∀ o, o < am_N → E.1 o = E.2.2.2.1 + o) ∧ (∀ w ∈ am_nw, va_Nw w s)
theorem cn_I.to {E : am_E} {s U : State} (hW : s.WarmedH U.vm) (h : cn_I E s) : cn_I E U := ⟨h.1.moved hW.alike, h.2.1, fun w hw => am_nw_warm (List.mem_filter.mp hw).2 hW (h.2.2 w hw)⟩
theorem cn_D {E : am_E} {S : am_S} {n : Nat} (h : ∀ o, o < am_N → E.1 o = E.2.2.2.1 + o) (hn : n ≤ am_N) : va_D (am_A E) (cn_ws E S n) := by
  refine ⟨fun i j p q hi hj hpq => ?_, fun k q hk => ?_⟩
  · have l1 : i < n := by rw [← cn_ws_len (E := E) (S := S) (n := n)]; exact (List.getElem?_eq_some_iff.mp hi).1
    have l2 : j < n := by rw [← cn_ws_len (E := E) (S := S) (n := n)]; exact (List.getElem?_eq_some_iff.mp hj).1
    rw [cn_ws_get l1] at hi
    rw [cn_ws_get l2] at hj
    cases hi
    cases hj
    have h1 := h i (by omega)
    have h2 := h j (by omega)
    dsimp only at hpq
    omega
  · have l1 : k < n := by rw [← cn_ws_len (E := E) (S := S) (n := n)]; exact (List.getElem?_eq_some_iff.mp hk).1
    rw [cn_ws_get l1] at hk
    cases hk
    have h1 := h k (by omega)
    show E.2.2.2.1 ≤ E.1 k
    omega
theorem cn_ws_set {E : am_E} {S S' : am_S} {n o : Nat} {x : va_E} (ho : am_ent E S' o = x) (hn : ∀ a, a ≠ o → am_ent E S' a = am_ent E S a) : (cn_ws E S n).set o (E.1 o, x) = cn_ws E S' n := by
  apply List.ext_getElem?
  intro k
  by_cases hk : k < n
  · rw [cn_ws_get hk]
    by_cases e : k = o
    · subst e
      rw [List.getElem?_set_self (by rw [cn_ws_len]; exact hk), ho]
    · rw [List.getElem?_set_ne (fun z => e z.symm), cn_ws_get hk, hn k e]
  · rw [List.getElem?_eq_none (by rw [List.length_set, cn_ws_len]; omega), List.getElem?_eq_none (by rw [cn_ws_len]; omega)]
def cn_C (E : am_E) (K : Method → Code → State → Prop) (Y : am_Y) (p : Program) (s : State) (m : MethodId) (args : Array Value) (meth : Method) (c : Code) : Prop :=
  p.tables.exec = Jvm.exec ∧ c.code = Y.2.1 ∧ c.maxLocals = Y.2.2.1 ∧ meth.sig.returnType = Y.2.2.2.1 ∧ meth.locks = false ∧ s.vm.findClass Y.1 = some m.cls ∧ (∀ w ∈ am_G, w.before args s = true) ∧ K meth c s ∧ cn_I E s
def cn_Ev (E : am_E) (l : Launch) (K : Method → Code → State → Prop) (Y : am_Y) (Q : List Frame → Array Value → State → State → Prop) (cs sl pc : Nat) (L : List (Option Value)) (st : List Value) (n : Nat) (S : am_S) : Prop :=
  ∀ (p : Program) (en : Env) (s : State) (m : MethodId) (args : Array Value) (below : List Frame) (meth : Method) (c : Code), cn_C E K Y p s m args meth c →
    ∀ (H : Heap) (locs : List Loc) (ls : Array Slot), va_P E.2.1 vwCl (cn_ws E S n) H → H.size = E.2.2.2.1 + n → va_S (am_A E) s.heap H locs → am_has E ls Y.2.2.1 L →
      W p l en Y.2.2.2.2.2 s m args below meth c H locs cs sl (Q below args s) (F0 m pc ls (st.map (am_v E)))
section CN
variable {E : am_E} {l : Launch} {K : Method → Code → State → Prop} {Y : am_Y} {Q : List Frame → Array Value → State → State → Prop} {cs sl pc : Nat} {L : List (Option Value)} {st : List Value} {n : Nat} {S : am_S}
theorem cn_aload_n {k : Fin 4} {x : Nat} (hd : decode Y.2.1 pc = .ok (.aload_n k, 1)) (hv : L[(k : Nat)]? = some (some (.ref x))) (kk : cn_Ev E l K Y Q cs sl (pc + 1) L (.ref x :: st) n S) : cn_Ev E l K Y Q cs sl pc L st n S := by
  intro p en s m args below meth c C H locs ls hP hz hS hl
  exact lv_aload_n C.1 C.2.1 hd rfl (hl.2.2 k _ hv).2 (kk p en s m args below meth c C H locs ls hP hz hS hl)
theorem cn_iload_n {k : Fin 4} {x : Int32} (hd : decode Y.2.1 pc = .ok (.iload_n k, 1)) (hv : L[(k : Nat)]? = some (some (.int x))) (kk : cn_Ev E l K Y Q cs sl (pc + 1) L (.int x :: st) n S) : cn_Ev E l K Y Q cs sl pc L st n S := by
  intro p en s m args below meth c C H locs ls hP hz hS hl
  exact lv_iload_n C.1 C.2.1 hd rfl (hl.2.2 k _ hv).2 (kk p en s m args below meth c C H locs ls hP hz hS hl)
theorem cn_iconst {z : Int} {v : Int32} (hd : decode Y.2.1 pc = .ok (.iconst z, 1)) (hv : Int32.ofInt z = v) (kk : cn_Ev E l K Y Q cs sl (pc + 1) L (.int v :: st) n S) : cn_Ev E l K Y Q cs sl pc L st n S := by
  intro p en s m args below meth c C H locs ls hP hz hS hl
  exact lv_iconst C.1 C.2.1 hd hv (kk p en s m args below meth c C H locs ls hP hz hS hl)
theorem cn_bipush {z : Int} {v : Int32} (hd : decode Y.2.1 pc = .ok (.bipush z, 2)) (hv : (Int8.ofInt z).toInt32 = v) (kk : cn_Ev E l K Y Q cs sl (pc + 2) L (.int v :: st) n S) : cn_Ev E l K Y Q cs sl pc L st n S := by
  intro p en s m args below meth c C H locs ls hP hz hS hl
  exact lv_bipush C.1 C.2.1 hd hv (kk p en s m args below meth c C H locs ls hP hz hS hl)
theorem cn_sipush {z : Int} {v : Int32} (hd : decode Y.2.1 pc = .ok (.sipush z, 3)) (hv : (Int16.ofInt z).toInt32 = v) (kk : cn_Ev E l K Y Q cs sl (pc + 3) L (.int v :: st) n S) : cn_Ev E l K Y Q cs sl pc L st n S := by
  intro p en s m args below meth c C H locs ls hP hz hS hl
  exact lv_sipush C.1 C.2.1 hd hv (kk p en s m args below meth c C H locs ls hP hz hS hl)
theorem cn_dup {v : Value} (hd : decode Y.2.1 pc = .ok (.dup, 1)) (hc : v.category = 1) (kk : cn_Ev E l K Y Q cs sl (pc + 1) L (v :: v :: st) n S) : cn_Ev E l K Y Q cs sl pc L (v :: st) n S := by
  intro p en s m args below meth c C H locs ls hP hz hS hl
  exact lv_dup C.1 C.2.1 hd (am_cat hc) (kk p en s m args below meth c C H locs ls hP hz hS hl)
theorem cn_goto {off : Int} {tgt : Nat} (hd : decode Y.2.1 pc = .ok (.goto off, 3)) (ht : (pc : Int) + off = (tgt : Int)) (kk : cn_Ev E l K Y Q cs sl tgt L st n S) : cn_Ev E l K Y Q cs sl pc L st n S := by
  intro p en s m args below meth c C H locs ls hP hz hS hl
  exact lv_goto C.1 C.2.1 hd ht (kk p en s m args below meth c C H locs ls hP hz hS hl)
theorem cn_istore {k : Nat} {x : Int32} (hd : decode Y.2.1 pc = .ok (.istore k, 2)) (hk : k < Y.2.2.1) (kk : cn_Ev E l K Y Q cs sl (pc + 2) (L.set k (some (.int x))) st n S) : cn_Ev E l K Y Q cs sl pc L (.int x :: st) n S := by
  intro p en s m args below meth c C H locs ls hP hz hS hl
  exact lv_istore C.1 C.2.1 hd (am_has_lv hl) hk rfl (fun ls2 hl2 => kk p en s m args below meth c C H locs ls2 hP hz hS (am_has_set hl rfl hl2))
theorem cn_istore_n {k : Fin 4} {x : Int32} (hd : decode Y.2.1 pc = .ok (.istore_n k, 1)) (hk : (k : Nat) < Y.2.2.1) (kk : cn_Ev E l K Y Q cs sl (pc + 1) (L.set (k : Nat) (some (.int x))) st n S) : cn_Ev E l K Y Q cs sl pc L (.int x :: st) n S := by
  intro p en s m args below meth c C H locs ls hP hz hS hl
  exact lv_istore_n C.1 C.2.1 hd rfl (am_has_lv hl) hk rfl (fun ls2 hl2 => kk p en s m args below meth c C H locs ls2 hP hz hS (am_has_set hl rfl hl2))
theorem cn_astore_n {k : Fin 4} {x : Nat} (hd : decode Y.2.1 pc = .ok (.astore_n k, 1)) (hk : (k : Nat) < Y.2.2.1) (kk : cn_Ev E l K Y Q cs sl (pc + 1) (L.set (k : Nat) (some (.ref x))) st n S) : cn_Ev E l K Y Q cs sl pc L (.ref x :: st) n S := by
  intro p en s m args below meth c C H locs ls hP hz hS hl
  exact lv_astore_n C.1 C.2.1 hd rfl (am_has_lv hl) hk rfl (fun ls2 hl2 => kk p en s m args below meth c C H locs ls2 hP hz hS (am_has_set hl rfl hl2))
theorem cn_iinc {k : Nat} {z : Int} {x v : Int32} (hd : decode Y.2.1 pc = .ok (.iinc k z, 3)) (hk : k < Y.2.2.1) (hx : L[k]? = some (some (.int x))) (hv : x + Int32.ofInt z = v) (kk : cn_Ev E l K Y Q cs sl (pc + 3) (L.set k (some (.int v))) st n S) : cn_Ev E l K Y Q cs sl pc L st n S := by
  intro p en s m args below meth c C H locs ls hP hz hS hl
  obtain ⟨i, hi⟩ := List.getElem?_of_mem (am_pr_mem (E := E) (q := (k, Value.int x)) |>.mpr ⟨_, hx, rfl⟩)
  exact lv_iinc C.1 C.2.1 hd (am_has_lv hl) hi hv hk rfl (fun ls2 hl2 => kk p en s m args below meth c C H locs ls2 hP hz hS (am_has_set (v := .int v) hl rfl hl2))
theorem cn_icmp_ge {x y : Int32} {off : Int} {tgt : Nat} (hd : decode Y.2.1 pc = .ok (.if_icmp .ge off, 3)) (ht : (pc : Int) + off = (tgt : Int)) (kt : ¬ x < y → cn_Ev E l K Y Q cs sl tgt L st n S) (kf : x < y → cn_Ev E l K Y Q cs sl (pc + 3) L st n S) : cn_Ev E l K Y Q cs sl pc L (.int y :: .int x :: st) n S := by
  intro p en s m args below meth c C H locs ls hP hz hS hl
  exact lv_icmp_ge C.1 C.2.1 hd ht (fun q => kt (Int32.not_lt.mpr q) p en s m args below meth c C H locs ls hP hz hS hl) (fun q => kf (Int32.not_le.mp q) p en s m args below meth c C H locs ls hP hz hS hl)
/-- Object's constructor -/
theorem cn_obj {idx o : Nat} (hd : decode Y.2.1 pc = .ok (.invokespecial idx, 3)) (hk : Cond.methodLink Y.1 idx Lib.objectInit ∈ am_G) (hR : 1 ≤ Y.2.2.2.2.2.frames ∧ 20 ≤ Y.2.2.2.2.2.locals) (hw : (st.map fun v => v.category).sum ≤ 8) (kk : cn_Ev E l K Y Q cs sl (pc + 3) L st n S) : cn_Ev E l K Y Q cs sl pc L (.ref o :: st) n S := by
  intro p en s m args below meth c C H locs ls hP hz hS hl
  refine W.objInit C.1 C.2.1 C.2.2.2.2.2.1 (C.2.2.2.2.2.2.1 _ hk) (C.2.2.2.2.2.2.1 _ (am_G_t (i := 35) (by decide +kernel) rfl)) (C.2.2.2.2.2.2.1 _ (am_G_t (i := 36) (by decide +kernel) rfl)) rfl (by rw [C.2.2.1]; exact hl.1) rfl hd hR.1 ?_ (kk p en s m args below meth c C H locs ls hP hz hS hl)
  have := am_sum (E := E) hw
  show 2 * 0 + _ + 12 ≤ _
  omega
/-- a new object -/
theorem cn_new {idx ci N : Nat} {C : String} {T : u_T} (hw : ∀ w ∈ u_ws C T N, w ∈ am_G) (hc : vwCl[ci]? = some (C, T, N)) (ty : Nat → FieldType) (hty : ∀ k, k < N → parseFieldDescriptor (T k).2.2.1 = some (ty k)) (hcl : Cond.classLink Y.1 idx C ∈ am_G) (hinst : Cond.instantiable C N ∈ am_G) (hini : Cond.initialized C ∈ am_G) (hn : n < am_N) (hk : am_kd n = 100 + ci) (hnf : am_nf ci = N)
    (hdv : ∀ j, j < N → defaultValue (ty j) = if am_rf ci j = true then .null else .int 0) (hS0 : ∀ j, S.1 n j = 0 ∧ S.2 n j = none) (hR : cs + 1 ≤ Y.2.2.2.2.2.cells ∧ sl + N ≤ Y.2.2.2.2.2.slots) (hd : decode Y.2.1 pc = .ok (.new idx, 3)) (kk : cn_Ev E l K Y Q (cs + 1) (sl + N) (pc + 3) L (.ref n :: st) (n + 1) S) : cn_Ev E l K Y Q cs sl pc L st n S := by
  intro p en s m args below meth c C0 H locs ls hP hz hS hl
  have hw0 := C0.2.2.2.2.2.2.1
  have hKn := C0.2.2.2.2.2.2.2.2.1.1 ci _ hc
  have hE : E.1 n = H.size := by rw [C0.2.2.2.2.2.2.2.2.2.1 n hn, hz]
  refine W.newcK C0.1 C0.2.1 C0.2.2.2.2.2.1 (hw0 _ hcl) (hw0 _ hinst) (hw0 _ hini) rfl hd hR.1 hR.2 hKn.2.1 rfl fun H1 kC hkC e1 z1 o1 => ?_
  have hk1 : ∀ (k : Nat) (x : Nat × va_E), (cn_ws E S n)[k]? = some x → H1[x.1]? = H[x.1]? := fun k x hx => o1 x.1 ((hP k x hx).lt)
  have h := kk p en s m args below meth c C0 H1 locs ls (by
    rw [cn_ws_succ]
    refine (hP.kept hk1).app (fun k x hx => ?_)
    have hz : k < 1 := (List.getElem?_eq_some_iff.mp hx).1
    rw [show k = 0 by omega] at hx
    cases hx
    rw [am_ent_o hk, hE]
    refine ⟨_, hc, (u_born ty hw0 hw hKn hkC e1 hty).to (fun j hj => ?_)⟩
    rw [hdv j hj]
    unfold vp_V am_fl
    rw [hnf, List.getD_eq_getElem?_getD, List.getElem?_map, List.getElem?_range hj]
    show _ = am_fv E S n ci j
    unfold am_fv
    rw [(hS0 j).1, (hS0 j).2]
    rfl) (by omega) ⟨Nat.le_trans hS.1 (by omega), fun x h1 h2 => (o1 x (Nat.lt_of_lt_of_le h1 hS.1)).trans (hS.2.1 x h1 h2), hS.2.2⟩ hl
  rw [← hE]
  exact h
/-- a new row -/
theorem cn_newa {atype : ArrayType} {ty : FieldType} {t N : Nat} {v : Int32} (hty : newarray.typeOf atype = ty) (hcl : Cond.arrayClass ty ∈ am_G) (ht : ∀ E : am_E, (am_tys E)[t]? = some (E.2.2.1 t, ty)) (hpr : ∀ (U : State) (c : ClassId), va_RA U c ty → U.vm.findClass ("[" ++ ty.toString) = some c) (hn : n < am_N) (hln : am_ln n = N)
    (hen : ∀ (E : am_E) (S : am_S), (∀ j, S.1 n j = 0) → ∀ H : Heap, H[E.1 n]? = some (arrV (E.2.2.1 t) N (fun _ => defaultValue ty)) → va_at E.2.1 vwCl (E.1 n, am_ent E S n) H)
    (hv0 : ¬ v < 0) (hvN : v.toNatClampNeg = N) (hby : N * componentBytes ty ≤ 536870912) (hS0 : ∀ j, S.1 n j = 0) (hR : cs + 1 ≤ Y.2.2.2.2.2.cells ∧ sl + N ≤ Y.2.2.2.2.2.slots) (hd : decode Y.2.1 pc = .ok (.newarray atype, 2)) (kk : cn_Ev E l K Y Q (cs + 1) (sl + N) (pc + 2) L (.ref n :: st) (n + 1) S) : cn_Ev E l K Y Q cs sl pc L (.int v :: st) n S := by
  subst hty
  intro p en s m args below meth c C0 H locs ls hP hz hS hl
  have hw0 := C0.2.2.2.2.2.2.1
  have hKt := C0.2.2.2.2.2.2.2.2.1.2 t _ (ht E)
  have hE : E.1 n = H.size := by rw [C0.2.2.2.2.2.2.2.2.2.1 n hn, hz]
  refine va_newaK C0.1 C0.2.1 (hw0 _ hcl) rfl hd rfl hv0 hvN hby hR.1 hR.2 rfl fun H1 cA e1 z1 o1 hAr hNm => ?_
  have hcA : cA = E.2.2.1 t := Option.some.inj (hNm.symm.trans (hpr _ _ hKt.2))
  subst hcA
  have hk1 : ∀ (k : Nat) (x : Nat × va_E), (cn_ws E S n)[k]? = some x → H1[x.1]? = H[x.1]? := fun k x hx => o1 x.1 ((hP k x hx).lt)
  have h := kk p en s m args below meth c C0 H1 locs ls (by
    rw [cn_ws_succ]
    refine (hP.kept hk1).app (fun k x hx => ?_)
    have hz : k < 1 := (List.getElem?_eq_some_iff.mp hx).1
    rw [show k = 0 by omega] at hx
    cases hx
    exact hen E S hS0 H1 (by rw [hE]; exact e1)) (by omega) ⟨Nat.le_trans hS.1 (by omega), fun x h1 h2 => (o1 x (Nat.lt_of_lt_of_le h1 hS.1)).trans (hS.2.1 x h1 h2), hS.2.2⟩ hl
  rw [← hE]
  exact h
theorem cn_putV {idx c j o N : Nat} {C : String} {T : u_T} {v : Value} {ty : FieldType} {S' : am_S} (hf : am_fok Y.1 idx c j C T N) (ty0 : Nat → FieldType) (hty : ∀ k, k < N → parseFieldDescriptor (T k).2.2.1 = some (ty0 k)) (hnm : ∀ a, a < N → ∀ b, b < N → a ≠ b → (T a).2.1 ≠ (T b).2.1) (hfin : (T j).2.2.2 = true → (∀ meth c s, K meth c s → meth.name = "<init>") ∧ (T j).1 = Y.1) (hd : decode Y.2.1 pc = .ok (.putfield idx, 3)) (hk : am_kd o = 100 + c) (ho : o < n) (hn : n ≤ am_N)
    (hdt : parseFieldDescriptor (T j).2.2.1 = some ty) (hnr : narrow ty (am_v E v) = am_v E v) (hfit : fits ty (am_v E v) = true) (he : am_fl E S' o c = (am_fl E S o c).set j (am_v E v)) (hne : ∀ a, a ≠ o → am_ent E S' a = am_ent E S a) (kk : cn_Ev E l K Y Q cs sl (pc + 3) L st n S') : cn_Ev E l K Y Q cs sl pc L (v :: .ref o :: st) n S := by
  intro p en s m args below meth c0 C0 H locs ls hP hz hS hl
  obtain ⟨f1, f2, f3, f4, f5⟩ := hf
  have hI := C0.2.2.2.2.2.2.2.2
  have hts := C0.2.2.2.2.2.2.1
  have hown := C0.2.2.2.2.2.1
  have hD : va_D (am_A E) (cn_ws E S n) := cn_D hI.2.1 hn
  have hat : (cn_ws E S n)[o]? = some (E.1 o, .inr (c, am_fl E S o c)) := by rw [cn_ws_get ho, am_ent_o hk]
  have hlen : j < (am_fl E S o c).length := by rw [am_fl_len, f3]; exact f2
  have hap := va_apart (own := Y.1) hts f4 ty0 hty hnm hI.1 f1
  obtain ⟨r, h1, cell, q1, q2, q3, q4⟩ := hP o _ hat
  have hr : r = (C, T, N) := Option.some.inj (h1.symm.trans f1)
  subst hr
  obtain ⟨hSl, hfc, kC, hkC, hkind⟩ := hI.1.1 c _ f1
  obtain ⟨cf, kf, fi, f, hi, hsl⟩ := hSl j f2
  have hlay := hts _ (f4 _ (u_in_lay f2))
  unfold u_lay at hlay
  have hst := (u_facts hfc hkC (u_lays hts f4 f2) hi).1
  have fin : ∀ H' : Heap, H'[E.1 o]? = some (cell.setSlot f.slot (am_v E v)) → H'.size = H.size → (∀ q : Nat, q ≠ E.1 o → H'[q]? = H[q]?) → ∀ locs1 : List Loc, va_S (am_A E) s.heap H' locs1 → W p l en Y.2.2.2.2.2 s m args below meth c0 H' locs1 cs sl (Q below args s) (F0 m (pc + 3) ls (st.map (am_v E))) := fun H' e1 e2 e3 locs1 hS1 => by
    rw [hsl] at e1
    have hP1 := hP.set hD hat (e := .inr (c, (am_fl E S o c).set j (am_v E v))) ⟨_, f1, t_OB.to (V := updV (vp_V (am_fl E S o c)) j (am_v E v)) ⟨_, e1, q2, q3, t_set q4 hap f2 (am_v E v)⟩ (fun k _ => vp_updV_set hlen (am_v E v) k)⟩ e3
    rw [cn_ws_set (S' := S') (by rw [am_ent_o hk, he]) hne] at hP1
    exact kk p en s m args below meth c0 C0 H' locs1 ls hP1 (by omega) hS1 hl
  cases hb : (T j).2.2.2 with
  | false =>
    rw [if_neg (by rw [hb]; decide)] at hlay
    have h6 := u_store hfc hkC hkind hlay hi hdt hnr hfit
    exact W.putK C0.1 C0.2.1 (f := f) ⟨hown, hts _ f5, ⟨_, _, _, hi⟩, hst⟩ (by rw [q2]; exact h6) q1 q3 (by rw [hsl]; exact k2_hasslot (q4 j f2)) rfl rfl hd fun H' e1 e2 e3 => fin H' e1 e2 e3 _ (hS.put e2 e3 (hD.2 o _ hat))
  | true =>
    rw [if_pos hb] at hlay
    obtain ⟨hK, hdecl⟩ := hfin hb
    have hcf : m.cls = cf := by
      obtain ⟨_, _, c', _, _, _, -, -, hf', -, -, -, hown2, -⟩ := Cond.laysFinal_spec hlay
      have e1 : c' = cf := by have := hi.symm.trans hf'; simp at this; exact this.1.symm
      rw [hdecl] at hown2
      rw [← e1]; exact Option.some.inj (hown.symm.trans hown2)
    have h6 := u_fits hfc hkC hkind (Or.inr hlay) hi hdt hnr hfit
    exact W.putFinK C0.1 C0.2.1 hown (hts _ f5) hi hst hcf (hK _ _ _ C0.2.2.2.2.2.2.2.1) (by rw [q2]; exact h6) q1 q3 (by rw [hsl]; exact k2_hasslot (q4 j f2)) rfl rfl hd fun H' e1 e2 e3 => fin H' e1 e2 e3 _ (hS.put e2 e3 (hD.2 o _ hat))
theorem cn_putI {idx c j o N : Nat} {C : String} {T : u_T} {v : Int32} (hf : am_fok Y.1 idx c j C T N) (ty0 : Nat → FieldType) (hty : ∀ k, k < N → parseFieldDescriptor (T k).2.2.1 = some (ty0 k)) (hnm : ∀ a, a < N → ∀ b, b < N → a ≠ b → (T a).2.1 ≠ (T b).2.1) (hfin : (T j).2.2.2 = true → (∀ meth c s, K meth c s → meth.name = "<init>") ∧ (T j).1 = Y.1) (hdt : parseFieldDescriptor (T j).2.2.1 = some .int) (hr : am_rf c j = false) (hd : decode Y.2.1 pc = .ok (.putfield idx, 3)) (hk : am_kd o = 100 + c) (ho : o < n) (hn : n ≤ am_N)
    (kk : cn_Ev E l K Y Q cs sl (pc + 3) L st n (am_u2 S.1 o j v, S.2)) : cn_Ev E l K Y Q cs sl pc L (.int v :: .ref o :: st) n S :=
  cn_putV hf ty0 hty hnm hfin hd hk ho hn hdt rfl rfl (am_fl_put (by rw [hf.2.2.1]; exact hf.2.1) hr) (fun _ h => am_ent_ne h) kk
theorem cn_putR {idx c j o q N : Nat} {C : String} {T : u_T} {ty : FieldType} (hnr : narrow ty (.ref (E.1 q)) = .ref (E.1 q)) (hfit : fits ty (.ref (E.1 q)) = true) (hf : am_fok Y.1 idx c j C T N) (ty0 : Nat → FieldType) (hty : ∀ k, k < N → parseFieldDescriptor (T k).2.2.1 = some (ty0 k)) (hnm : ∀ a, a < N → ∀ b, b < N → a ≠ b → (T a).2.1 ≠ (T b).2.1) (hfin : (T j).2.2.2 = true → (∀ meth c s, K meth c s → meth.name = "<init>") ∧ (T j).1 = Y.1) (hdt : parseFieldDescriptor (T j).2.2.1 = some ty) (hr : am_rf c j = true) (hd : decode Y.2.1 pc = .ok (.putfield idx, 3)) (hk : am_kd o = 100 + c) (ho : o < n) (hn : n ≤ am_N)
    (kk : cn_Ev E l K Y Q cs sl (pc + 3) L st n (S.1, am_u2 S.2 o j (some q))) : cn_Ev E l K Y Q cs sl pc L (.ref q :: .ref o :: st) n S :=
  cn_putV (v := .ref q) hf ty0 hty hnm hfin hd hk ho hn hdt hnr hfit (am_fl_putR (by rw [hf.2.2.1]; exact hf.2.1) hr) (fun _ h => am_ent_neR h) kk
theorem cn_getR {idx c j o q N : Nat} {C : String} {T : u_T} (hf : am_fok Y.1 idx c j C T N) (hr : am_rf c j = true) (hd : decode Y.2.1 pc = .ok (.getfield idx, 3)) (hk : am_kd o = 100 + c) (ho : o < n) (hq : S.2 o j = some q) (kk : cn_Ev E l K Y Q cs sl (pc + 3) L (.ref q :: st) n S) : cn_Ev E l K Y Q cs sl pc L (.ref o :: st) n S := by
  intro p en s m args below meth c0 C0 H locs ls hP hz hS hl
  obtain ⟨f1, f2, f3, f4, f5⟩ := hf
  have k := kk p en s m args below meth c0 C0 H locs ls hP hz hS hl
  exact va_get C0.1 C0.2.1 C0.2.2.2.2.2.2.1 f4 C0.2.2.2.2.2.1 C0.2.2.2.2.2.2.2.2.1 hP o (by rw [cn_ws_get ho, am_ent_o hk]) f1 j f2 (C0.2.2.2.2.2.2.1 _ f5) (fun _ h => h) (v := am_v E (.ref q)) (by rw [am_fl_get (by rw [f3]; exact f2), am_fvR hr hq]) hd k
theorem cn_iast {a : Nat} {i x : Int32} (hd : decode Y.2.1 pc = .ok (.iastore, 1)) (hk : am_kd a = 1) (ha : a < n) (hn : n ≤ am_N) (hin : vp_in i (am_ln a)) (kk : cn_Ev E l K Y Q cs sl (pc + 1) L st n (am_u2 S.1 a i.toNatClampNeg x, S.2)) : cn_Ev E l K Y Q cs sl pc L (.int x :: .int i :: .ref a :: st) n S := by
  intro p en s m args below meth c0 C0 H locs ls hP hz hS hl
  have hI := C0.2.2.2.2.2.2.2.2
  have hD : va_D (am_A E) (cn_ws E S n) := cn_D hI.2.1 hn
  have hat : (cn_ws E S n)[a]? = some (E.1 a, .inl (E.2.2.1 1, am_ln a, .inl (S.1 a))) := by rw [cn_ws_get ha, am_ent_1 hk]
  refine W.iast C0.1 C0.2.1 (hP a _ hat) ((hI.1.2 1 _ rfl).1 (am_ln a) (fun j => .int (S.1 a j))) (fun q => by cases q) (by show ¬ (i < 0 ∨ (arrV _ _ _).slots.size ≤ _); rw [arrV_size]; exact hin) rfl rfl hd fun H1 e z oq => ?_
  have hP1 := hP.set hD hat (e := .inl (E.2.2.1 1, am_ln a, .inl (upd (S.1 a) i.toNatClampNeg x))) (by
    show H1[E.1 a]? = some (vp_cell _ _)
    rw [e]
    rw [vp_cell_i, vp_cell_i, arrV_store]
    congr 2
    funext q
    by_cases hq : q = i.toNatClampNeg
    · subst hq
      simp [updV, upd]
    · simp [updV, upd, hq]) oq
  rw [cn_ws_set (S' := (am_u2 S.1 a i.toNatClampNeg x, S.2)) (by rw [am_ent_1 hk]; dsimp only; rw [am_u2_row]) (fun _ h => am_ent_ne h)] at hP1
  exact kk p en s m args below meth c0 C0 H1 _ ls hP1 (by rw [← hz]; exact z) (hS.put z oq (hD.2 a _ hat)) hl
theorem cn_widen {cs' sl' : Nat} (h1 : cs ≤ cs') (h2 : sl ≤ sl') (k : cn_Ev E l K Y Q cs' sl' pc L st n S) : cn_Ev E l K Y Q cs sl pc L st n S :=
  fun p en s m args below meth c C H locs ls hP hz hS hl => W.widen (k := cs') (n := sl') h1 h2 (k p en s m args below meth c C H locs ls hP hz hS hl)
theorem cn_weak {A : List (Option Value)} (h : am_W A L) (k : cn_Ev E l K Y Q cs sl pc A st n S) : cn_Ev E l K Y Q cs sl pc L st n S :=
  fun p en s m args below meth c C H locs ls hP hz hS hl => k p en s m args below meth c C H locs ls hP hz hS ⟨hl.1, hl.2.1, fun i v hv => hl.2.2 i v (h i v hv)⟩
end CN
def cn_Q (E : am_E) (n : Nat) (S : am_S) : Array Value → State → Outcome → State → Prop := fun _ st oc t => oc = .returned none ∧ va_P E.2.1 vwCl (cn_ws E S n) t.heap ∧ t.heap.size = E.2.2.2.1 + n ∧ va_F (am_A E) st t
def cn_PC (E : am_E) (o n : Nat) (S : am_S) : Array Value → State → Prop := va_Pc [.ref (E.1 o)] (fun U => cn_I E U ∧ va_P E.2.1 vwCl (cn_ws E S n) U.heap ∧ U.heap.size = E.2.2.2.1 + n)
theorem cn_PC_blind {E : am_E} {o n : Nat} {S : am_S} : FrameBlind (cn_PC E o n S) := fun a U g mk h => ⟨h.1, cn_I.to (State.WarmedH.refl U) h.2.1, h.2.2.1, h.2.2.2⟩
/-- a constructor's contract: called for the o-th thing, n things there -/
def cn_M (E : am_E) (l : Launch) (y : MethodName) (cw : Cond) (d mc ms o n : Nat) (S : am_S) (n' : Nat) (S' : am_S) : Prop := Met l y (cw :: am_G) (am_rm d mc ms) (cn_PC E o n S) (cn_Q E n' S') mc ms (am_A E)
theorem cn_vret {E : am_E} {l : Launch} {K : Method → Code → State → Prop} {Y : am_Y} {pc mc ms : Nat} {L : List (Option Value)} {n : Nat} {S : am_S} (hd : decode Y.2.1 pc = .ok (.return_, 1)) (hy : Y.2.2.2.1 = none) : cn_Ev E l K Y (fun below args s => MQ below (cn_Q E n S) args s mc ms (am_A E)) mc ms pc L [] n S := by
  intro p en s m args below meth c C H locs ls hP hz hS hl
  have hlocks := C.2.2.2.2.1
  exact W.vret C.1 C.2.1 (C.2.2.2.1.trans hy) (fun t ht _ => ⟨rfl, by rw [ht]; exact hP, by rw [ht]; exact hz, hS.F ht⟩) (fun q hq => hS.2.2 q hq) hd
def cn_K0 : Method → Code → State → Prop := fun meth _ _ => meth.name = "<init>"
theorem cn_M_of {E : am_E} {l : Launch} {y : MethodName} {code : ByteArray} {nL d mc ms o n n' : Nat} {S S' : am_S} (hy : plainName y.cls = true) (hyn : y.name = "<init>") (hn : 1 ≤ nL)
    (h : cn_Ev E l cn_K0 (y.cls, code, nL, none, [], am_rm d mc ms) (fun below args s => MQ below (cn_Q E n' S') args s mc ms (am_A E)) 0 0 0 (am_L0 [.ref o] nL) [] n S) : cn_M E l y (.code y code nL none) d mc ms o n S n' S' := by
  refine Met.ofW (cc := code) (maxL := nL) (ret := none) hy rfl ?_
  intro p e s m args below meth c s₁ B hml hv
  obtain ⟨rfl, hI, hP, hz⟩ := hv
  have hts := atoms_spec (ws := Cond.code y code nL none :: am_G) B.pre
  have hown : s.vm.findClass y.cls = some m.cls := findClass_of_methodNamed B.named
  have hnm : meth.name = "<init>" := by rw [← hyn]; exact (name_of_methodNamed B.named B.method).1
  rw [lg_entry_eq]
  exact h p e s m _ below meth c ⟨B.exec, B.bytes, hml, B.returns, B.notSynchronized, hown, fun w hw => hts w (List.mem_cons_of_mem _ hw), hnm, hI⟩ s.heap [] _ hP hz va_S.rf (am_entry (as := [.ref o]) (am_fc rfl am_fn) hn)
section CNC
variable {E : am_E} {l : Launch} {K : Method → Code → State → Prop} {Y : am_Y} {Q : List Frame → Array Value → State → State → Prop} {cs sl pc : Nat} {L : List (Option Value)} {st : List Value} {n : Nat} {S : am_S}
theorem cn_run {mc' ms' n' : Nat} {S' : am_S} {stk : List Value} (hc : ∀ (p : Program) (en : Env) (s : State) (m : MethodId) (args : Array Value) (below : List Frame) (meth : Method) (c : Code), cn_C E K Y p s m args meth c → ∀ (H : Heap) (locs : List Loc) (ls : Array Slot), va_P E.2.1 vwCl (cn_ws E S n) H → H.size = E.2.2.2.1 + n → va_S (am_A E) s.heap H locs → am_has E ls Y.2.2.1 L →
      va_Run p l en Y.2.2.2.2.2 s m args below meth c H locs cs sl mc' ms' (F0 m pc ls (stk.map (am_v E))) (st.map (am_v E)) (cn_Q E n' S' #[]) (am_A E)) (kk : cn_Ev E l K Y Q (cs + mc') (sl + ms') (pc + 3) L st n' S') : cn_Ev E l K Y Q cs sl pc L stk n S := by
  intro p en s m args below meth c C H locs ls hP hz hS hl T hT X
  obtain ⟨v, st₀, t, T', LL, h0, X', hL, e1, e2, ⟨hv, hP', hz', hF⟩, step⟩ := hc p en s m args below meth c C H locs ls hP hz hS hl T hT X
  cases hv
  obtain ⟨k1, k2, k3⟩ := vx_keep h0 e1 hS (fun _ _ h => h) (fun _ h => h) hL hF
  obtain ⟨t2, a1, b1⟩ := kk p en s m args below meth c C T'.heap (locs ++ LL) ls (by rw [e1]; exact hP') (by rw [e1]; exact hz') k3 hl T' rfl X'
  exact ⟨t2, step t2 a1, b1⟩
theorem cn_callI {idx o d' mc' ms' maxL n' : Nat} {y : MethodName} {bytes : ByteArray} {S' : am_S} (hcode : Cond.code y bytes maxL none ∈ am_G) (hlk : Cond.methodLink Y.1 idx y ∈ am_G) (hin : Cond.instanceMethod y ∈ am_G) (hini : Cond.initialized y.cls ∈ am_G) (hyn : y.name = "<init>") (hnm : am_nms y 0) (hd : decode Y.2.1 pc = .ok (.invokespecial idx, 3)) (hw : (st.map fun v => v.category).sum ≤ 8)
    (hR : am_fitR Y.2.2.2.2.2 cs sl d' mc' ms' maxL) (hM : cn_M E l y (.code y bytes maxL none) d' mc' ms' o n S n' S') (kk : cn_Ev E l K Y Q (cs + mc') (sl + ms') (pc + 3) L st n' S') : cn_Ev E l K Y Q cs sl pc L (.ref o :: st) n S := by
  refine cn_run (mc' := mc') (ms' := ms') (n' := n') (S' := S') (fun p en s m args below meth c C H locs ls hP hz hS hl => ?_) kk
  have ht := C.2.2.2.2.2.2.1
  exact va_runI (As := []) ⟨C.1, C.2.1, C.2.2.1, C.2.2.2.2.2.1, ht⟩ hM (cwI 0 ht (am_payG hcode) rfl rfl rfl (ht _ hini) (ht _ hlk) (ht _ hin) hyn hnm hR.1) ⟨cn_PC_blind, fun U hU hW => ⟨rfl, cn_I.to hW C.2.2.2.2.2.2.2.2, by rw [hU]; exact hP, by rw [hU]; exact hz⟩⟩ rfl rfl hl.1 rfl (lv_room (am_sum hw)) hd hR.2
theorem cn_callIN {idx o d' mc' ms' maxL n' : Nat} {y : MethodName} {host : String} {bytes : ByteArray} {S' : am_S} (hcode : Cond.code y bytes maxL none ∈ am_G) (hlk : Cond.methodLinkNest Y.1 idx y host ∈ am_nw) (hin : Cond.instanceMethod y ∈ am_G) (hini : Cond.initialized y.cls ∈ am_G) (hyn : y.name = "<init>") (hnm : am_nms y 0) (hd : decode Y.2.1 pc = .ok (.invokespecial idx, 3)) (hw : (st.map fun v => v.category).sum ≤ 8)
    (hR : am_fitR Y.2.2.2.2.2 cs sl d' mc' ms' maxL) (hM : cn_M E l y (.code y bytes maxL none) d' mc' ms' o n S n' S') (kk : cn_Ev E l K Y Q (cs + mc') (sl + ms') (pc + 3) L st n' S') : cn_Ev E l K Y Q cs sl pc L (.ref o :: st) n S := by
  refine cn_run (mc' := mc') (ms' := ms') (n' := n') (S' := S') (fun p en s m args below meth c C H locs ls hP hz hS hl => ?_) kk
  have ht := C.2.2.2.2.2.2.1
  exact va_runIN (As := []) ⟨C.1, C.2.1, C.2.2.1, C.2.2.2.2.2.1, ht⟩ hM ⟨va_cnB 0 ht (am_payG hcode) rfl rfl rfl (C.2.2.2.2.2.2.2.2.2.2 _ hlk) (ht _ hini) hnm hR.1, hyn, ht _ hin⟩ ⟨cn_PC_blind, fun U hU hW => ⟨rfl, cn_I.to hW C.2.2.2.2.2.2.2.2, by rw [hU]; exact hP, by rw [hU]; exact hz⟩⟩ rfl rfl hl.1 rfl (lv_room (am_sum hw)) hd hR.2
end CNC
/-! what was put, as a list -/
abbrev cn_U : Type := Nat × Nat × (Int32 ⊕ Nat)
def cn_up1 (S : am_S) (u : cn_U) : am_S := match u.2.2 with
  | .inl x => (am_u2 S.1 u.1 u.2.1 x, S.2)
  | .inr q => (S.1, am_u2 S.2 u.1 u.2.1 (some q))
def cn_ups (S : am_S) (us : List cn_U) : am_S := us.foldl cn_up1 S
theorem cn_ups_app {S : am_S} {us vs : List cn_U} : cn_ups (cn_ups S us) vs = cn_ups S (us ++ vs) := by unfold cn_ups; rw [List.foldl_append]
theorem cn_ups_I {S : am_S} {us : List cn_U} {o j : Nat} {x : Int32} : (am_u2 (cn_ups S us).1 o j x, (cn_ups S us).2) = cn_ups S (us ++ [(o, j, .inl x)]) := by unfold cn_ups; rw [List.foldl_append]; rfl
theorem cn_ups_R {S : am_S} {us : List cn_U} {o j q : Nat} : ((cn_ups S us).1, am_u2 (cn_ups S us).2 o j (some q)) = cn_ups S (us ++ [(o, j, .inr q)]) := by unfold cn_ups; rw [List.foldl_append]; rfl
/-- from the n-th thing on nothing was put -/
def cn_df (S : am_S) (n : Nat) : Prop := ∀ a, n ≤ a → ∀ j, S.1 a j = 0 ∧ S.2 a j = none
theorem cn_df_ups {n n' : Nat} : ∀ (us : List cn_U) (S : am_S), cn_df S n → n ≤ n' → us.all (fun u => Nat.blt u.1 n') = true → cn_df (cn_ups S us) n'
  | [], S, h, hn, _ => fun a ha j => h a (Nat.le_trans hn ha) j
  | u :: us, S, h, hn, hu => by
    rw [List.all_cons, Bool.and_eq_true] at hu
    have hlt : u.1 < n' := Nat.le_of_ble_eq_true hu.1
    show cn_df (cn_ups (cn_up1 S u) us) n'
    have h1 : cn_df (cn_up1 S u) n' := fun a ha j => by
      have h0 := h a (Nat.le_trans hn ha) j
      unfold cn_up1
      cases u.2.2 with
      | inl x => exact ⟨by show am_u2 _ _ _ _ a j = 0; unfold am_u2; rw [if_neg (fun q => by omega)]; exact h0.1, h0.2⟩
      | inr q => exact ⟨h0.1, by show am_u2 _ _ _ _ a j = none; unfold am_u2; rw [if_neg (fun q => by omega)]; exact h0.2⟩
    exact cn_df_ups us _ h1 (Nat.le_refl _) hu.2
theorem cn_ent_i {E : am_E} {S : am_S} {n N : Nat} (hk : am_kd n = 1) (hln : am_ln n = N) (h0 : ∀ j, S.1 n j = 0) {H : Heap} (h : H[E.1 n]? = some (arrV (E.2.2.1 1) N (fun _ => defaultValue .int))) : va_at E.2.1 vwCl (E.1 n, am_ent E S n) H := by
  rw [am_ent_1 hk, hln]
  show H[E.1 n]? = some (vp_cell _ _)
  rw [h, vp_cell_i]
  congr 2
  funext j
  rw [h0 j]
  rfl
theorem cn_ent_b {E : am_E} {S : am_S} {n N : Nat} (hk : am_kd n = 2) (hln : am_ln n = N) (h0 : ∀ j, S.1 n j = 0) {H : Heap} (h : H[E.1 n]? = some (arrV (E.2.2.1 2) N (fun _ => defaultValue .byte))) : va_at E.2.1 vwCl (E.1 n, am_ent E S n) H := by
  rw [am_ent_2 hk, hln]
  show H[E.1 n]? = some (vp_cell _ _)
  rw [h, vp_cell_i]
  congr 2
  funext j
  rw [h0 j]
  rfl
theorem cn_ent_s {E : am_E} {S : am_S} {n N : Nat} (hk : am_kd n = 3) (hln : am_ln n = N) (h0 : ∀ j, S.1 n j = 0) {H : Heap} (h : H[E.1 n]? = some (arrV (E.2.2.1 3) N (fun _ => defaultValue .short))) : va_at E.2.1 vwCl (E.1 n, am_ent E S n) H := by
  rw [am_ent_3 hk, hln]
  show H[E.1 n]? = some (vp_cell _ _)
  rw [h, vp_cell_i]
  congr 2
  funext j
  rw [h0 j]
  rfl
theorem cn_ent_l {E : am_E} {S : am_S} {n N : Nat} (hk : am_kd n = 4) (hln : am_ln n = N) (h0 : ∀ j, S.1 n j = 0) {H : Heap} (h : H[E.1 n]? = some (arrV (E.2.2.1 4) N (fun _ => defaultValue .long))) : va_at E.2.1 vwCl (E.1 n, am_ent E S n) H := by
  rw [am_ent_4 hk, hln]
  show H[E.1 n]? = some (vp_cell _ _)
  rw [h, vp_cell_l]
  congr 2
  funext j
  rw [h0 j]
  rfl
def cn_fill (a k : Nat) : List cn_U := (List.range k).map (fun i => (a, i, .inl (-1)))
theorem cn_fill_s {a k : Nat} : cn_fill a (k + 1) = cn_fill a k ++ [(a, k, .inl (-1))] := by simp [cn_fill, List.range_succ]
theorem cn_fill_2 {S : am_S} {a : Nat} : ∀ k, (cn_ups S (cn_fill a k)).2 = S.2
  | 0 => rfl
  | k + 1 => by rw [cn_fill_s, ← cn_ups_app]; exact cn_fill_2 k
theorem cn_init {E : am_E} {l : Launch} {K : Method → Code → State → Prop} {Y : am_Y} {Q : List Frame → Array Value → State → State → Prop} {cs sl pc : Nat} {L : List (Option Value)} {st : List Value} {n : Nat} {S : am_S} (k : cn_Ev E l K Y Q cs sl pc L st n (cn_ups S [])) : cn_Ev E l K Y Q cs sl pc L st n S := k
