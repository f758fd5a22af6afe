section EVH
variable {β : Type} {E : am_E} {l : Launch} {Y : am_Y} {Z : List Frame → Array Value → State → β → State → Prop} {cs sl pc : Nat} {L : List (Option Value)} {st : List Value} {S : am_S} {e e1 e2 : Option β}
theorem am_o_lt {o c : Nat} (h : am_kd o = 100 + c) : o < am_N := am_kd_lt (by omega) (by omega) (by omega) (by omega)
theorem am_a_lt {o k : Nat} (h : am_kd o = k) (hk : k < 7) : o < am_N := am_kd_lt (by omega) (by omega) (by omega) (by omega)
theorem am_obj {o c : Nat} (h : am_kd o = 100 + c) : (am_ws E S)[o]? = some (E.1 o, .inr (c, am_fl E S o c)) := by
  rw [am_ws_get (am_o_lt h), am_ent_o h]
/-- what a field's access asks of the tables -/
def am_fok (own : String) (idx c j : Nat) (C : String) (T : u_T) (N : Nat) : Prop := vwCl[c]? = some (C, T, N) ∧ j < N ∧ am_nf c = N ∧ (∀ w ∈ u_ws C T N, w ∈ am_G) ∧ Cond.fieldLink own idx (T j).1 (T j).2.1 (T j).2.2.1 ∈ am_G
def am_fokN (own : String) (idx c j : Nat) (C : String) (T : u_T) (N : Nat) (host : String) : Prop := vwCl[c]? = some (C, T, N) ∧ j < N ∧ am_nf c = N ∧ (∀ w ∈ u_ws C T N, w ∈ am_G) ∧ Cond.fieldLinkNest own idx (T j).1 (T j).2.1 (T j).2.2.1 host ∈ am_nw
theorem ev_get {idx c j o N : Nat} {C : String} {T : u_T} {v : Value} (hf : am_fok Y.1 idx c j C T N) (hd : decode Y.2.1 pc = .ok (.getfield idx, 3)) (hk : am_kd o = 100 + c) (hv : am_v E v = am_fv E S o c j) (kk : am_Ev E l Y Z cs sl (pc + 3) L (v :: st) S e) : am_Ev E l Y Z cs sl pc L (.ref o :: st) S e := by
  intro r hr p en s m args below meth c0 C0 H locs ls hP hS hl
  obtain ⟨f1, f2, f3, f4, f5⟩ := hf
  have k := kk r hr p en s m args below meth c0 C0 H locs ls hP hS hl
  exact va_get C0.1 C0.2.1 C0.2.2.2.2.2.2.1 f4 C0.2.2.2.2.2.1 C0.2.2.2.2.2.2.2.2.1.1 hP o (am_obj hk) f1 j f2 (C0.2.2.2.2.2.2.1 _ f5) (fun _ h => h) (v := am_v E v) (by rw [am_fl_get (by rw [f3]; exact f2), hv]) hd k
theorem ev_getN {idx c j o N : Nat} {C host : String} {T : u_T} {v : Value} (hf : am_fokN Y.1 idx c j C T N host) (hd : decode Y.2.1 pc = .ok (.getfield idx, 3)) (hk : am_kd o = 100 + c) (hv : am_v E v = am_fv E S o c j) (kk : am_Ev E l Y Z cs sl (pc + 3) L (v :: st) S e) : am_Ev E l Y Z cs sl pc L (.ref o :: st) S e := by
  intro r hr p en s m args below meth c0 C0 H locs ls hP hS hl
  obtain ⟨f1, f2, f3, f4, f5⟩ := hf
  have k := kk r hr p en s m args below meth c0 C0 H locs ls hP hS hl
  exact va_getN C0.1 C0.2.1 C0.2.2.2.2.2.2.1 f4 C0.2.2.2.2.2.1 C0.2.2.2.2.2.2.2.2.1.1 hP o (am_obj hk) f1 j f2 (va_Nw.use (am_nw_on (List.mem_filter.mp f5).2) (C0.2.2.2.2.2.2.2.2.1.2.2.1 _ f5)) (fun _ h => h) (v := am_v E v) (by rw [am_fl_get (by rw [f3]; exact f2), hv]) hd k
theorem am_fvI {o c j : Nat} (h : am_rf c j = false) : am_v E (.int (S.1 o j)) = am_fv E S o c j := by unfold am_fv; rw [h]; rfl
theorem am_fvR {o c j q : Nat} (h : am_rf c j = true) (hq : S.2 o j = some q) : am_v E (.ref q) = am_fv E S o c j := by unfold am_fv; rw [if_pos h, hq]; rfl
theorem am_rd_some {ρ : Nat → Nat → Option Nat} {o j k q : Nat} (h : am_rd ρ o j k = some q) : ρ o j = some q ∧ am_kd q = k := by
  unfold am_rd at h
  cases hx : ρ o j with
  | none => rw [hx] at h; cases h
  | some z =>
    rw [hx] at h
    by_cases hk : am_kd z = k
    · simp [hk] at h; subst h; exact ⟨rfl, hk⟩
    · simp [hk] at h
theorem ev_bind {α : Type} {g : Option α} {f : α → Option β} (k : ∀ x, g = some x → am_Ev E l Y Z cs sl pc L st S (f x)) : am_Ev E l Y Z cs sl pc L st S (g.bind f) := by
  intro r hr
  cases hg : g with
  | none => rw [hg] at hr; cases hr
  | some x => rw [hg] at hr; exact k x hg r hr
theorem ev_getR {idx c j o k N : Nat} {C : String} {T : u_T} {f : Nat → Option β} (hf : am_fok Y.1 idx c j C T N) (hr : am_rf c j = true) (hd : decode Y.2.1 pc = .ok (.getfield idx, 3)) (hk : am_kd o = 100 + c) (kk : ∀ q, am_kd q = k → am_rd S.2 o j k = some q → am_Ev E l Y Z cs sl (pc + 3) L (.ref q :: st) S (f q)) : am_Ev E l Y Z cs sl pc L (.ref o :: st) S ((am_rd S.2 o j k).bind f) :=
  ev_bind fun q hq => ev_get hf hd hk (am_fvR hr (am_rd_some hq).1) (kk q (am_rd_some hq).2 hq)
theorem ev_getRN {idx c j o k N : Nat} {C host : String} {T : u_T} {f : Nat → Option β} (hf : am_fokN Y.1 idx c j C T N host) (hr : am_rf c j = true) (hd : decode Y.2.1 pc = .ok (.getfield idx, 3)) (hk : am_kd o = 100 + c) (kk : ∀ q, am_kd q = k → am_rd S.2 o j k = some q → am_Ev E l Y Z cs sl (pc + 3) L (.ref q :: st) S (f q)) : am_Ev E l Y Z cs sl pc L (.ref o :: st) S ((am_rd S.2 o j k).bind f) :=
  ev_bind fun q hq => ev_getN hf hd hk (am_fvR hr (am_rd_some hq).1) (kk q (am_rd_some hq).2 hq)
theorem am_fl_len {o c : Nat} : (am_fl E S o c).length = am_nf c := by simp [am_fl]
/-- a store -/
theorem ev_putV {idx c j o N : Nat} {C : String} {T : u_T} {v : Value} {ty : FieldType} {S' : am_S} (hf : am_fok Y.1 idx c j C T N) (ty0 : Nat → FieldType) (hty : ∀ k, k < N → parseFieldDescriptor (T k).2.2.1 = some (ty0 k)) (hnm : ∀ a, a < N → ∀ b, b < N → a ≠ b → (T a).2.1 ≠ (T b).2.1) (hfin : (T j).2.2.2 = false) (hd : decode Y.2.1 pc = .ok (.putfield idx, 3)) (hk : am_kd o = 100 + c)
    (hdt : parseFieldDescriptor (T j).2.2.1 = some ty) (hn : narrow ty (am_v E v) = am_v E v) (hfit : fits ty (am_v E v) = true) (he : am_fl E S' o c = (am_fl E S o c).set j (am_v E v)) (hne : ∀ a, a ≠ o → am_ent E S' a = am_ent E S a) (kk : am_Ev E l Y Z cs sl (pc + 3) L st S' e) : am_Ev E l Y Z cs sl pc L (v :: .ref o :: st) S e := by
  intro r hr p en s m args below meth c0 C0 H locs ls hP hS hl
  obtain ⟨f1, f2, f3, f4, f5⟩ := hf
  have hD := C0.2.2.2.2.2.2.2.2.1.2.1
  refine va_put C0.1 C0.2.1 C0.2.2.2.2.2.2.1 f4 ty0 hty hnm C0.2.2.2.2.2.1 C0.2.2.2.2.2.2.2.2.1.1 hP (am_ws_D hD) hS o (am_obj hk) f1 j f2 (C0.2.2.2.2.2.2.1 _ f5) (fun _ h => h) hfin hdt hn hfit (by rw [am_fl_len, f3]; exact f2) hd (fun H1 locs1 hP1 _ hS1 => ?_)
  rw [am_ws_set (S' := S') (by rw [am_ent_o hk, he]) hne] at hP1
  exact kk r hr p en s m args below meth c0 C0 H1 locs1 ls hP1 hS1 hl
theorem ev_putVN {idx c j o N : Nat} {C host : String} {T : u_T} {v : Value} {ty : FieldType} {S' : am_S} (hf : am_fokN Y.1 idx c j C T N host) (ty0 : Nat → FieldType) (hty : ∀ k, k < N → parseFieldDescriptor (T k).2.2.1 = some (ty0 k)) (hnm : ∀ a, a < N → ∀ b, b < N → a ≠ b → (T a).2.1 ≠ (T b).2.1) (hfin : (T j).2.2.2 = false) (hd : decode Y.2.1 pc = .ok (.putfield idx, 3)) (hk : am_kd o = 100 + c)
    (hdt : parseFieldDescriptor (T j).2.2.1 = some ty) (hn : narrow ty (am_v E v) = am_v E v) (hfit : fits ty (am_v E v) = true) (he : am_fl E S' o c = (am_fl E S o c).set j (am_v E v)) (hne : ∀ a, a ≠ o → am_ent E S' a = am_ent E S a) (kk : am_Ev E l Y Z cs sl (pc + 3) L st S' e) : am_Ev E l Y Z cs sl pc L (v :: .ref o :: st) S e := by
  intro r hr p en s m args below meth c0 C0 H locs ls hP hS hl
  obtain ⟨f1, f2, f3, f4, f5⟩ := hf
  have hD := C0.2.2.2.2.2.2.2.2.1.2.1
  refine va_putN C0.1 C0.2.1 C0.2.2.2.2.2.2.1 f4 ty0 hty hnm C0.2.2.2.2.2.1 C0.2.2.2.2.2.2.2.2.1.1 hP (am_ws_D hD) hS o (am_obj hk) f1 j f2 (va_Nw.use (am_nw_on (List.mem_filter.mp f5).2) (C0.2.2.2.2.2.2.2.2.1.2.2.1 _ f5)) (fun _ h => h) hfin hdt hn hfit (by rw [am_fl_len, f3]; exact f2) hd (fun H1 locs1 hP1 _ hS1 => ?_)
  rw [am_ws_set (S' := S') (by rw [am_ent_o hk, he]) hne] at hP1
  exact kk r hr p en s m args below meth c0 C0 H1 locs1 ls hP1 hS1 hl
/-! rows of numbers -/
theorem am_ld_some {σ : Nat → Nat → Int32} {a : Nat} {i v : Int32} (h : am_ld σ a i = some v) : vp_in i (am_ln a) ∧ v = σ a i.toNatClampNeg := by
  unfold am_ld at h
  by_cases q : i < 0 ∨ am_ln a ≤ i.toNatClampNeg
  · rw [if_pos q] at h; cases h
  · rw [if_neg q] at h; cases h; exact ⟨q, rfl⟩
theorem am_st_some {σ σ' : Nat → Nat → Int32} {a : Nat} {i v : Int32} (h : am_st σ a i v = some σ') : vp_in i (am_ln a) ∧ σ' = am_u2 σ a i.toNatClampNeg v := by
  unfold am_st at h
  by_cases q : i < 0 ∨ am_ln a ≤ i.toNatClampNeg
  · rw [if_pos q] at h; cases h
  · rw [if_neg q] at h; cases h; exact ⟨q, rfl⟩
theorem ev_iald {a : Nat} {i : Int32} {f : Int32 → Option β} (hd : decode Y.2.1 pc = .ok (.iaload, 1)) (hk : am_kd a = 1) (kk : ∀ v, am_ld S.1 a i = some v → am_Ev E l Y Z cs sl (pc + 1) L (.int v :: st) S (f v)) : am_Ev E l Y Z cs sl pc L (.int i :: .ref a :: st) S ((am_ld S.1 a i).bind f) :=
  ev_bind fun v hv => by
    intro r hr p en s m args below meth c0 C0 H locs ls hP hS hl
    have k := kk v hv r hr p en s m args below meth c0 C0 H locs ls hP hS hl
    obtain ⟨h1, h2⟩ := am_ld_some hv
    rw [h2] at k
    exact va_iald C0.1 C0.2.1 C0.2.2.2.2.2.2.2.2.1.1 hP a 1 (by rw [am_ws_get (am_a_lt hk (by decide)), am_ent_1 hk]) rfl h1 hd k
theorem ev_bald {a : Nat} {i : Int32} {f : Int32 → Option β} (hd : decode Y.2.1 pc = .ok (.baload, 1)) (hk : am_kd a = 2) (kk : ∀ v, am_ld S.1 a i = some v → am_Ev E l Y Z cs sl (pc + 1) L (.int v :: st) S (f v)) : am_Ev E l Y Z cs sl pc L (.int i :: .ref a :: st) S ((am_ld S.1 a i).bind f) :=
  ev_bind fun v hv => by
    intro r hr p en s m args below meth c0 C0 H locs ls hP hS hl
    have k := kk v hv r hr p en s m args below meth c0 C0 H locs ls hP hS hl
    obtain ⟨h1, h2⟩ := am_ld_some hv
    rw [h2] at k
    exact va_bald C0.1 C0.2.1 C0.2.2.2.2.2.2.2.2.1.1 hP a 2 (by rw [am_ws_get (am_a_lt hk (by decide)), am_ent_2 hk]) rfl h1 hd k
theorem ev_sald {a : Nat} {i : Int32} {f : Int32 → Option β} (hd : decode Y.2.1 pc = .ok (.saload, 1)) (hk : am_kd a = 3) (kk : ∀ v, am_ld S.1 a i = some v → am_Ev E l Y Z cs sl (pc + 1) L (.int v :: st) S (f v)) : am_Ev E l Y Z cs sl pc L (.int i :: .ref a :: st) S ((am_ld S.1 a i).bind f) :=
  ev_bind fun v hv => by
    intro r hr p en s m args below meth c0 C0 H locs ls hP hS hl
    have k := kk v hv r hr p en s m args below meth c0 C0 H locs ls hP hS hl
    obtain ⟨h1, h2⟩ := am_ld_some hv
    rw [h2] at k
    exact va_sald C0.1 C0.2.1 C0.2.2.2.2.2.2.2.2.1.1 hP a 3 (by rw [am_ws_get (am_a_lt hk (by decide)), am_ent_3 hk]) rfl h1 hd k
theorem ev_lald {a : Nat} {i : Int32} {f : Int32 → Option β} (hd : decode Y.2.1 pc = .ok (.laload, 1)) (hk : am_kd a = 4) (kk : ∀ v, am_ld S.1 a i = some v → am_Ev E l Y Z cs sl (pc + 1) L (.long v.toInt64 :: st) S (f v)) : am_Ev E l Y Z cs sl pc L (.int i :: .ref a :: st) S ((am_ld S.1 a i).bind f) :=
  ev_bind fun v hv => by
    intro r hr p en s m args below meth c0 C0 H locs ls hP hS hl
    have k := kk v hv r hr p en s m args below meth c0 C0 H locs ls hP hS hl
    obtain ⟨h1, h2⟩ := am_ld_some hv
    rw [h2] at k
    exact va_lald (f := fun j => (S.1 a j).toInt64) C0.1 C0.2.1 C0.2.2.2.2.2.2.2.2.1.1 hP a 4 (by rw [am_ws_get (am_a_lt hk (by decide)), am_ent_4 hk]) rfl h1 hd k
theorem am_ws_st {a j : Nat} {v : Int32} {x : va_E} (h : am_ent E (am_u2 S.1 a j v, S.2) a = x) : (am_ws E S).set a (E.1 a, x) = am_ws E (am_u2 S.1 a j v, S.2) := am_ws_set h (fun _ hb => am_ent_ne hb)
theorem ev_iast {a : Nat} {i x : Int32} {f : (Nat → Nat → Int32) → Option β} (hd : decode Y.2.1 pc = .ok (.iastore, 1)) (hk : am_kd a = 1) (kk : ∀ σ, am_st S.1 a i x = some σ → am_Ev E l Y Z cs sl (pc + 1) L st (σ, S.2) (f σ)) : am_Ev E l Y Z cs sl pc L (.int x :: .int i :: .ref a :: st) S ((am_st S.1 a i x).bind f) :=
  ev_bind fun σ hv => by
    intro r hr p en s m args below meth c0 C0 H locs ls hP hS hl
    obtain ⟨h1, h2⟩ := am_st_some hv
    refine va_iast C0.1 C0.2.1 C0.2.2.2.2.2.2.2.2.1.1 hP (am_ws_D C0.2.2.2.2.2.2.2.2.1.2.1) hS a 1 (by rw [am_ws_get (am_a_lt hk (by decide)), am_ent_1 hk]) rfl h1 hd (fun H1 locs1 hP1 _ hS1 => ?_)
    rw [am_ws_st (v := x) (j := i.toNatClampNeg) (by rw [am_ent_1 hk]; dsimp only; rw [am_u2_row]), ← h2] at hP1
    exact kk σ hv r hr p en s m args below meth c0 C0 H1 locs1 ls hP1 hS1 hl
theorem ev_bast {a : Nat} {i x : Int32} {f : (Nat → Nat → Int32) → Option β} (hd : decode Y.2.1 pc = .ok (.bastore, 1)) (hk : am_kd a = 2) (kk : ∀ σ, am_st S.1 a i x.toInt8.toInt32 = some σ → am_Ev E l Y Z cs sl (pc + 1) L st (σ, S.2) (f σ)) : am_Ev E l Y Z cs sl pc L (.int x :: .int i :: .ref a :: st) S ((am_st S.1 a i x.toInt8.toInt32).bind f) :=
  ev_bind fun σ hv => by
    intro r hr p en s m args below meth c0 C0 H locs ls hP hS hl
    obtain ⟨h1, h2⟩ := am_st_some hv
    refine va_bast C0.1 C0.2.1 C0.2.2.2.2.2.2.2.2.1.1 hP (am_ws_D C0.2.2.2.2.2.2.2.2.1.2.1) hS a 2 (by rw [am_ws_get (am_a_lt hk (by decide)), am_ent_2 hk]) rfl h1 hd (fun H1 locs1 hP1 _ hS1 => ?_)
    rw [vp_nar_byte, am_ws_st (v := x.toInt8.toInt32) (j := i.toNatClampNeg) (by rw [am_ent_2 hk]; dsimp only; rw [am_u2_row]), ← h2] at hP1
    exact kk σ hv r hr p en s m args below meth c0 C0 H1 locs1 ls hP1 hS1 hl
theorem ev_sast {a : Nat} {i x : Int32} {f : (Nat → Nat → Int32) → Option β} (hd : decode Y.2.1 pc = .ok (.sastore, 1)) (hk : am_kd a = 3) (kk : ∀ σ, am_st S.1 a i x.toInt16.toInt32 = some σ → am_Ev E l Y Z cs sl (pc + 1) L st (σ, S.2) (f σ)) : am_Ev E l Y Z cs sl pc L (.int x :: .int i :: .ref a :: st) S ((am_st S.1 a i x.toInt16.toInt32).bind f) :=
  ev_bind fun σ hv => by
    intro r hr p en s m args below meth c0 C0 H locs ls hP hS hl
    obtain ⟨h1, h2⟩ := am_st_some hv
    refine va_sast C0.1 C0.2.1 C0.2.2.2.2.2.2.2.2.1.1 hP (am_ws_D C0.2.2.2.2.2.2.2.2.1.2.1) hS a 3 (by rw [am_ws_get (am_a_lt hk (by decide)), am_ent_3 hk]) rfl h1 hd (fun H1 locs1 hP1 _ hS1 => ?_)
    rw [vp_nar_short, am_ws_st (v := x.toInt16.toInt32) (j := i.toNatClampNeg) (by rw [am_ent_3 hk]; dsimp only; rw [am_u2_row]), ← h2] at hP1
    exact kk σ hv r hr p en s m args below meth c0 C0 H1 locs1 ls hP1 hS1 hl
theorem am_updL {f : Nat → Int32} {i : Nat} {x : Int32} : vp_updL (fun j => (f j).toInt64) i x.toInt64 = fun j => (upd f i x j).toInt64 := by
  funext j
  unfold vp_updL upd
  by_cases h : j = i
  · rw [if_pos h, if_pos h]
  · rw [if_neg h, if_neg h]
theorem ev_last {a : Nat} {i x : Int32} {f : (Nat → Nat → Int32) → Option β} (hd : decode Y.2.1 pc = .ok (.lastore, 1)) (hk : am_kd a = 4) (kk : ∀ σ, am_st S.1 a i x = some σ → am_Ev E l Y Z cs sl (pc + 1) L st (σ, S.2) (f σ)) : am_Ev E l Y Z cs sl pc L (.long x.toInt64 :: .int i :: .ref a :: st) S ((am_st S.1 a i x).bind f) :=
  ev_bind fun σ hv => by
    intro r hr p en s m args below meth c0 C0 H locs ls hP hS hl
    obtain ⟨h1, h2⟩ := am_st_some hv
    refine va_last C0.1 C0.2.1 C0.2.2.2.2.2.2.2.2.1.1 hP (am_ws_D C0.2.2.2.2.2.2.2.2.1.2.1) hS a 4 (by rw [am_ws_get (am_a_lt hk (by decide)), am_ent_4 hk]) rfl h1 hd (fun H1 locs1 hP1 _ hS1 => ?_)
    rw [am_updL, am_ws_st (v := x) (j := i.toNatClampNeg) (by rw [am_ent_4 hk]; dsimp only; rw [am_u2_row]), ← h2] at hP1
    exact kk σ hv r hr p en s m args below meth c0 C0 H1 locs1 ls hP1 hS1 hl
theorem ev_alen {a k : Nat} (hd : decode Y.2.1 pc = .ok (.arraylength, 1)) (hk : am_kd a = k) (h1 : 1 ≤ k) (h3 : k ≤ 3) (kk : am_Ev E l Y Z cs sl (pc + 1) L (.int (Int32.ofNat (am_ln a)) :: st) S e) : am_Ev E l Y Z cs sl pc L (.ref a :: st) S e := by
  intro r hr p en s m args below meth c0 C0 H locs ls hP hS hl
  have kk := kk r hr p en s m args below meth c0 C0 H locs ls hP hS hl
  have hK := C0.2.2.2.2.2.2.2.2.1.1
  have hn : a < am_N := am_a_lt hk (by omega)
  rcases (show k = 1 ∨ k = 2 ∨ k = 3 by omega) with h | h | h
  · subst h; exact va_alen C0.1 C0.2.1 hK hP a 1 (x := (am_ln a, .inl (S.1 a))) (by rw [am_ws_get hn, am_ent_1 hk]) (ty := .int) rfl rfl hd kk
  · subst h; exact va_alen C0.1 C0.2.1 hK hP a 2 (x := (am_ln a, .inl (S.1 a))) (by rw [am_ws_get hn, am_ent_2 hk]) (ty := .byte) rfl rfl hd kk
  · subst h; exact va_alen C0.1 C0.2.1 hK hP a 3 (x := (am_ln a, .inl (S.1 a))) (by rw [am_ws_get hn, am_ent_3 hk]) (ty := .short) rfl rfl hd kk
/-- the script -/
def am_sx (E : am_E) (i : Int32) : Option Int32 := if i < 0 ∨ E.2.2.2.2.2.1 ≤ i.toNatClampNeg then none else some (E.2.2.2.2.2.2 i.toNatClampNeg)
theorem ev_sld {i : Int32} {f : Int32 → Option β} (hd : decode Y.2.1 pc = .ok (.iaload, 1)) (kk : ∀ v, am_sx E i = some v → am_Ev E l Y Z cs sl (pc + 1) L (.int v :: st) S (f v)) : am_Ev E l Y Z cs sl pc L (.int i :: .ref 900 :: st) S ((am_sx E i).bind f) :=
  ev_bind fun v hv => by
    intro r hr p en s m args below meth c0 C0 H locs ls hP hS hl
    have k := kk v hv r hr p en s m args below meth c0 C0 H locs ls hP hS hl
    unfold am_sx at hv
    by_cases q : i < 0 ∨ E.2.2.2.2.2.1 ≤ i.toNatClampNeg
    · rw [if_pos q] at hv; cases hv
    · rw [if_neg q] at hv
      cases hv
      obtain ⟨-, h2, h3, h4, -⟩ := C0.2.2.2.2.2.2.2.2.1.2.2.2.2.2
      exact va_sld C0.1 C0.2.1 h2 (Nat.lt_of_lt_of_le h3 h4) (Nat.not_le.mpr h3) hS q hd k
theorem ev_slen (hd : decode Y.2.1 pc = .ok (.arraylength, 1)) (kk : am_Ev E l Y Z cs sl (pc + 1) L (.int (Int32.ofNat E.2.2.2.2.2.1) :: st) S e) : am_Ev E l Y Z cs sl pc L (.ref 900 :: st) S e := by
  intro r hr p en s m args below meth c0 C0 H locs ls hP hS hl
  have k := kk r hr p en s m args below meth c0 C0 H locs ls hP hS hl
  obtain ⟨-, h2, h3, h4, -⟩ := C0.2.2.2.2.2.2.2.2.1.2.2.2.2.2
  exact va_slen C0.1 C0.2.1 h2 (Nat.lt_of_lt_of_le h3 h4) (Nat.not_le.mpr h3) hS hd k
end EVH
