theorem am_fn : ∀ v ∈ ([] : List Value), v.category = 1 := fun _ h => nomatch h
theorem am_fc {v : Value} {vs : List Value} (h : v.category = 1) (t : ∀ w ∈ vs, w.category = 1) : ∀ w ∈ v :: vs, w.category = 1 := List.forall_mem_cons.mpr ⟨h, t⟩
theorem am_fit {d d' mc ms mc' ms' cs sl maxL : Nat} (h : d' < d) (hm : maxL ≤ 45) (h1 : cs + mc' ≤ mc) (h2 : sl + ms' ≤ ms) : am_fitR (am_rm d mc ms) cs sl d' mc' ms' maxL := by
  unfold am_fitR am_rm
  refine ⟨⟨?_, ?_⟩, h1, h2⟩
  · show d' + 8 + 1 ≤ d + 8; omega
  · show 8 + (maxL + 11) + (64 * d' + 300) ≤ 64 * d + 300; omega
theorem am_ib {γ δ : Type} {q : Prop} {hq : Decidable q} {a b : Option γ} {f : γ → Option δ} : (@ite _ q hq a b).bind f = @ite _ q hq (a.bind f) (b.bind f) := by
  by_cases h : q
  · rw [if_pos h, if_pos h]
  · rw [if_neg h, if_neg h]
theorem am_no1 {γ : Type} {g : Option γ} {w : γ → am_R} (h : ∀ x, ∃ v, (w x).1 = .inl v) : ∀ r, g.map w = some r → ∃ v, r.1 = .inl v := fun r hr => by
  obtain ⟨x, -, rfl⟩ := Option.map_eq_some_iff.mp hr
  exact h x
/-! a loop: its body says how the round ends: on (inl), or out (inr) -/
def am_loop {γ δ : Type} (body : γ → Option (γ ⊕ δ)) : Nat → γ → Option δ
  | 0, _ => none
  | n + 1, x => (body x).bind (fun r => match r with | .inl y => am_loop body n y | .inr d => some d)
theorem am_loop_s {γ δ : Type} {body : γ → Option (γ ⊕ δ)} {n : Nat} {x : γ} : am_loop body (n + 1) x = (body x).bind (fun r => match r with | .inl y => am_loop body n y | .inr d => some d) := rfl
def am_fuel : Nat := 1000000000000
/-- fewer locals are known -/
def am_W (A B : List (Option Value)) : Prop := ∀ (i : Nat) (v : Value), A[i]? = some (some v) → B[i]? = some (some v)
theorem am_wn {B : List (Option Value)} : am_W [] B := fun i v h => by simp at h
theorem am_wk {a : Option Value} {A B : List (Option Value)} (h : am_W A B) : am_W (a :: A) (a :: B) := fun i v hv => by
  cases i with
  | zero => exact hv
  | succ i => exact h i v hv
theorem am_wf {b : Option Value} {A B : List (Option Value)} (h : am_W A B) : am_W (none :: A) (b :: B) := fun i v hv => by
  cases i with
  | zero => cases hv
  | succ i => exact h i v hv
def am_thV (g : Option am_R) (f : am_S → Option am_R) : Option am_R := g.bind (fun r => match r.1 with | .inl none => f r.2 | .inl (some _) => none | .inr k => some (.inr k, r.2))
def am_thI (g : Option am_R) (f : Int32 → am_S → Option am_R) : Option am_R := g.bind (fun r => match r.1 with | .inl (some (.int v)) => f v r.2 | .inl _ => none | .inr k => some (.inr k, r.2))
section EVM
variable {β : Type} {E : am_E} {l : Launch} {Y : am_Y} {Z : List Frame → Array Value → State → β → State → Prop} {cs sl pc : Nat} {L : List (Option Value)} {st : List Value} {S : am_S} {e e1 e2 : Option β} {mc ms : Nat}
theorem ev_weak {A : List (Option Value)} (h : am_W A L) (k : am_Ev E l Y Z cs sl pc A st S e) : am_Ev E l Y Z cs sl pc L st S e :=
  fun r hr p en s m args below meth c C H locs ls hP hS hl => k r hr p en s m args below meth c C H locs ls hP hS ⟨hl.1, hl.2.1, fun i v hv => hl.2.2 i v (h i v hv)⟩
theorem ev_widen {cs' sl' : Nat} (h1 : cs ≤ cs') (h2 : sl ≤ sl') (k : am_Ev E l Y Z cs' sl' pc L st S e) : am_Ev E l Y Z cs sl pc L st S e :=
  fun r hr p en s m args below meth c C H locs ls hP hS hl => W.widen (k := cs') (n := sl') h1 h2 (k r hr p en s m args below meth c C H locs ls hP hS hl)
theorem ev_reg {γ : Type} {X : Option γ} {F : γ → Option β} {cs' sl' : Nat} (j : Nat) (Lj : γ → List (Option Value)) (stj : γ → List Value) (Sj : γ → am_S) (hX : (∀ t, am_Ev E l Y Z cs' sl' j (Lj t) (stj t) (Sj t) (F t)) → am_Ev E l Y Z cs sl pc L st S (X.bind F))
    (hJ : ∀ t, am_Ev E l Y Z cs' sl' j (Lj t) (stj t) (Sj t) (F t)) : am_Ev E l Y Z cs sl pc L st S (X.bind F) := hX hJ
theorem ev_loop {γ δ : Type} {body : γ → Option (γ ⊕ δ)} {F : δ → Option β} (h ex : Nat) (Lh : γ → List (Option Value)) (Lx : δ → List (Option Value)) (Sh : γ → am_S) (Sx : δ → am_S)
    (hb : ∀ (x : γ) (G : γ ⊕ δ → Option β), (∀ y, am_Ev E l Y Z cs sl h (Lh y) [] (Sh y) (G (.inl y))) → (∀ d, am_Ev E l Y Z cs sl ex (Lx d) [] (Sx d) (G (.inr d))) → am_Ev E l Y Z cs sl h (Lh x) [] (Sh x) ((body x).bind G))
    (hF : ∀ d, am_Ev E l Y Z cs sl ex (Lx d) [] (Sx d) (F d)) : ∀ (n : Nat) (x : γ), am_Ev E l Y Z cs sl h (Lh x) [] (Sh x) ((am_loop body n x).bind F) := by
  intro n
  induction n with
  | zero => intro x; exact ev_none
  | succ n ih =>
    intro x
    show am_Ev E l Y Z cs sl h (Lh x) [] (Sh x) (((body x).bind (fun r => match r with | .inl y => am_loop body n y | .inr d => some d)).bind F)
    rw [Option.bind_assoc]
    exact hb x _ (fun y => ih y) (fun d => hF d)
/-- .. with ends of the method in it -/
theorem ev_loopR {γ δ ρ : Type} {body : γ → Option (γ ⊕ (δ ⊕ ρ))} {F : δ ⊕ ρ → Option β} (h ex : Nat) (Lh : γ → List (Option Value)) (Lx : δ → List (Option Value)) (Sh : γ → am_S) (Sx : δ → am_S)
    (hb : ∀ (x : γ) (G : γ ⊕ (δ ⊕ ρ) → Option β), (∀ y, am_Ev E l Y Z cs sl h (Lh y) [] (Sh y) (G (.inl y))) → (∀ d, am_Ev E l Y Z cs sl ex (Lx d) [] (Sx d) (G (.inr (.inl d)))) → (∀ b, G (.inr (.inr b)) = F (.inr b)) → am_Ev E l Y Z cs sl h (Lh x) [] (Sh x) ((body x).bind G))
    (hF : ∀ d, am_Ev E l Y Z cs sl ex (Lx d) [] (Sx d) (F (.inl d))) : ∀ (n : Nat) (x : γ), am_Ev E l Y Z cs sl h (Lh x) [] (Sh x) ((am_loop body n x).bind F) := by
  intro n
  induction n with
  | zero => intro x; exact ev_none
  | succ n ih =>
    intro x
    rw [am_loop_s, Option.bind_assoc]
    exact hb x _ (fun y => ih y) (fun d => hF d) (fun b => rfl)
/-! switches -/
theorem ev_swI {dflt lo hi : Int} {offs : Array Int} {len : Nat} {x : Int32} {off : Int} {tgt : Nat} (hd : decode Y.2.1 pc = .ok (.tableswitch dflt lo hi offs, len)) (h1 : ¬ x.toInt < lo) (h2 : ¬ hi < x.toInt) (ho : offs[(x.toInt - lo).toNat]? = some off) (ht : (pc : Int) + off = (tgt : Int)) (kk : am_Ev E l Y Z cs sl tgt L st S e) : am_Ev E l Y Z cs sl pc L (.int x :: st) S e :=
  fun r hr p en s m args below meth c C H locs ls hP hS hl => lv_tableIn C.1 C.2.1 hd h1 h2 ho ht (kk r hr p en s m args below meth c C H locs ls hP hS hl)
theorem ev_swO {dflt lo hi : Int} {offs : Array Int} {len : Nat} {x : Int32} {tgt : Nat} (hd : decode Y.2.1 pc = .ok (.tableswitch dflt lo hi offs, len)) (h : x.toInt < lo ∨ hi < x.toInt) (ht : (pc : Int) + dflt = (tgt : Int)) (kk : am_Ev E l Y Z cs sl tgt L st S e) : am_Ev E l Y Z cs sl pc L (.int x :: st) S e :=
  fun r hr p en s m args below meth c C H locs ls hP hS hl => lv_tableOut C.1 C.2.1 hd h ht (kk r hr p en s m args below meth c C H locs ls hP hS hl)
theorem am_neI {x k : Int32} {z : Int} (h : ¬ x = k) (hz : k.toInt = z) : x.toInt ≠ z := fun q => h (Int32.toInt_inj.mp (q.trans hz.symm))
theorem am_nb {v : Int32} (h : v = 0 ∨ v = 1) : narrow .boolean (.int v) = .int v := by rcases h with h | h <;> rw [h] <;> decide
/-! stores into fields -/
theorem ev_putI {idx c j o N : Nat} {C : String} {T : u_T} {v : Int32} (hf : am_fok Y.1 idx c j C T N) (ty0 : Nat → FieldType) (hty : ∀ k, k < N → parseFieldDescriptor (T k).2.2.1 = some (ty0 k)) (hnm : ∀ a, a < N → ∀ b, b < N → a ≠ b → (T a).2.1 ≠ (T b).2.1) (hfin : (T j).2.2.2 = false) (hdt : parseFieldDescriptor (T j).2.2.1 = some .int) (hr : am_rf c j = false) (hd : decode Y.2.1 pc = .ok (.putfield idx, 3)) (hk : am_kd o = 100 + c)
    (kk : am_Ev E l Y Z cs sl (pc + 3) L st (am_u2 S.1 o j v, S.2) e) : am_Ev E l Y Z cs sl pc L (.int v :: .ref o :: st) S e :=
  ev_putV hf ty0 hty hnm hfin hd hk hdt rfl rfl (am_fl_put (by rw [hf.2.2.1]; exact hf.2.1) hr) (fun _ h => am_ent_ne h) kk
theorem ev_putIN {idx c j o N : Nat} {C host : String} {T : u_T} {v : Int32} (hf : am_fokN Y.1 idx c j C T N host) (ty0 : Nat → FieldType) (hty : ∀ k, k < N → parseFieldDescriptor (T k).2.2.1 = some (ty0 k)) (hnm : ∀ a, a < N → ∀ b, b < N → a ≠ b → (T a).2.1 ≠ (T b).2.1) (hfin : (T j).2.2.2 = false) (hdt : parseFieldDescriptor (T j).2.2.1 = some .int) (hr : am_rf c j = false) (hd : decode Y.2.1 pc = .ok (.putfield idx, 3)) (hk : am_kd o = 100 + c)
    (kk : am_Ev E l Y Z cs sl (pc + 3) L st (am_u2 S.1 o j v, S.2) e) : am_Ev E l Y Z cs sl pc L (.int v :: .ref o :: st) S e :=
  ev_putVN hf ty0 hty hnm hfin hd hk hdt rfl rfl (am_fl_put (by rw [hf.2.2.1]; exact hf.2.1) hr) (fun _ h => am_ent_ne h) kk
theorem ev_putB {idx c j o N : Nat} {C : String} {T : u_T} {v : Int32} (hv : narrow .boolean (.int v) = .int v) (hv2 : fits .boolean (.int v) = true) (hf : am_fok Y.1 idx c j C T N) (ty0 : Nat → FieldType) (hty : ∀ k, k < N → parseFieldDescriptor (T k).2.2.1 = some (ty0 k)) (hnm : ∀ a, a < N → ∀ b, b < N → a ≠ b → (T a).2.1 ≠ (T b).2.1) (hfin : (T j).2.2.2 = false) (hdt : parseFieldDescriptor (T j).2.2.1 = some .boolean) (hr : am_rf c j = false) (hd : decode Y.2.1 pc = .ok (.putfield idx, 3)) (hk : am_kd o = 100 + c)
    (kk : am_Ev E l Y Z cs sl (pc + 3) L st (am_u2 S.1 o j v, S.2) e) : am_Ev E l Y Z cs sl pc L (.int v :: .ref o :: st) S e :=
  ev_putV hf ty0 hty hnm hfin hd hk hdt hv hv2 (am_fl_put (by rw [hf.2.2.1]; exact hf.2.1) hr) (fun _ h => am_ent_ne h) kk
theorem ev_putR {idx c j o q N : Nat} {C : String} {T : u_T} {ty : FieldType} (hn : narrow ty (.ref (E.1 q)) = .ref (E.1 q)) (hfit : fits ty (.ref (E.1 q)) = true) (hf : am_fok Y.1 idx c j C T N) (ty0 : Nat → FieldType) (hty : ∀ k, k < N → parseFieldDescriptor (T k).2.2.1 = some (ty0 k)) (hnm : ∀ a, a < N → ∀ b, b < N → a ≠ b → (T a).2.1 ≠ (T b).2.1) (hfin : (T j).2.2.2 = false) (hdt : parseFieldDescriptor (T j).2.2.1 = some ty) (hr : am_rf c j = true) (hd : decode Y.2.1 pc = .ok (.putfield idx, 3)) (hk : am_kd o = 100 + c)
    (kk : am_Ev E l Y Z cs sl (pc + 3) L st (S.1, am_u2 S.2 o j (some q)) e) : am_Ev E l Y Z cs sl pc L (.ref q :: .ref o :: st) S e :=
  ev_putV (v := .ref q) hf ty0 hty hnm hfin hd hk hdt hn hfit (am_fl_putR (by rw [hf.2.2.1]; exact hf.2.1) hr) (fun _ h => am_ent_neR h) kk
end EVM
section EVG
variable {E : am_E} {l : Launch} {Y : am_Y} {cs sl pc : Nat} {L : List (Option Value)} {st : List Value} {S : am_S} {mc ms : Nat}
theorem ev_callGV {stk rest : List Value} {mc' ms' : Nat} {g : Option am_R} {f : am_S → Option am_R} (hc : ∀ r, g = some r → am_Call E l Y cs sl pc L stk rest mc' ms' S r) (hh : Y.2.2.2.2.1 = []) (h1 : cs + mc' ≤ mc) (h2 : sl + ms' ≤ ms)
    (kk : ∀ S', g = some (.inl none, S') → am_Ev E l Y (am_Z E mc ms) (cs + mc') (sl + ms') (pc + 3) L rest S' (f S')) : am_Ev E l Y (am_Z E mc ms) cs sl pc L stk S (am_thV g f) := by
  have h := ev_callG (f := fun v S' => match v with | none => f S' | some _ => none) hc hh h1 h2 (fun v S' hg => by
    cases v with
    | none => exact kk S' hg
    | some v => exact ev_none)
  refine ev_eq ?_ h
  unfold am_thV am_thn
  congr 1
  funext r
  obtain ⟨w, S'⟩ := r
  cases w with
  | inl v => cases v <;> rfl
  | inr k => rfl
theorem ev_callGI {stk rest : List Value} {mc' ms' : Nat} {g : Option am_R} {f : Int32 → am_S → Option am_R} (hc : ∀ r, g = some r → am_Call E l Y cs sl pc L stk rest mc' ms' S r) (hh : Y.2.2.2.2.1 = []) (h1 : cs + mc' ≤ mc) (h2 : sl + ms' ≤ ms)
    (kk : ∀ v S', g = some (.inl (some (.int v)), S') → am_Ev E l Y (am_Z E mc ms) (cs + mc') (sl + ms') (pc + 3) L (.int v :: rest) S' (f v S')) : am_Ev E l Y (am_Z E mc ms) cs sl pc L stk S (am_thI g f) := by
  have h := ev_callG (f := fun v S' => match v with | some (.int x) => f x S' | _ => none) hc hh h1 h2 (fun v S' hg => by
    cases v with
    | none => exact ev_none
    | some v =>
      cases v with
      | int x => exact kk x S' hg
      | _ => exact ev_none)
  refine ev_eq ?_ h
  unfold am_thI am_thn
  congr 1
  funext r
  obtain ⟨w, S'⟩ := r
  cases w with
  | inl v =>
    cases v with
    | none => rfl
    | some v => cases v <;> rfl
  | inr k => rfl
end EVG
/-! texts: length and charAt of those that are read in -/
def f_J0_length_8abf5 (o : Nat) : Option Int32 := if 1000 ≤ o ∧ o < 1000 + am_nS then some (Int32.ofNat (am_lens.getD (o - 1000) 0)) else none
def f_J0_charAt_5068e (o : Nat) (i : Int32) : Option Int32 := if 1000 ≤ o ∧ o < 1000 + am_nS ∧ ¬ (i < 0 ∨ am_lens.getD (o - 1000) 0 ≤ i.toNatClampNeg) then some ((am_byts.getD (o - 1000) []).getD i.toNatClampNeg 0) else none
def am_cvS (own : String) (idx : Nat) (y : MethodName) (bytes : ByteArray) (maxL : Nat) (ret : Option FieldType) (n : Nat) : Prop :=
  y.cls = "java/lang/String" ∧ Cond.code y bytes maxL ret ∈ am_G ∧ Cond.methodLink own idx y ∈ am_G ∧ Cond.instanceMethod y ∈ am_G ∧ Cond.selects y.cls y y ∈ am_G ∧ Cond.initialized y.cls ∈ am_G ∧ am_nms y n
def am_inS (o : Nat) : Prop := ∃ i, i < am_nS ∧ o = 1000 + i
theorem am_str_in {γ : Type} {g : Option γ} {w : γ → am_R} {o : Nat} (h : ∀ x, g = some x → am_inS o) : ∀ r, g.map w = some r → am_inS o := fun r hr => by
  obtain ⟨x, hx, rfl⟩ := Option.map_eq_some_iff.mp hr
  exact h x hx
theorem f_J0_length_8abf5_g {o : Nat} : ∀ x, f_J0_length_8abf5 o = some x → am_inS o := fun x hx => by
  unfold f_J0_length_8abf5 at hx
  by_cases q : 1000 ≤ o ∧ o < 1000 + am_nS
  · exact ⟨o - 1000, by omega, by omega⟩
  · rw [if_neg q] at hx; cases hx
theorem f_J0_charAt_5068e_g {o : Nat} {i : Int32} : ∀ x, f_J0_charAt_5068e o i = some x → am_inS o := fun x hx => by
  unfold f_J0_charAt_5068e at hx
  by_cases q : 1000 ≤ o ∧ o < 1000 + am_nS ∧ ¬ (i < 0 ∨ am_lens.getD (o - 1000) 0 ≤ i.toNatClampNeg)
  · exact ⟨o - 1000, by omega, by omega⟩
  · rw [if_neg q] at hx; cases hx
section EVS
variable {β : Type} {E : am_E} {l : Launch} {Y : am_Y} {Z : List Frame → Array Value → State → β → State → Prop} {cs sl pc : Nat} {L : List (Option Value)} {st : List Value} {S : am_S} {e e1 e2 : Option β} {mc ms : Nat}
theorem am_callVS {idx o d' mc' ms' maxL n : Nat} {y : MethodName} {bytes : ByteArray} {ret : Option FieldType} {as : List Value} {g : Option am_R} (hc : am_cvS Y.1 idx y bytes maxL ret n) (hd : decode Y.2.1 pc = .ok (.invokevirtual idx, 3)) (hn : as.length = n) (hw : (st.map fun v => v.category).sum ≤ 8)
    (hR : am_fitR Y.2.2.2.2.2 cs sl d' mc' ms' maxL) (hin : ∀ r, g = some r → am_inS o) (hM : am_M E l y (.code y bytes maxL ret) d' mc' ms' (.ref o :: as) S g) : ∀ r, g = some r → am_Call E l Y cs sl pc L (as.reverse ++ .ref o :: st) st mc' ms' S r := by
  intro r hr p en s m args below meth c0 C H locs ls hP hS hl
  obtain ⟨c1, c2, c3, c4, c5, c6, c7⟩ := hc
  have ht := C.2.2.2.2.2.2.1
  obtain ⟨i, hi, rfl⟩ := hin r hr
  have hB := callB_of (R := Y.2.2.2.2.2) (s := s) (args := args) (own := Y.1) (index := idx) (y := y) (bytes := bytes) (maxL := maxL) (ret := ret) (rm := am_rm d' mc' ms') (mc := mc') (ms := ms') n ht (am_payG c2) rfl rfl rfl (ht _ c6) (ht _ c3) c7 hR.1
  rw [am_mapr]
  exact vx_runV (As := as.map (am_v E)) ⟨C.1, C.2.1, C.2.2.1, C.2.2.2.2.2.1, ht⟩ (hM r hr) ⟨hB, ht _ c4, ht _ c5⟩ ⟨am_PC_blind, (by rw [c1]; exact vk_recv (adK := fun k => E.1 (1000 + k)) (i := i) C.2.2.2.2.2.2.2.2.1.2.2.2.2.2.1 hi hS), fun U hU hW => am_PC_at (as := .ref (1000 + i) :: as) C.2.2.2.2.2.2.2.2.1 hP hS hU hW⟩ rfl (by rw [List.length_map]; exact hn) hl.1 rfl (lv_room (am_sum hw)) hd hR.2
theorem ev_sgetV {idx i : Nat} (hi : i < am_nS) (hd : decode Y.2.1 pc = .ok (.getfield idx, 3)) (hf : Cond.fieldLink Y.1 idx "java/lang/String" "value" "[B" ∈ am_G) (kk : am_Ev E l Y Z cs sl (pc + 3) L (.ref (2000 + i) :: st) S e) : am_Ev E l Y Z cs sl pc L (.ref (1000 + i) :: st) S e := by
  intro r hr p en s m args below meth c0 C H locs ls hP hS hl
  exact vk_getf C.1 C.2.1 ((C.2.2.2.2.2.2.2.2.1.2.2.2.2.2.1).1 i hi).2.2.1 hS C.2.2.2.2.2.1 (C.2.2.2.2.2.2.1 _ hf) (fun _ h => h) hd (kk r hr p en s m args below meth c0 C H locs ls hP hS hl)
theorem ev_sgetC {idx i : Nat} (hi : i < am_nS) (hd : decode Y.2.1 pc = .ok (.getfield idx, 3)) (hf : Cond.fieldLink Y.1 idx "java/lang/String" "coder" "B" ∈ am_G) (kk : am_Ev E l Y Z cs sl (pc + 3) L (.int 0 :: st) S e) : am_Ev E l Y Z cs sl pc L (.ref (1000 + i) :: st) S e := by
  intro r hr p en s m args below meth c0 C H locs ls hP hS hl
  exact vk_getf C.1 C.2.1 ((C.2.2.2.2.2.2.2.2.1.2.2.2.2.2.1).1 i hi).2.1 hS C.2.2.2.2.2.1 (C.2.2.2.2.2.2.1 _ hf) (fun _ h => h) hd (kk r hr p en s m args below meth c0 C H locs ls hP hS hl)
theorem ev_sgetK {idx : Nat} (hd : decode Y.2.1 pc = .ok (.getstatic idx, 3)) (hf : Cond.fieldLink Y.1 idx "java/lang/String" "COMPACT_STRINGS" "Z" ∈ am_G) (kk : am_Ev E l Y Z cs sl (pc + 3) L (.int 1 :: st) S e) : am_Ev E l Y Z cs sl pc L st S e := by
  intro r hr p en s m args below meth c0 C H locs ls hP hS hl
  exact va_gets C.1 C.2.1 C.2.2.2.2.2.2.2.2.1.2.2.2.2.2.2.2.2.2.2.2.1 hS C.2.2.2.2.2.1 (C.2.2.2.2.2.2.1 _ hf) (fun _ h => h) hd (kk r hr p en s m args below meth c0 C H locs ls hP hS hl)
theorem ev_sgetF {idx : Nat} (hd : decode Y.2.1 pc = .ok (.getstatic idx, 3)) (hf : Cond.fieldLink Y.1 idx "jdk/internal/util/Preconditions" "SIOOBE_FORMATTER" "Ljava/util/function/BiFunction;" ∈ am_G) (kk : ∀ v, v = .null ∨ v = .ref 950 → am_Ev E l Y Z cs sl (pc + 3) L (v :: st) S e) : am_Ev E l Y Z cs sl pc L st S e := by
  intro r hr p en s m args below meth c0 C H locs ls hP hS hl
  obtain ⟨v, hv, hz⟩ := C.2.2.2.2.2.2.2.2.1.2.2.2.2.2.2.2.2.2.2.2.2
  rcases hv with rfl | rfl
  · exact va_gets C.1 C.2.1 hz hS C.2.2.2.2.2.1 (C.2.2.2.2.2.2.1 _ hf) (fun _ h => h) hd (kk .null (Or.inl rfl) r hr p en s m args below meth c0 C H locs ls hP hS hl)
  · exact va_gets C.1 C.2.1 hz hS C.2.2.2.2.2.1 (C.2.2.2.2.2.2.1 _ hf) (fun _ h => h) hd (kk (.ref 950) (Or.inr rfl) r hr p en s m args below meth c0 C H locs ls hP hS hl)
theorem ev_sblen {i : Nat} (hi : i < am_nS) (hd : decode Y.2.1 pc = .ok (.arraylength, 1)) (kk : am_Ev E l Y Z cs sl (pc + 1) L (.int (Int32.ofNat (am_lens.getD i 0)) :: st) S e) : am_Ev E l Y Z cs sl pc L (.ref (2000 + i) :: st) S e := by
  intro r hr p en s m args below meth c0 C H locs ls hP hS hl
  obtain ⟨cell, h1, h2, h3, h4, h5, h6, h7⟩ := (((C.2.2.2.2.2.2.2.2.1.2.2.2.2.2.1).1 i hi).2.2.2).kept hS.2.1
  exact W.alen C.1 C.2.1 h1 h2 h5 rfl rfl hd (kk r hr p en s m args below meth c0 C H locs ls hP hS hl)
theorem ev_sbald {i : Nat} {j : Int32} (hi : i < am_nS) (hin : vp_in j (am_lens.getD i 0)) (hd : decode Y.2.1 pc = .ok (.baload, 1)) (kk : am_Ev E l Y Z cs sl (pc + 1) L (.int ((am_byts.getD i []).getD j.toNatClampNeg 0) :: st) S e) : am_Ev E l Y Z cs sl pc L (.int j :: .ref (2000 + i) :: st) S e := by
  intro r hr p en s m args below meth c0 C H locs ls hP hS hl
  obtain ⟨cell, h1, h2, h3, h4, h5, h6, h7⟩ := (((C.2.2.2.2.2.2.2.2.1.2.2.2.2.2.1).1 i hi).2.2.2).kept hS.2.1
  have hlt : j.toNatClampNeg < am_lens.getD i 0 := Nat.not_le.mp fun q => hin (Or.inr q)
  exact W.bald C.1 C.2.1 h1 h2 h3 (fun q => hin (q.elim Or.inl (fun q => Or.inr (Nat.le_trans h4 q)))) (h6 _ hlt) rfl rfl hd (kk r hr p en s m args below meth c0 C H locs ls hP hS hl)
theorem ev_i2c {x : Int32} (hd : decode Y.2.1 pc = .ok (.i2c, 1)) (kk : am_Ev E l Y Z cs sl (pc + 1) L (.int (x.toUInt32 % 65536).toInt32 :: st) S e) : am_Ev E l Y Z cs sl pc L (.int x :: st) S e := by
  intro r hr p en s m args below meth c C H locs ls hP hS hl
  exact lv_i2c C.1 C.2.1 hd rfl (kk r hr p en s m args below meth c C H locs ls hP hS hl)
end EVS
