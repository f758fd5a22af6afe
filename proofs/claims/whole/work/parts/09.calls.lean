def am_rm (d mc ms : Nat) : Room := { frames := d + 8, cells := mc, slots := ms, locals := 64 * d + 300 }
def am_Q (E : am_E) (r : am_R) : Array Value → State → Outcome → State → Prop := fun _ st oc t => (∃ v, r.1 = .inl v ∧ oc = .returned (v.map (am_v E))) ∧ va_P E.2.1 vwCl (am_ws E r.2) t.heap ∧ va_F (am_A E) st t
def am_X (E : am_E) (r : am_R) : String → State → State → Prop := fun x st t => (∃ k, r.1 = .inr k ∧ x = am_ex k) ∧ va_P E.2.1 vwCl (am_ws E r.2) t.heap ∧ va_F (am_A E) st t
def am_PC (E : am_E) (as : List Value) (S : am_S) : Array Value → State → Prop := va_Pc (as.map (am_v E)) (fun U => am_I E U ∧ va_P E.2.1 vwCl (am_ws E S) U.heap)
/-- a method's contract: called with as in the state S it does what e says -/
def am_M (E : am_E) (l : Launch) (y : MethodName) (cw : Cond) (d mc ms : Nat) (as : List Value) (S : am_S) (e : Option am_R) : Prop := ∀ r, e = some r → vx_Met l y (cw :: am_G) (am_rm d mc ms) (am_PC E as S) (am_Q E r) (am_X E r) mc ms (am_A E)
def am_Z (E : am_E) (mc ms : Nat) : List Frame → Array Value → State → am_R → State → Prop := fun below args s r => vx_MQ below (am_Q E r) (am_X E r) args s mc ms (am_A E)
theorem am_PC_blind {E : am_E} {as : List Value} {S : am_S} : FrameBlind (am_PC E as S) := fun a U g mk h => ⟨h.1, am_I.to (State.WarmedH.refl U) (Nat.le_refl _) (fun _ _ _ => rfl) h.2.1, h.2.2⟩
theorem am_PC_at {E : am_E} {as : List Value} {S : am_S} {s U : State} {H : Heap} {locs : List Loc} (hI : am_I E s) (hP : va_P E.2.1 vwCl (am_ws E S) H) (hS : va_S (am_A E) s.heap H locs) (hU : U.heap = H) (hW : s.WarmedH U.vm) : am_PC E as S (as.map (am_v E)).toArray U :=
  ⟨rfl, am_I.to hW (by rw [hU]; exact hS.1) (fun a h1 h2 => by rw [hU]; exact hS.2.1 a h1 h2) hI, by rw [hU]; exact hP⟩
theorem am_met {l : Launch} {E : am_E} {y : MethodName} {ws : List Cond} {rm : Room} {Pc : Array Value → State → Prop} {r : am_R} {mc ms : Nat} (hr : ∃ v, r.1 = .inl v) (h : vx_Met l y ws rm Pc (am_Q E r) (am_X E r) mc ms (am_A E)) : Met l y ws rm Pc (am_Q E r) mc ms (am_A E) := by
  intro p e h1 h2 h3 s m args below h4 h5 h6 h7
  obtain ⟨n, o, g1, g2, g3, g4⟩ := h p e h1 h2 h3 s m args below h4 h5 h6 h7
  refine ⟨n, o, g1, g2, g3, ?_⟩
  rcases g4 with g4 | ⟨q, -, x, ce, LL, hx, -⟩
  · exact g4
  · obtain ⟨v, hv⟩ := hr
    obtain ⟨⟨k, hk, -⟩, -⟩ := hx
    rw [hv] at hk
    cases hk
theorem am_payG {cw : Cond} (h : cw ∈ am_G) : GoodIn am_G (cw :: am_G) := fun w hw => by
  rcases List.mem_cons.mp hw with e | e
  · rw [e]; exact ⟨h, good_of_word (am_G_good h)⟩
  · exact ⟨e, good_of_word (am_G_good e)⟩
/-! a method's entry -/
theorem am_args_mem {E : am_E} : ∀ (as : List Value) (k i : Nat) (v : Value), (∀ v ∈ as, v.category = 1) → as[i]? = some v → (k + i, am_v E v) ∈ lv_args k (as.map (am_v E))
  | [], _, i, v, _, h => by simp at h
  | a :: as, k, 0, v, hc, h => by
    cases h
    exact List.mem_cons_self
  | a :: as, k, i + 1, v, hc, h => by
    have h1 : (am_v E a).category = 1 := am_cat (hc a List.mem_cons_self)
    have ih := am_args_mem (E := E) as (k + 1) i v (fun w hw => hc w (List.mem_cons_of_mem _ hw)) h
    show (k + (i + 1), am_v E v) ∈ (k, am_v E a) :: lv_args (if (am_v E a).category = 2 then k + 2 else k + 1) (as.map (am_v E))
    rw [if_neg (by omega), show k + (i + 1) = k + 1 + i by omega]
    exact List.mem_cons_of_mem _ ih
theorem am_sl_len : ∀ (as : List Value), (∀ v ∈ as, v.category = 1) → (lg_sl as).length = as.length
  | [], _ => rfl
  | a :: as, hc => by
    have ih := am_sl_len as (fun w hw => hc w (List.mem_cons_of_mem _ hw))
    have h1 := hc a List.mem_cons_self
    show ((if a.category = 2 then [Slot.val a, .second] else [.val a]) ++ lg_sl as).length = _
    rw [if_neg (by omega)]
    simp [ih]
def am_L0 (as : List Value) (nL : Nat) : List (Option Value) := as.map some ++ List.replicate (nL - as.length) none
theorem am_entry {E : am_E} {as : List Value} {nL : Nat} (hc : ∀ v ∈ as, v.category = 1) (hn : as.length ≤ nL) :
    am_has E ((lg_sl (as.map (am_v E)) ++ List.replicate (nL - (lg_sl (as.map (am_v E))).length) Slot.unset).toArray) nL (am_L0 as nL) := by
  have hc2 : ∀ v ∈ as.map (am_v E), v.category = 1 := fun v hv => by
    obtain ⟨w, h1, h2⟩ := List.mem_map.mp hv
    rw [← h2]
    exact am_cat (hc w h1)
  have h := lv_entry (as.map (am_v E)) (n := nL) (by rw [am_sl_len _ hc2, List.length_map]; exact hn)
  refine ⟨h.1, h.2.1, fun i v hv => ?_⟩
  have hi : as[i]? = some v := by
    unfold am_L0 at hv
    by_cases hl : i < as.length
    · rw [List.getElem?_append_left (by simpa using hl), List.getElem?_map] at hv
      cases hx : as[i]? with
      | none => rw [hx] at hv; cases hv
      | some w => rw [hx] at hv; cases hv; rfl
    · rw [List.getElem?_append_right (by simp; omega)] at hv
      have h9 := List.mem_of_getElem? hv
      rw [List.mem_replicate] at h9
      exact absurd h9.2 (by simp)
  have hm := am_args_mem (E := E) as 0 i v hc hi
  rw [Nat.zero_add] at hm
  exact ⟨hc v (List.mem_of_getElem? hi), h.2.2 _ hm⟩
theorem am_M_of {E : am_E} {l : Launch} {y : MethodName} {code : ByteArray} {nL : Nat} {ret : Option FieldType} {d mc ms : Nat} {as : List Value} {S : am_S} {β : Type} {w : β → am_R} {e : Option β} (hl : l.stackTraces = false) (hy : plainName y.cls = true) (hc : ∀ v ∈ as, v.category = 1) (hn : as.length ≤ nL)
    (h : am_Ev E l (y.cls, code, nL, ret, [], am_rm d mc ms) (fun b a s x => am_Z E mc ms b a s (w x)) 0 0 0 (am_L0 as nL) [] S e) : am_M E l y (.code y code nL ret) d mc ms as S (e.map w) := by
  intro r hr0
  obtain ⟨r0, hr, rfl⟩ := Option.map_eq_some_iff.mp hr0
  refine vx_ofW (cc := code) (maxL := nL) (ret := ret) hy rfl ?_
  intro p en s m args below meth c s₁ B hml ht hP
  obtain ⟨rfl, hI, hPic⟩ := hP
  have hts := atoms_spec (ws := Cond.code y code nL ret :: am_G) B.pre
  have hown : s.vm.findClass y.cls = some m.cls := findClass_of_methodNamed B.named
  have htab : c.exceptionTable.toList = [] := by
    cases hx : c.exceptionTable.toList with
    | nil => rfl
    | cons a b => exact absurd (by rw [hx]; exact List.mem_cons_self) (ht a)
  rw [lg_entry_eq]
  exact h r0 hr p en s m _ below meth c ⟨B.exec, B.bytes, hml, B.returns, B.notSynchronized, hown, fun w hw => hts w (List.mem_cons_of_mem _ hw), hl, hI, htab⟩ s.heap [] _ hPic va_S.rf (am_entry hc hn)
theorem am_MH_of {E : am_E} {l : Launch} {y : MethodName} {code : ByteArray} {nL : Nat} {ret : Option FieldType} {hh : List (Nat × Nat × Nat × Nat)} {d mc ms : Nat} {as : List Value} {S : am_S} {β : Type} {w : β → am_R} {e : Option β} (hl : l.stackTraces = false) (hy : plainName y.cls = true) (hc : ∀ v ∈ as, v.category = 1) (hn : as.length ≤ nL)
    (h : am_Ev E l (y.cls, code, nL, ret, hh, am_rm d mc ms) (fun b a s x => am_Z E mc ms b a s (w x)) 0 0 0 (am_L0 as nL) [] S e) : am_M E l y (.codeWith y code nL ret hh) d mc ms as S (e.map w) := by
  intro r hr0
  obtain ⟨r0, hr, rfl⟩ := Option.map_eq_some_iff.mp hr0
  refine vx_ofWH (cc := code) (maxL := nL) (ret := ret) (hh := hh) hy rfl ?_
  intro p en s m args below meth c s₁ B hml hP
  obtain ⟨rfl, hI, hPic⟩ := hP
  have hts := atoms_spec (ws := Cond.codeWith y code nL ret hh :: am_G) B.pre
  have hown : s.vm.findClass y.cls = some m.cls := findClass_of_methodNamed B.named
  have htab : c.exceptionTable.toList = tableOf hh := vx_table (x := y) B (hts _ List.mem_cons_self)
  rw [lg_entry_eq]
  exact h r0 hr p en s m _ below meth c ⟨B.exec, B.bytes, hml, B.returns, B.notSynchronized, hown, fun w hw => hts w (List.mem_cons_of_mem _ hw), hl, hI, htab⟩ s.heap [] _ hPic va_S.rf (am_entry hc hn)
/-! a method's end -/
section EVR
variable {β : Type} {E : am_E} {l : Launch} {Y : am_Y} {Z : List Frame → Array Value → State → β → State → Prop} {cs sl pc : Nat} {L : List (Option Value)} {st : List Value} {S : am_S} {e e1 e2 : Option β} {mc ms : Nat}
theorem ev_iret {w : β → am_R} {x : β} {v : Int32} {ty : FieldType} (hd : decode Y.2.1 pc = .ok (.ireturn, 1)) (hy : Y.2.2.2.1 = some ty) (hn : narrow ty (.int v) = .int v) (h1 : cs ≤ mc) (h2 : sl ≤ ms) (hw : w x = (.inl (some (.int v)), S)) : am_Ev E l Y (fun b a s x => am_Z E mc ms b a s (w x)) cs sl pc L [.int v] S (some x) := by
  intro r hr p en s m args below meth c C H locs ls hP hS hl
  cases hr
  refine W.widen (k := mc) (n := ms) h1 h2 ?_
  have hlocks := C.2.2.2.2.1
  show W _ _ _ _ _ _ _ _ _ _ _ _ _ _ (am_Z E mc ms below args s (w x)) _
  rw [hw]
  exact vx_ret (W.zret (ty := ty) (v := v) C.1 C.2.1 (C.2.2.2.1.trans hy) hn (fun t ht _ => ⟨⟨_, rfl, rfl⟩, by rw [ht]; exact hP, hS.F ht⟩) (fun q hq => hS.2.2 q hq) hd)
theorem ev_vret {w : β → am_R} {x : β} (hd : decode Y.2.1 pc = .ok (.return_, 1)) (hy : Y.2.2.2.1 = none) (h1 : cs ≤ mc) (h2 : sl ≤ ms) (hw : w x = (.inl none, S)) : am_Ev E l Y (fun b a s x => am_Z E mc ms b a s (w x)) cs sl pc L [] S (some x) := by
  intro r hr p en s m args below meth c C H locs ls hP hS hl
  cases hr
  refine W.widen (k := mc) (n := ms) h1 h2 ?_
  have hlocks := C.2.2.2.2.1
  show W _ _ _ _ _ _ _ _ _ _ _ _ _ _ (am_Z E mc ms below args s (w x)) _
  rw [hw]
  exact vx_ret (W.vret C.1 C.2.1 (C.2.2.2.1.trans hy) (fun t ht _ => ⟨⟨_, rfl, rfl⟩, by rw [ht]; exact hP, hS.F ht⟩) (fun q hq => hS.2.2 q hq) hd)
/-! a call -/
def am_Call (E : am_E) (l : Launch) (Y : am_Y) (cs sl pc : Nat) (L : List (Option Value)) (stk rest : List Value) (mc' ms' : Nat) (S : am_S) (r : am_R) : Prop :=
  ∀ (p : Program) (en : Env) (s : State) (m : MethodId) (args : Array Value) (below : List Frame) (meth : Method) (c : Code), am_C E Y p l s m args meth c →
    ∀ (H : Heap) (locs : List Loc) (ls : Array Slot), va_P E.2.1 vwCl (am_ws E S) H → va_S (am_A E) s.heap H locs → am_has E ls Y.2.2.1 L →
      vx_Run p l en Y.2.2.2.2.2 s m args below meth c H locs cs sl mc' ms' (F0 m pc ls (stk.map (am_v E))) (rest.map (am_v E)) (am_Q E r #[]) (am_X E r) (am_A E)
/-- what comes behind a call that answers -/
theorem ev_call0 {stk rest : List Value} {mc' ms' : Nat} {g : Option am_R} {f : Option Value → am_S → Option β} (hc : ∀ r, g = some r → am_Call E l Y cs sl pc L stk rest mc' ms' S r) (hno : ∀ r, g = some r → ∃ v, r.1 = .inl v)
    (kk : ∀ v S', g = some (.inl v, S') → am_Ev E l Y Z (cs + mc') (sl + ms') (pc + 3) L (v.toList ++ rest) S' (f v S')) : am_Ev E l Y Z cs sl pc L stk S (g.bind (fun r => match r.1 with | .inl v => f v r.2 | .inr _ => none)) := by
  intro r hr p en s m args below meth c C H locs ls hP hS hl T hT X
  cases hg : g with
  | none => rw [hg] at hr; cases hr
  | some q =>
    obtain ⟨w, S'⟩ := q
    obtain ⟨v, hv⟩ := hno _ hg
    dsimp only at hv
    subst hv
    rw [hg] at hr
    have hr : f v S' = some r := hr
    rcases hc _ hg p en s m args below meth c C H locs ls hP hS hl T hT X with ⟨v', st₀, t, T', LL, h0, X', hL, e1, e2, ⟨⟨v2, hv2, hoc⟩, hP', hF⟩, step⟩ | ⟨q, st₀, t, T', LL, x, ce, h0, X', hL, e1, e2, ⟨⟨k, hk, -⟩, -⟩, -⟩
    · cases hv2
      cases hoc
      obtain ⟨k1, k2, k3⟩ := vx_keep h0 e1 hS (fun _ _ h => h) (fun _ h => h) hL hF
      obtain ⟨t2, a1, b1⟩ := kk v S' hg r hr p en s m args below meth c C T'.heap (locs ++ LL) ls (by rw [e1]; exact hP') k3 hl T' rfl X'
      refine ⟨t2, step t2 ?_, b1⟩
      cases v <;> simpa using a1
    · cases hk
/-- .. an int, nothing written -/
theorem ev_callP {stk rest : List Value} {mc' ms' : Nat} {g : Option Int32} {f : Int32 → Option β} (hc : ∀ r, g.map (fun v => ((.inl (some (.int v)), S) : am_R)) = some r → am_Call E l Y cs sl pc L stk rest mc' ms' S r)
    (kk : ∀ v, g = some v → am_Ev E l Y Z (cs + mc') (sl + ms') (pc + 3) L (.int v :: rest) S (f v)) : am_Ev E l Y Z cs sl pc L stk S (g.bind f) := by
  cases hg : g with
  | none => exact ev_none
  | some v =>
    have h := ev_call0 (Z := Z) (f := fun _ _ => f v) hc (fun r hr => by rw [hg] at hr; cases hr; exact ⟨_, rfl⟩) (fun w S' hw => by rw [hg] at hw; cases hw; exact kk v hg)
    rw [hg] at h
    exact h
/-- .. an int, ints written -/
theorem ev_callWI {stk rest : List Value} {mc' ms' : Nat} {g : Option (Int32 × (Nat → Nat → Int32))} {f : Int32 × (Nat → Nat → Int32) → Option β} (hc : ∀ r, g.map (fun x => ((.inl (some (.int x.1)), (x.2, S.2)) : am_R)) = some r → am_Call E l Y cs sl pc L stk rest mc' ms' S r)
    (kk : ∀ x, g = some x → am_Ev E l Y Z (cs + mc') (sl + ms') (pc + 3) L (.int x.1 :: rest) (x.2, S.2) (f x)) : am_Ev E l Y Z cs sl pc L stk S (g.bind f) := by
  cases hg : g with
  | none => exact ev_none
  | some v =>
    have h := ev_call0 (Z := Z) (f := fun _ _ => f v) hc (fun r hr => by rw [hg] at hr; cases hr; exact ⟨_, rfl⟩) (fun w S' hw => by rw [hg] at hw; cases hw; exact kk v hg)
    rw [hg] at h
    exact h
/-- .. no answer, ints written -/
theorem ev_callWV {stk rest : List Value} {mc' ms' : Nat} {g : Option (Nat → Nat → Int32)} {f : (Nat → Nat → Int32) → Option β} (hc : ∀ r, g.map (fun x => ((.inl none, (x, S.2)) : am_R)) = some r → am_Call E l Y cs sl pc L stk rest mc' ms' S r)
    (kk : ∀ x, g = some x → am_Ev E l Y Z (cs + mc') (sl + ms') (pc + 3) L rest (x, S.2) (f x)) : am_Ev E l Y Z cs sl pc L stk S (g.bind f) := by
  cases hg : g with
  | none => exact ev_none
  | some v =>
    have h := ev_call0 (Z := Z) (f := fun _ _ => f v) hc (fun r hr => by rw [hg] at hr; cases hr; exact ⟨_, rfl⟩) (fun w S' hw => by rw [hg] at hw; cases hw; exact kk v hg)
    rw [hg] at h
    exact h
def am_thn (g : Option am_R) (f : Option Value → am_S → Option am_R) : Option am_R := g.bind (fun r => match r.1 with | .inl v => f v r.2 | .inr k => some (.inr k, r.2))
/-- .. which may throw: it goes on to the caller (no handlers here) -/
theorem ev_callG {stk rest : List Value} {mc' ms' : Nat} {g : Option am_R} {f : Option Value → am_S → Option am_R} (hc : ∀ r, g = some r → am_Call E l Y cs sl pc L stk rest mc' ms' S r) (hh : Y.2.2.2.2.1 = []) (h1 : cs + mc' ≤ mc) (h2 : sl + ms' ≤ ms)
    (kk : ∀ v S', g = some (.inl v, S') → am_Ev E l Y (am_Z E mc ms) (cs + mc') (sl + ms') (pc + 3) L (v.toList ++ rest) S' (f v S')) : am_Ev E l Y (am_Z E mc ms) cs sl pc L stk S (am_thn g f) := by
  cases hg : g with
  | none => exact ev_none
  | some q =>
    obtain ⟨w, S'⟩ := q
    cases w with
    | inl v =>
      have h := ev_call0 (Z := am_Z E mc ms) (f := f) hc (fun r hr => by rw [hg] at hr; cases hr; exact ⟨_, rfl⟩) kk
      rw [hg] at h
      exact h
    | inr k =>
      intro r hr p en s m args below meth c C H locs ls hP hS hl T hT X
      cases hr
      rcases hc _ hg p en s m args below meth c C H locs ls hP hS hl T hT X with ⟨v', st₀, t, T', LL, h0, X', hL, e1, e2, ⟨⟨v2, hv2, hoc⟩, hP', hF⟩, step⟩ | ⟨q, st₀, t, T', LL, x, ce, h0, X', hL, e1, e2, ⟨⟨k2, hk, hx⟩, hP', hF⟩, hce, hcv, hcl, step⟩
      · cases hv2
      · cases hk
        obtain ⟨k1, k2', k3⟩ := vx_keep h0 e1 hS (fun _ _ h => h) (fun _ h => h) hL hF
        have ht : c.exceptionTable.toList = [] := by rw [C.2.2.2.2.2.2.2.2.2, hh]; rfl
        obtain ⟨t2, a1, b1⟩ := vx_out (p := p) (l := l) (e := en) (R := Y.2.2.2.2.2) (s := s) (m := m) (args := args) (below := below) (meth := meth) (c := c) (H := T'.heap) (locs := locs ++ LL) (cells := cs + mc') (slots := sl + ms') (free := am_A E) (ls := ls) (rest := rest.map (am_v E)) (Qc := am_Q E (.inr k, S')) (XC := am_X E (.inr k, S')) (pc := pc) (E := x) (ce := ce) (q := q) (mc := mc) (ms := ms)
          (fun z hz => by rw [ht] at hz; cases hz) C.2.2.2.2.1 (by rw [e1]; exact hce) hcv hcl (fun t9 h9 _ => ⟨⟨k, rfl, hx⟩, by rw [h9, e1]; exact hP', by
            refine ⟨by rw [h9]; exact k3.1, fun q9 g1 g2 => by rw [h9]; exact k3.2.1 q9 g1 g2⟩⟩) k3.2.2 h1 h2 T' rfl X'
        exact ⟨t2, step.trans a1, b1⟩
end EVR
