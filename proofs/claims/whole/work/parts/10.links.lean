section EVL
variable {β : Type} {E : am_E} {l : Launch} {Y : am_Y} {Z : List Frame → Array Value → State → β → State → Prop} {cs sl pc : Nat} {L : List (Option Value)} {st : List Value} {S : am_S} {e e1 e2 : Option β} {mc ms : Nat}
def am_nms (y : MethodName) (n : Nat) : Prop := y.cls ≠ "java/lang/invoke/MethodHandle" ∧ y.cls ≠ "java/lang/invoke/VarHandle" ∧ (parseMethodDescriptor y.desc).map (fun d => d.parameters.length) = some n
/-- what a call of a method of an object asks of the tables -/
def am_cv (own : String) (idx c : Nat) (y : MethodName) (bytes : ByteArray) (maxL : Nat) (ret : Option FieldType) (n : Nat) : Prop :=
  vwCl[c]?.map (fun q => q.1) = some y.cls ∧ Cond.code y bytes maxL ret ∈ am_G ∧ Cond.methodLink own idx y ∈ am_G ∧ Cond.instanceMethod y ∈ am_G ∧ Cond.selects y.cls y y ∈ am_G ∧ Cond.initialized y.cls ∈ am_G ∧ am_nms y n
def am_cvN (own : String) (idx c : Nat) (y : MethodName) (host : String) (bytes : ByteArray) (maxL : Nat) (ret : Option FieldType) (n : Nat) : Prop :=
  vwCl[c]?.map (fun q => q.1) = some y.cls ∧ Cond.code y bytes maxL ret ∈ am_G ∧ Cond.methodLinkNest own idx y host ∈ am_nw ∧ Cond.instanceMethod y ∈ am_G ∧ Cond.selects y.cls y y ∈ am_G ∧ Cond.initialized y.cls ∈ am_G ∧ am_nms y n
def am_cs (own : String) (idx : Nat) (y : MethodName) (bytes : ByteArray) (maxL : Nat) (ret : Option FieldType) (n : Nat) : Prop :=
  Cond.code y bytes maxL ret ∈ am_G ∧ Cond.methodLink own idx y ∈ am_G ∧ Cond.static y ∈ am_G ∧ Cond.initialized y.cls ∈ am_G ∧ am_nms y n
def am_csN (own : String) (idx : Nat) (y : MethodName) (host : String) (bytes : ByteArray) (maxL : Nat) (ret : Option FieldType) (n : Nat) : Prop :=
  Cond.code y bytes maxL ret ∈ am_G ∧ Cond.methodLinkNest own idx y host ∈ am_nw ∧ Cond.static y ∈ am_G ∧ Cond.initialized y.cls ∈ am_G ∧ am_nms y n
def am_csH (own : String) (idx : Nat) (y : MethodName) (bytes : ByteArray) (maxL : Nat) (ret : Option FieldType) (hh : List (Nat × Nat × Nat × Nat)) (n : Nat) : Prop :=
  Cond.codeWith y bytes maxL ret hh ∈ am_G ∧ Cond.methodLink own idx y ∈ am_G ∧ Cond.static y ∈ am_G ∧ Cond.initialized y.cls ∈ am_G ∧ am_nms y n
/-- the callee's room is in ours -/
def am_fitR (R : Room) (cs sl d mc ms maxL : Nat) : Prop := ((am_rm d mc ms).frames + 1 ≤ R.frames ∧ 8 + (maxL + 11) + (am_rm d mc ms).locals ≤ R.locals) ∧ cs + mc ≤ R.cells ∧ sl + ms ≤ R.slots
theorem am_mapr {as : List Value} {o : Nat} : ((as.reverse ++ Value.ref o :: st).map (am_v E)) = (as.map (am_v E)).reverse ++ Value.ref (E.1 o) :: st.map (am_v E) := by
  rw [List.map_append, List.map_reverse]; rfl
theorem am_maprS {as : List Value} : ((as.reverse ++ st).map (am_v E)) = (as.map (am_v E)).reverse ++ st.map (am_v E) := by
  rw [List.map_append, List.map_reverse]
theorem am_sum (hw : (st.map fun v => v.category).sum ≤ 8) : ((st.map (am_v E)).map fun v => v.category).sum ≤ 8 := by
  have : (st.map (am_v E)).map (fun v => v.category) = st.map (fun v => v.category) := by
    rw [List.map_map]
    apply List.map_congr_left
    intro v _
    cases v <;> rfl
  rw [this]
  exact hw
theorem am_obj_recv {s : State} {H : Heap} {o c : Nat} {nm : String} (hI : am_I E s) (hP : va_P E.2.1 vwCl (am_ws E S) H) (hk : am_kd o = 100 + c) (hc : vwCl[c]?.map (fun q => q.1) = some nm) : ∃ cell : Cell, H[E.1 o]? = some cell ∧ cell.vm.isStatics = false ∧ s.vm.findClass nm = some cell.cls := by
  cases hx : vwCl[c]? with
  | none => rw [hx] at hc; cases hc
  | some q =>
    rw [hx] at hc
    cases hc
    exact va_recv hI.1 hP hx (am_obj (E := E) (S := S) hk)
theorem am_callV {idx c o d' mc' ms' maxL n : Nat} {y : MethodName} {bytes : ByteArray} {ret : Option FieldType} {as : List Value} {g : Option am_R} (hc : am_cv Y.1 idx c y bytes maxL ret n) (hd : decode Y.2.1 pc = .ok (.invokevirtual idx, 3)) (hk : am_kd o = 100 + c) (hn : as.length = n) (hw : (st.map fun v => v.category).sum ≤ 8)
    (hR : am_fitR Y.2.2.2.2.2 cs sl d' mc' ms' maxL) (hM : am_M E l y (.code y bytes maxL ret) d' mc' ms' (.ref o :: as) S g) : ∀ r, g = some r → am_Call E l Y cs sl pc L (as.reverse ++ .ref o :: st) st mc' ms' S r := by
  intro r hr p en s m args below meth c0 C H locs ls hP hS hl
  obtain ⟨c1, c2, c3, c4, c5, c6, c7⟩ := hc
  have ht := C.2.2.2.2.2.2.1
  have hB := callB_of (R := Y.2.2.2.2.2) (s := s) (args := args) (own := Y.1) (index := idx) (y := y) (bytes := bytes) (maxL := maxL) (ret := ret) (rm := am_rm d' mc' ms') (mc := mc') (ms := ms') n ht (am_payG c2) rfl rfl rfl (ht _ c6) (ht _ c3) c7 hR.1
  rw [am_mapr]
  exact vx_runV (As := as.map (am_v E)) ⟨C.1, C.2.1, C.2.2.1, C.2.2.2.2.2.1, ht⟩ (hM r hr) ⟨hB, ht _ c4, ht _ c5⟩ ⟨am_PC_blind, am_obj_recv C.2.2.2.2.2.2.2.2.1 hP hk c1, fun U hU hW => am_PC_at (as := .ref o :: as) C.2.2.2.2.2.2.2.2.1 hP hS hU hW⟩ rfl (by rw [List.length_map]; exact hn) hl.1 rfl (lv_room (am_sum hw)) hd hR.2
theorem am_callS {idx d' mc' ms' maxL n : Nat} {y : MethodName} {bytes : ByteArray} {ret : Option FieldType} {as : List Value} {g : Option am_R} (hc : am_cs Y.1 idx y bytes maxL ret n) (hd : decode Y.2.1 pc = .ok (.invokestatic idx, 3)) (hn : as.length = n) (hw : (st.map fun v => v.category).sum ≤ 8)
    (hR : am_fitR Y.2.2.2.2.2 cs sl d' mc' ms' maxL) (hM : am_M E l y (.code y bytes maxL ret) d' mc' ms' as S g) : ∀ r, g = some r → am_Call E l Y cs sl pc L (as.reverse ++ st) st mc' ms' S r := by
  intro r hr p en s m args below meth c0 C H locs ls hP hS hl
  obtain ⟨c2, c3, c4, c6, c7⟩ := hc
  have ht := C.2.2.2.2.2.2.1
  have hB := callB_of (R := Y.2.2.2.2.2) (s := s) (args := args) (own := Y.1) (index := idx) (y := y) (bytes := bytes) (maxL := maxL) (ret := ret) (rm := am_rm d' mc' ms') (mc := mc') (ms := ms') n ht (am_payG c2) rfl rfl rfl (ht _ c6) (ht _ c3) c7 hR.1
  rw [am_maprS]
  exact vx_runS (As := as.map (am_v E)) ⟨C.1, C.2.1, C.2.2.1, C.2.2.2.2.2.1, ht⟩ (hM r hr) ⟨hB, ht _ c4⟩ ⟨am_PC_blind, fun U hU hW => am_PC_at (as := as) C.2.2.2.2.2.2.2.2.1 hP hS hU hW⟩ rfl (by rw [List.length_map]; exact hn) hl.1 rfl (lv_room (am_sum hw)) hd hR.2
theorem am_ofRun {p : Program} {en : Env} {R : Room} {s : State} {m : MethodId} {args : Array Value} {below : List Frame} {meth : Method} {c : Code} {H : Heap} {locs : List Loc} {cells slots mc' ms' : Nat} {g : JFrame} {rest : List Value} {Qa : State → Outcome → State → Prop} {XC : String → State → State → Prop} {free : Addr → Prop}
    (h : va_Run p l en R s m args below meth c H locs cells slots mc' ms' g rest Qa free) : vx_Run p l en R s m args below meth c H locs cells slots mc' ms' g rest Qa XC free := fun T hT X => Or.inl (h T hT X)
theorem am_callVN {idx c o d' mc' ms' maxL n : Nat} {y : MethodName} {host : String} {bytes : ByteArray} {ret : Option FieldType} {as : List Value} {g : Option am_R} (hc : am_cvN Y.1 idx c y host bytes maxL ret n) (hd : decode Y.2.1 pc = .ok (.invokevirtual idx, 3)) (hk : am_kd o = 100 + c) (hn : as.length = n) (hw : (st.map fun v => v.category).sum ≤ 8)
    (hR : am_fitR Y.2.2.2.2.2 cs sl d' mc' ms' maxL) (hno : ∀ r, g = some r → ∃ v, r.1 = .inl v) (hM : am_M E l y (.code y bytes maxL ret) d' mc' ms' (.ref o :: as) S g) : ∀ r, g = some r → am_Call E l Y cs sl pc L (as.reverse ++ .ref o :: st) st mc' ms' S r := by
  intro r hr p en s m args below meth c0 C H locs ls hP hS hl
  obtain ⟨c1, c2, c3, c4, c5, c6, c7⟩ := hc
  have ht := C.2.2.2.2.2.2.1
  have hB := va_cnB (R := Y.2.2.2.2.2) (s := s) (args := args) (own := Y.1) (host := host) (index := idx) (y := y) (bytes := bytes) (maxL := maxL) (ret := ret) (rm := am_rm d' mc' ms') (mc := mc') (ms := ms') n ht (am_payG c2) rfl rfl rfl (C.2.2.2.2.2.2.2.2.1.2.2.1 _ c3) (ht _ c6) c7 hR.1
  rw [am_mapr]
  exact am_ofRun (va_runVN (As := as.map (am_v E)) ⟨C.1, C.2.1, C.2.2.1, C.2.2.2.2.2.1, ht⟩ (am_met (hno r hr) (hM r hr)) ⟨hB, ht _ c4, ht _ c5⟩ ⟨am_PC_blind, am_obj_recv C.2.2.2.2.2.2.2.2.1 hP hk c1, fun U hU hW => am_PC_at (as := .ref o :: as) C.2.2.2.2.2.2.2.2.1 hP hS hU hW⟩ rfl (by rw [List.length_map]; exact hn) hl.1 rfl (lv_room (am_sum hw)) hd hR.2)
theorem am_callSN {idx d' mc' ms' maxL n : Nat} {y : MethodName} {host : String} {bytes : ByteArray} {ret : Option FieldType} {as : List Value} {g : Option am_R} (hc : am_csN Y.1 idx y host bytes maxL ret n) (hd : decode Y.2.1 pc = .ok (.invokestatic idx, 3)) (hn : as.length = n) (hw : (st.map fun v => v.category).sum ≤ 8)
    (hR : am_fitR Y.2.2.2.2.2 cs sl d' mc' ms' maxL) (hno : ∀ r, g = some r → ∃ v, r.1 = .inl v) (hM : am_M E l y (.code y bytes maxL ret) d' mc' ms' as S g) : ∀ r, g = some r → am_Call E l Y cs sl pc L (as.reverse ++ st) st mc' ms' S r := by
  intro r hr p en s m args below meth c0 C H locs ls hP hS hl
  obtain ⟨c2, c3, c4, c6, c7⟩ := hc
  have ht := C.2.2.2.2.2.2.1
  have hB := va_cnB (R := Y.2.2.2.2.2) (s := s) (args := args) (own := Y.1) (host := host) (index := idx) (y := y) (bytes := bytes) (maxL := maxL) (ret := ret) (rm := am_rm d' mc' ms') (mc := mc') (ms := ms') n ht (am_payG c2) rfl rfl rfl (C.2.2.2.2.2.2.2.2.1.2.2.1 _ c3) (ht _ c6) c7 hR.1
  rw [am_maprS]
  exact am_ofRun (va_runSN (As := as.map (am_v E)) ⟨C.1, C.2.1, C.2.2.1, C.2.2.2.2.2.1, ht⟩ (am_met (hno r hr) (hM r hr)) ⟨hB, ht _ c4, trivial⟩ ⟨am_PC_blind, fun U hU hW => am_PC_at (as := as) C.2.2.2.2.2.2.2.2.1 hP hS hU hW⟩ rfl (by rw [List.length_map]; exact hn) hl.1 rfl (lv_room (am_sum hw)) hd hR.2)
theorem am_callSH {idx d' mc' ms' maxL n : Nat} {y : MethodName} {bytes : ByteArray} {ret : Option FieldType} {hh : List (Nat × Nat × Nat × Nat)} {as : List Value} {g : Option am_R} (hc : am_csH Y.1 idx y bytes maxL ret hh n) (hd : decode Y.2.1 pc = .ok (.invokestatic idx, 3)) (hn : as.length = n) (hw : (st.map fun v => v.category).sum ≤ 8)
    (hR : am_fitR Y.2.2.2.2.2 cs sl d' mc' ms' maxL) (hM : am_M E l y (.codeWith y bytes maxL ret hh) d' mc' ms' as S g) : ∀ r, g = some r → am_Call E l Y cs sl pc L (as.reverse ++ st) st mc' ms' S r := by
  intro r hr p en s m args below meth c0 C H locs ls hP hS hl
  obtain ⟨c2, c3, c4, c6, c7⟩ := hc
  have ht := C.2.2.2.2.2.2.1
  have hB : vx_CSW Y.2.2.2.2.2 s args Y.1 idx y bytes maxL ret hh (Cond.codeWith y bytes maxL ret hh :: am_G) (am_rm d' mc' ms') mc' ms' n :=
    ⟨⟨rfl, rfl, hR.1.1, hR.1.2, pay_in ht (am_payG c2), List.mem_cons_self⟩, ht _ c2, ht _ c6, ⟨c7.1, c7.2.1⟩, fun sig h => by have h2 := c7.2.2; rw [h] at h2; exact (Option.some.inj h2).symm, ht _ c3, ht _ c4⟩
  rw [am_maprS]
  exact vx_runSX (As := as.map (am_v E)) ⟨C.1, C.2.1, C.2.2.1, C.2.2.2.2.2.1, ht⟩ (hM r hr) hB ⟨am_PC_blind, fun U hU hW => am_PC_at (as := as) C.2.2.2.2.2.2.2.2.1 hP hS hU hW⟩ rfl (by rw [List.length_map]; exact hn) hl.1 rfl (lv_room (am_sum hw)) hd hR.2
/-! System.arraycopy, from row to row -/
def am_cp (σ : Nat → Nat → Int32) (a : Nat) (sp : Int32) (b : Nat) (dp n : Int32) : Option (Nat → Nat → Int32) :=
  if sp < 0 ∨ dp < 0 ∨ n < 0 ∨ am_ln a < sp.toNatClampNeg + n.toNatClampNeg ∨ am_ln b < dp.toNatClampNeg + n.toNatClampNeg then none
  else some (fun o j => if o = b then va_cpy (σ a) (σ b) sp.toNatClampNeg dp.toNatClampNeg n.toNatClampNeg j else σ o j)
def am_acw : List Cond := [Cond.native arraycopyName, Cond.static arraycopyName, Cond.initialized "java/lang/System"]
theorem ev_cpyI {idx a b : Nat} {sp dp n : Int32} {f : (Nat → Nat → Int32) → Option β} (hd : decode Y.2.1 pc = .ok (.invokestatic idx, 3)) (hlk : Cond.methodLink Y.1 idx arraycopyName ∈ am_G) (haw : ∀ w ∈ am_acw, w ∈ am_G) (ha : am_kd a = 1) (hb : am_kd b = 1) (hw : (st.map fun v => v.category).sum ≤ 8) (hR1 : 1 ≤ Y.2.2.2.2.2.frames) (hR2 : 8 + (nativeFrameWords "java/lang/System" "arraycopy" 5 + 11) ≤ Y.2.2.2.2.2.locals)
    (kk : ∀ σ, am_cp S.1 a sp b dp n = some σ → am_Ev E l Y Z cs sl (pc + 3) L st (σ, S.2) (f σ)) : am_Ev E l Y Z cs sl pc L (.int n :: .int dp :: .ref b :: .int sp :: .ref a :: st) S ((am_cp S.1 a sp b dp n).bind f) :=
  ev_bind fun σ hv => by
    intro r hr p en s m args below meth c0 C H locs ls hP hS hl
    have ht := C.2.2.2.2.2.2.1
    have hv0 := hv
    unfold am_cp at hv
    by_cases q : sp < 0 ∨ dp < 0 ∨ n < 0 ∨ am_ln a < sp.toNatClampNeg + n.toNatClampNeg ∨ am_ln b < dp.toNatClampNeg + n.toNatClampNeg
    · rw [if_pos q] at hv; cases hv
    · rw [if_neg q] at hv
      simp only [not_or] at q
      obtain ⟨q1, q2, q3, q4, q5⟩ := q
      have hv := Option.some.inj hv
      refine va_copyi C.1 C.2.1 (by rw [C.2.2.1]; exact hl.1.symm) C.2.2.2.2.2.1 (ht _ hlk) (ht _ (haw _ (by simp [am_acw]))) (ht _ (haw _ (by simp [am_acw]))) (ht _ (haw _ (by simp [am_acw]))) C.2.2.2.2.2.2.2.2.1.1 hP (am_ws_D C.2.2.2.2.2.2.2.2.1.2.1) hS a b 1 1 (ty := .int)
        (by rw [am_ws_get (am_a_lt ha (by decide)), am_ent_1 ha]) (by rw [am_ws_get (am_a_lt hb (by decide)), am_ent_1 hb]) rfl rfl rfl q1 q2 q3 (Nat.not_lt.mp q4) (Nat.not_lt.mp q5) (fun _ _ => rfl) hR1 (Nat.le_trans (Nat.add_le_add_right (am_sum hw) _) hR2) hd (fun H1 locs1 hP1 _ hS1 => ?_)
      have hent : am_ent E (σ, S.2) b = .inl (E.2.2.1 1, am_ln b, .inl (va_cpy (S.1 a) (S.1 b) sp.toNatClampNeg dp.toNatClampNeg n.toNatClampNeg)) := by
        rw [am_ent_1 hb, ← hv]
        congr 4
        funext j
        simp
      have hoth : ∀ x, x ≠ b → am_ent E (σ, S.2) x = am_ent E S x := by
        intro x hx
        have e : σ x = S.1 x := by rw [← hv]; funext j; simp [hx]
        unfold am_ent am_fl am_fv
        simp only [e]
      rw [am_ws_set hent hoth] at hP1
      exact kk σ hv0 r hr p en s m args below meth c0 C H1 locs1 ls hP1 hS1 hl
end EVL
