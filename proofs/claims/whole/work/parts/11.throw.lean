def am_sup : List String := ["java/lang/RuntimeException", "java/lang/Exception"]
/-- what 'throw new' of the k-th exception asks of the tables -/
def am_tok (own : String) (ik ic k : Nat) : Prop := Cond.classLink own ik (am_ex k) ∈ am_G ∧ Cond.initialized (am_ex k) ∈ am_G ∧ Bundle.fit (am_ex k) = true ∧ (vx_atS own ic (am_ex k) am_sup).all (fun w => decide (w ∈ lw_tbl) && (goodWord w || am_isN w) && vx_ot w) = true
theorem am_lw_cases {w : Cond} (h : w ∈ lw_tbl) (hg : (goodWord w || am_isN w) = true) : w ∈ am_G ∨ w ∈ am_nw := by
  rcases Bool.or_eq_true _ _ ▸ hg with g | g
  · exact Or.inl (List.mem_filter.mpr ⟨h, g⟩)
  · rcases List.mem_append.mp h with h | h
    · obtain ⟨q, -, e⟩ := List.mem_map.mp h
      rw [← e] at g
      cases g
    · exact Or.inr (List.mem_filter.mpr ⟨h, g⟩)
section EVT
variable {β : Type} {E : am_E} {l : Launch} {Y : am_Y} {Z : List Frame → Array Value → State → β → State → Prop} {cs sl pc : Nat} {L : List (Option Value)} {st : List Value} {S : am_S} {e e1 e2 : Option β} {mc ms : Nat}
theorem am_C_word {p : Program} {s : State} {m : MethodId} {args : Array Value} {meth : Method} {c : Code} (C : am_C E Y p l s m args meth c) {w : Cond} (h : w ∈ am_G ∨ w ∈ am_nw) : w.before args s = true := by
  rcases h with h | h
  · exact C.2.2.2.2.2.2.1 _ h
  · exact va_Nw.use (am_nw_on (List.mem_filter.mp h).2) (C.2.2.2.2.2.2.2.2.1.2.2.1 _ h)
theorem am_thrown {s t : State} {H : Heap} {locs : List Loc} {k : Nat} (hP : va_P E.2.1 vwCl (am_ws E S) H) (hS : va_S (am_A E) s.heap H locs) (h1 : H.size ≤ t.heap.size) (h2 : ∀ q : Nat, q < H.size → t.heap[q]? = H[q]?) : am_X E (.inr k, S) (am_ex k) s t :=
  ⟨⟨k, rfl, rfl⟩, hP.kept (fun i q hq => h2 q.1 ((hP i q hq).lt)), Nat.le_trans hS.1 h1, fun q g1 g2 => (h2 q (Nat.lt_of_lt_of_le g1 hS.1)).trans (hS.2.1 q g1 g2)⟩
theorem ev_throw {ik is ic k t : Nat} {tx : String} (hk : am_tok Y.1 ik ic k) (hst : (Y.1, is, tx, t) ∈ am_sts) (d0 : decode Y.2.1 pc = .ok (.new ik, 3)) (d3 : decode Y.2.1 (pc + 3) = .ok (.dup, 1)) (d4 : decode Y.2.1 (pc + 4) = .ok (.ldc is, 2)) (d6 : decode Y.2.1 (pc + 6) = .ok (.invokespecial ic, 3)) (d9 : decode Y.2.1 (pc + 9) = .ok (.athrow, 1))
    (hh : Y.2.2.2.2.1 = []) (hw : (st.map fun v => v.category).sum ≤ 8) (hR : 5 < Y.2.2.2.2.2.frames ∧ 100 ≤ Y.2.2.2.2.2.locals ∧ cs + 1 ≤ Y.2.2.2.2.2.cells ∧ sl + 6 ≤ Y.2.2.2.2.2.slots) (h1 : cs + 1 ≤ mc) (h2 : sl + 6 ≤ ms) : am_Ev E l Y (am_Z E mc ms) cs sl pc L st S (some (.inr k, S)) := by
  intro r hr p en s m args below meth c C H locs ls hP hS hl
  cases hr
  obtain ⟨k1, k2, k3, k4⟩ := hk
  have hI := C.2.2.2.2.2.2.2.2.1
  have ht : c.exceptionTable.toList = [] := by rw [C.2.2.2.2.2.2.2.2.2, hh]; rfl
  have k4' : ∀ w ∈ vx_atS Y.1 ic (am_ex k) am_sup, w ∈ lw_tbl ∧ (goodWord w || am_isN w) = true ∧ vx_ot w = true := fun w hw => by
    have h := List.all_eq_true.mp k4 w hw
    simp only [Bool.and_eq_true, decide_eq_true_eq] at h
    exact ⟨h.1.1, h.1.2, h.2⟩
  have hg : ∀ w ∈ am_G, vx_ot w = true := fun w h => by unfold vx_ot; rw [am_G_good h, Bool.or_true]
  exact vx_throwS (A := am_A E) (names := am_sup) (text := tx) (sa := E.1 (1000 + t)) C.1 C.2.1 C.2.2.2.2.2.2.2.1 C.2.2.2.2.2.1 k3 (by decide +kernel) (C.2.2.2.2.2.2.1 _ k1) (C.2.2.2.2.2.2.1 _ k2) (hI.2.2.2.1 _ hst) (fun w hw => am_C_word C (am_lw_cases (k4' w hw).1 (k4' w hw).2.1))
    (fun w hw => by
      rcases List.mem_cons.mp hw with e | hw
      · rw [e]; exact hg _ k1
      · rcases List.mem_cons.mp hw with e | hw
        · rw [e]; exact hg _ k2
        · exact (k4' w hw).2.2)
    hI.2.2.2.2.2.2.2.2.2.1 hI.2.2.2.2.2.2.2.2.2.2.1 hS (by rw [C.2.2.1]; exact hl.1) d0 d3 d4 d6 d9 (fun x hx => by rw [ht] at hx; cases hx) (by show 2 + 3 < _; omega) (by
      have := am_sum (E := E) hw
      show _ + (13 * (2 + 1) + 43) ≤ _
      omega) hR.2.2.1 hR.2.2.2 C.2.2.2.2.1 (fun t _ g1 g2 => am_thrown hP hS g1 g2) hS.2.2 h1 h2
theorem ev_throwW {ik is ic k t : Nat} {tx : String} (hk : am_tok Y.1 ik ic k) (hst : (Y.1, is, tx, t) ∈ am_sts) (d0 : decode Y.2.1 pc = .ok (.new ik, 3)) (d3 : decode Y.2.1 (pc + 3) = .ok (.dup, 1)) (d4 : decode Y.2.1 (pc + 4) = .ok (.ldc_w is, 3)) (d6 : decode Y.2.1 (pc + 7) = .ok (.invokespecial ic, 3)) (d9 : decode Y.2.1 (pc + 10) = .ok (.athrow, 1))
    (hh : Y.2.2.2.2.1 = []) (hw : (st.map fun v => v.category).sum ≤ 8) (hR : 5 < Y.2.2.2.2.2.frames ∧ 100 ≤ Y.2.2.2.2.2.locals ∧ cs + 1 ≤ Y.2.2.2.2.2.cells ∧ sl + 6 ≤ Y.2.2.2.2.2.slots) (h1 : cs + 1 ≤ mc) (h2 : sl + 6 ≤ ms) : am_Ev E l Y (am_Z E mc ms) cs sl pc L st S (some (.inr k, S)) := by
  intro r hr p en s m args below meth c C H locs ls hP hS hl
  cases hr
  obtain ⟨k1, k2, k3, k4⟩ := hk
  have hI := C.2.2.2.2.2.2.2.2.1
  have ht : c.exceptionTable.toList = [] := by rw [C.2.2.2.2.2.2.2.2.2, hh]; rfl
  have k4' : ∀ w ∈ vx_atS Y.1 ic (am_ex k) am_sup, w ∈ lw_tbl ∧ (goodWord w || am_isN w) = true ∧ vx_ot w = true := fun w hw => by
    have h := List.all_eq_true.mp k4 w hw
    simp only [Bool.and_eq_true, decide_eq_true_eq] at h
    exact ⟨h.1.1, h.1.2, h.2⟩
  have hg : ∀ w ∈ am_G, vx_ot w = true := fun w h => by unfold vx_ot; rw [am_G_good h, Bool.or_true]
  exact vx_throwSW (A := am_A E) (names := am_sup) (text := tx) (sa := E.1 (1000 + t)) C.1 C.2.1 C.2.2.2.2.2.2.2.1 C.2.2.2.2.2.1 k3 (by decide +kernel) (C.2.2.2.2.2.2.1 _ k1) (C.2.2.2.2.2.2.1 _ k2) (hI.2.2.2.1 _ hst) (fun w hw => am_C_word C (am_lw_cases (k4' w hw).1 (k4' w hw).2.1))
    (fun w hw => by
      rcases List.mem_cons.mp hw with e | hw
      · rw [e]; exact hg _ k1
      · rcases List.mem_cons.mp hw with e | hw
        · rw [e]; exact hg _ k2
        · exact (k4' w hw).2.2)
    hI.2.2.2.2.2.2.2.2.2.1 hI.2.2.2.2.2.2.2.2.2.2.1 hS (by rw [C.2.2.1]; exact hl.1) d0 d3 d4 d6 d9 (fun x hx => by rw [ht] at hx; cases hx) (by show 2 + 3 < _; omega) (by
      have := am_sum (E := E) hw
      show _ + (13 * (2 + 1) + 43) ≤ _
      omega) hR.2.2.1 hR.2.2.2 C.2.2.2.2.1 (fun t _ g1 g2 => am_thrown hP hS g1 g2) hS.2.2 h1 h2
/-! a call in a method with handlers, each of which answers with a number -/
def am_cth (g : Option am_R) (f : Option Value → am_S → Option am_R) (cs : List (Nat × Int32)) : Option am_R := g.bind (fun r => match r.1 with | .inl v => f v r.2 | .inr k => (cs.lookup k).map (fun n => (.inl (some (.int n)), r.2)))
/-- the handler of the k-th exception at pc: stores it, answers n -/
def am_Hd (Y : am_Y) (pc k : Nat) (n : Int32) : Prop := ∃ (pre : List ExceptionTableEntry) (x : ExceptionTableEntry) (suf : List ExceptionTableEntry) (i len : Nat) (z : Int),
  tableOf Y.2.2.2.2.1 = pre ++ x :: suf ∧ (∀ y ∈ pre, y.catchType ≠ 0 ∧ ∃ j, j < 4 ∧ j ≠ k ∧ Cond.classLink Y.1 y.catchType (am_ex j) ∈ am_G) ∧ covers x pc = true ∧ x.catchType ≠ 0 ∧ Cond.classLink Y.1 x.catchType (am_ex k) ∈ am_G ∧ Cond.castable (am_ex k) (am_ex k) ∈ am_nw ∧ k < 4 ∧
  ((decode Y.2.1 x.handlerPc = .ok (.astore i, len)  ∧ len = 2) ∨ (∃ j : Fin 4, decode Y.2.1 x.handlerPc = .ok (.astore_n j, len) ∧ len = 1 ∧ (j : Nat) = i)) ∧ i < Y.2.2.1 ∧ decode Y.2.1 (x.handlerPc + len) = .ok (.iconst z, 1) ∧ Int32.ofInt z = n ∧ decode Y.2.1 (x.handlerPc + len + 1) = .ok (.ireturn, 1) ∧ Y.2.2.2.1 = some .int
theorem ev_callC {stk rest : List Value} {mc' ms' : Nat} {g : Option am_R} {f : Option Value → am_S → Option am_R} {hs : List (Nat × Int32)} (hc : ∀ r, g = some r → am_Call E l Y cs sl pc L stk rest mc' ms' S r) (h1 : cs + mc' ≤ mc) (h2 : sl + ms' ≤ ms) (hH : ∀ k n, hs.lookup k = some n → am_Hd Y pc k n)
    (kk : ∀ v S', g = some (.inl v, S') → am_Ev E l Y (am_Z E mc ms) (cs + mc') (sl + ms') (pc + 3) L (v.toList ++ rest) S' (f v S')) : am_Ev E l Y (am_Z E mc ms) cs sl pc L stk S (am_cth g f hs) := by
  cases hg : g with
  | none => exact ev_none
  | some q =>
    obtain ⟨w, S'⟩ := q
    cases w with
    | inl v =>
      have h := ev_call0 (Z := am_Z E mc ms) (f := f) hc (fun r hr => by rw [hg] at hr; cases hr; exact ⟨_, rfl⟩) kk
      rw [hg] at h
      exact h
    | inr k =>
      intro r hr p en s m args below meth c C H locs ls hP hS hl T hT X
      have hr : (hs.lookup k).map (fun n => ((.inl (some (.int n)), S') : am_R)) = some r := hr
      cases hk0 : hs.lookup k with
      | none => rw [hk0] at hr; cases hr
      | some n =>
        rw [hk0] at hr
        cases hr
        rcases hc _ hg p en s m args below meth c C H locs ls hP hS hl T hT X with ⟨v', st₀, t, T', LL, h0, X', hL, e1, e2, ⟨⟨v2, hv2, hoc⟩, hP', hF⟩, step⟩ | ⟨q, st₀, t, T', LL, x, ce, h0, X', hL, e1, e2, ⟨⟨k2, hk, hx⟩, hP', hF⟩, hce, hcv, hcl, step⟩
        · cases hv2
        · cases hk
          obtain ⟨k1, k2', k3⟩ := vx_keep h0 e1 hS (fun _ _ h => h) (fun _ h => h) hL hF
          obtain ⟨pre, y, suf, i, len, z, q1, q2, q3, q4, q5, q6, q7, q8, q9, q10, q11, q12, q13⟩ := hH k n hk0
          have hI := C.2.2.2.2.2.2.2.2.1
          have hlocks := C.2.2.2.2.1
          have hend : ∀ ls9 : Array Slot, W p l en Y.2.2.2.2.2 s m args below meth c T'.heap (locs ++ LL) (cs + mc') (sl + ms') (am_Z E mc ms below args s (.inl (some (.int n)), S')) (F0 m (y.handlerPc + len) ls9 []) := by
            intro ls9
            refine lv_iconst C.1 C.2.1 q10 q11 ?_
            refine W.widen (k := mc) (n := ms) h1 h2 ?_
            exact vx_ret (W.zret (ty := .int) (v := n) C.1 C.2.1 (C.2.2.2.1.trans q13) rfl (fun t9 h9 _ => ⟨⟨_, rfl, rfl⟩, by rw [h9, e1]; exact hP', k3.F h9⟩) (fun q hq => k3.2.2 q hq) q12)
          have hw : vx_W p l en Y.2.2.2.2.2 s m args below meth c T'.heap (locs ++ LL) (cs + mc') (sl + ms') (am_Z E mc ms below args s (.inl (some (.int n)), S')) (F0 m pc ls (rest.map (am_v E))) q := by
            refine vx_catch (own := Y.1) (name := am_ex k) (E := x) (ce := ce) C.2.2.2.2.2.1 pre y suf (by rw [C.2.2.2.2.2.2.2.2.2]; exact q1) (fun z9 hz => ?_) q3 q4 (C.2.2.2.2.2.2.1 _ q5) (by rw [hx]; exact am_C_word C (Or.inr q6)) (by rw [e1]; exact hce) hcv hcl ?_
            · obtain ⟨z1, j, z2, z3, z4⟩ := q2 z9 hz
              exact Or.inr ⟨z1, am_ex j, C.2.2.2.2.2.2.1 _ z4, by rw [hx]; exact hI.2.2.2.2.1 k j q7 z2 (fun h => z3 h.symm)⟩
            · rcases q8 with ⟨d1, rfl⟩ | ⟨j, d1, rfl, rfl⟩
              · exact lv_astore C.1 C.2.1 d1 (am_has_lv hl) q9 rfl (fun ls9 _ => hend ls9)
              · exact lv_astore_n C.1 C.2.1 d1 rfl (am_has_lv hl) q9 rfl (fun ls9 _ => hend ls9)
          obtain ⟨t2, a1, b1⟩ := hw T' rfl X'
          exact ⟨t2, step.trans a1, b1⟩
/-! the rows of shorts -/
def am_cpS (σ : Nat → Nat → Int32) (a : Nat) (sp : Int32) (b : Nat) (dp n : Int32) : Option (Nat → Nat → Int32) :=
  if ∀ i, i < n.toNatClampNeg → (σ a (sp.toNatClampNeg + i)).toInt16.toInt32 = σ a (sp.toNatClampNeg + i) then am_cp σ a sp b dp n else none
theorem am_fits16 {x : Int32} (h : x.toInt16.toInt32 = x) : fits .short (.int x) = true := by rw [← h]; exact pk_fs x
theorem ev_cpyS {idx a b : Nat} {sp dp n : Int32} {f : (Nat → Nat → Int32) → Option β} (hd : decode Y.2.1 pc = .ok (.invokestatic idx, 3)) (hlk : Cond.methodLink Y.1 idx arraycopyName ∈ am_G) (haw : ∀ w ∈ am_acw, w ∈ am_G) (ha : am_kd a = 3) (hb : am_kd b = 3) (hw : (st.map fun v => v.category).sum ≤ 8) (hR1 : 1 ≤ Y.2.2.2.2.2.frames) (hR2 : 8 + (nativeFrameWords "java/lang/System" "arraycopy" 5 + 11) ≤ Y.2.2.2.2.2.locals)
    (kk : ∀ σ, am_cpS S.1 a sp b dp n = some σ → am_Ev E l Y Z cs sl (pc + 3) L st (σ, S.2) (f σ)) : am_Ev E l Y Z cs sl pc L (.int n :: .int dp :: .ref b :: .int sp :: .ref a :: st) S ((am_cpS S.1 a sp b dp n).bind f) :=
  ev_bind fun σ hv => by
    intro r hr p en s m args below meth c0 C H locs ls hP hS hl
    have ht := C.2.2.2.2.2.2.1
    have hv0 := hv
    unfold am_cpS at hv
    by_cases hfit : ∀ i, i < n.toNatClampNeg → (S.1 a (sp.toNatClampNeg + i)).toInt16.toInt32 = S.1 a (sp.toNatClampNeg + i)
    · rw [if_pos hfit] at hv
      unfold am_cp at hv
      by_cases q : sp < 0 ∨ dp < 0 ∨ n < 0 ∨ am_ln a < sp.toNatClampNeg + n.toNatClampNeg ∨ am_ln b < dp.toNatClampNeg + n.toNatClampNeg
      · rw [if_pos q] at hv; cases hv
      · rw [if_neg q] at hv
        simp only [not_or] at q
        obtain ⟨q1, q2, q3, q4, q5⟩ := q
        have hv := Option.some.inj hv
        refine va_copyi C.1 C.2.1 (by rw [C.2.2.1]; exact hl.1.symm) C.2.2.2.2.2.1 (ht _ hlk) (ht _ (haw _ (by simp [am_acw]))) (ht _ (haw _ (by simp [am_acw]))) (ht _ (haw _ (by simp [am_acw]))) C.2.2.2.2.2.2.2.2.1.1 hP (am_ws_D C.2.2.2.2.2.2.2.2.1.2.1) hS a b 3 3 (ty := .short)
          (by rw [am_ws_get (am_a_lt ha (by decide)), am_ent_3 ha]) (by rw [am_ws_get (am_a_lt hb (by decide)), am_ent_3 hb]) rfl rfl rfl q1 q2 q3 (Nat.not_lt.mp q4) (Nat.not_lt.mp q5) (fun i hi => am_fits16 (hfit i hi)) hR1 (Nat.le_trans (Nat.add_le_add_right (am_sum hw) _) hR2) hd (fun H1 locs1 hP1 _ hS1 => ?_)
        have hent : am_ent E (σ, S.2) b = .inl (E.2.2.1 3, am_ln b, .inl (va_cpy (S.1 a) (S.1 b) sp.toNatClampNeg dp.toNatClampNeg n.toNatClampNeg)) := by
          rw [am_ent_3 hb, ← hv]
          congr 4
          funext j
          simp
        have hoth : ∀ x, x ≠ b → am_ent E (σ, S.2) x = am_ent E S x := by
          intro x hx
          have e : σ x = S.1 x := by rw [← hv]; funext j; simp [hx]
          unfold am_ent am_fl am_fv
          simp only [e]
        rw [am_ws_set hent hoth] at hP1
        exact kk σ hv0 r hr p en s m args below meth c0 C H1 locs1 ls hP1 hS1 hl
    · rw [if_neg hfit] at hv; cases hv
end EVT
