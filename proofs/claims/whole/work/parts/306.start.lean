def R_law : String := "BellTownLaw"
def lw_P (b : Addr) (xs : List Int32) (args : Array Value) (s : State) : Prop := args = #[.ref b] ∧ s.IntsAt b xs ∧ xs.length ≤ 3072 ∧ (Jvm.Cond.and given_1 narrow_1).before args s = true
def lw_Q (_ : Array Value) (s : State) (o : Outcome) (t : State) : Prop := o = .returned (some (.int 1)) ∧ Framed s o t [] 601024 7293034
def lw_Z (below : List Frame) (a : Array Value) (s : State) : State → Prop := fun t => ∃ o, t.status = .running ∧ Ended t below o ∧ lw_Q a s o t
/-- the law's own end, with 1 on the stack, nothing written that was there before, its room as the claim has it -/
theorem lw_ret {p : Program} {l : Launch} {e : Env} {s : State} {m : MethodId} {below : List Frame} {meth : Method} {c : Code} {b : Nat} (hx : p.tables.exec = Jvm.exec) (hb : c.code = code) (hr : meth.sig.returnType = ret) (hlocks : meth.locks = false) {pc : Nat} {H : Heap} {ls : Array Slot} (hdg : decode code pc = .ok (.ireturn, 1)) : W p l e room_1 s m #[Value.ref b] below meth c H [] 601024 7293034 (lw_Z below #[Value.ref b] s) (F0 m pc ls [.int 1]) := by
  intro T hT X
  obtain ⟨fs, hret, hrun, hended, hW, hframe⟩ := X.leave (v := some (.int 1)) (hlocks := hlocks) (fun h => by rw [hr] at h; cases h)
  have hmeth' : T.vm.method? m = some meth := X.method'
  refine ⟨T.setFrames fs, ?_, .returned (some (.int 1)), hrun, hended, rfl, ⟨_, rfl⟩, hW, hframe⟩
  jvm_step X.here [X.here.top, hx, hb, hdg, hmeth', hr, ret, narrow_b1]
  (try refine ⟨rfl, ?_⟩); (try refine ⟨rfl, ?_⟩)
  first | (intro acts; rw [hret _ acts rfl rfl rfl]) | rw [hret _ _ rfl rfl rfl]
  exact Steps.refl _
/-- what holds at the law's entry: the machine, the code, the tables' words (any of lw_tbl by 'hts w (by decide +kernel)'), the script of L ints xs at the cell b, what the Statement gives of the start (any of its parts by flat_of_before) -/
def lw_At (p : Program) (s : State) (m : MethodId) (meth : Method) (c : Code) (b L : Nat) (xs : Nat → Int32) : Prop :=
  p.tables.exec = Jvm.exec ∧ c.code = code ∧ meth.sig.returnType = ret ∧ c.maxLocals = 7 ∧ s.vm.findClass R_law = some m.cls ∧ (∀ w ∈ lw_tbl, w.before #[Value.ref b] s = true) ∧ va_X b L xs s s.heap ∧ b < s.heap.size ∧ meth.locks = false ∧ (Jvm.Cond.and given_1 narrow_1).before #[Value.ref b] s = true

theorem st_G {args : Array Value} {s : State} (hts : ∀ w ∈ lw_tbl, w.before args s = true) : ∀ w ∈ am_G, w.before args s = true := fun w hw => hts w (List.mem_filter.mp hw).1
theorem st_K {args : Array Value} {s : State} (hg : ∀ w ∈ am_G, w.before args s = true) : ∃ D : va_G, ∀ (c : Nat) (q : vw_C), vwCl[c]? = some q → u_Kn s q.1 q.2.1 q.2.2 (D.1 c) (D.2 c) := by
  have h : ∀ c : Nat, ∃ d : ClassId × (Nat → Nat), ∀ q, vwCl[c]? = some q → u_Kn s q.1 q.2.1 q.2.2 d.1 d.2 := by
    intro c
    match c with
    | 0 => obtain ⟨cC, iS, h⟩ := u_known hg uw_X0 (hg _ it_X0); exact ⟨(cC, iS), fun q hq => by cases hq; exact h⟩
    | 1 => obtain ⟨cC, iS, h⟩ := u_known hg uw_X1 (hg _ it_X1); exact ⟨(cC, iS), fun q hq => by cases hq; exact h⟩
    | 2 => obtain ⟨cC, iS, h⟩ := u_known hg uw_X2 (hg _ it_X2); exact ⟨(cC, iS), fun q hq => by cases hq; exact h⟩
    | 3 => obtain ⟨cC, iS, h⟩ := u_known hg uw_X3 (hg _ it_X3); exact ⟨(cC, iS), fun q hq => by cases hq; exact h⟩
    | 4 => obtain ⟨cC, iS, h⟩ := u_known hg uw_X4 (hg _ it_X4); exact ⟨(cC, iS), fun q hq => by cases hq; exact h⟩
    | 5 => obtain ⟨cC, iS, h⟩ := u_known hg uw_X5 (hg _ it_X5); exact ⟨(cC, iS), fun q hq => by cases hq; exact h⟩
    | 6 => obtain ⟨cC, iS, h⟩ := u_known hg uw_X6 (hg _ it_X6); exact ⟨(cC, iS), fun q hq => by cases hq; exact h⟩
    | 7 => obtain ⟨cC, iS, h⟩ := u_known hg uw_X7 (hg _ it_X7); exact ⟨(cC, iS), fun q hq => by cases hq; exact h⟩
    | 8 => obtain ⟨cC, iS, h⟩ := u_known hg uw_X8 (hg _ it_X8); exact ⟨(cC, iS), fun q hq => by cases hq; exact h⟩
    | 9 => obtain ⟨cC, iS, h⟩ := u_known hg uw_X9 (hg _ it_X9); exact ⟨(cC, iS), fun q hq => by cases hq; exact h⟩
    | 10 => obtain ⟨cC, iS, h⟩ := u_known hg uw_X10 (hg _ it_X10); exact ⟨(cC, iS), fun q hq => by cases hq; exact h⟩
    | 11 => obtain ⟨cC, iS, h⟩ := u_known hg uw_X11 (hg _ it_X11); exact ⟨(cC, iS), fun q hq => by cases hq; exact h⟩
    | 12 => obtain ⟨cC, iS, h⟩ := u_known hg uw_X12 (hg _ it_X12); exact ⟨(cC, iS), fun q hq => by cases hq; exact h⟩
    | c + 13 => exact ⟨(0, fun _ => 0), fun q hq => by rw [List.getElem?_eq_none (by show 13 ≤ c + 13; omega)] at hq; cases hq⟩
  exact ⟨(fun c => (Classical.choose (h c)).1, fun c => (Classical.choose (h c)).2), fun c q hq => Classical.choose_spec (h c) q hq⟩
theorem st_A {args : Array Value} {s : State} {ty : FieldType} (h : (Cond.arrayClass ty).before args s = true) : ∃ cA, ArrOfT s cA ty ∧ s.vm.findClass ("[" ++ ty.toString) = some cA := by
  obtain ⟨c, k, comp, h1, h2, h3⟩ := Cond.arrayClass_spec h
  exact ⟨c, fun n z => ⟨fun k h => (by cases h), k, h2, comp, h3⟩, h1⟩
theorem st_eq {args : Array Value} {s : State} {t u : Term} {a : Nat} (h : (Cond.eq t u).before args s = true) (ht : t.eval args s none [] s = some (.ref a)) : u.eval args s none [] s = some (.ref a) := by
  cases hv : u.eval args s none [] s with
  | none => simp [Cond.before, Cond.holds, Cond.value, ht, hv] at h
  | some w =>
    simp only [Cond.before, Cond.holds, Cond.value, ht, hv] at h
    cases w <;> simp at h
    rw [h]
def st_tm (k : Nat) : Term := match k with
  | 0 => Term.string "BellTown$Reader" 44
  | 1 => Term.string "BellTown$TownText" 34
  | 2 => Term.string "BellTown$TownText" 98
  | 3 => Term.string "BellTown$TownText" 43
  | 4 => Term.string "BellTown$TownText" 48
  | 5 => Term.string "BellTown$TownText" 57
  | 6 => Term.string "BellTown$TownText" 59
  | 7 => Term.string "BellTown$TownText" 65
  | 8 => Term.string "BellTown$LawText" 31
  | 9 => Term.string "BellTown$LawText" 44
  | 10 => Term.string "BellTown$LawText" 68
  | 11 => Term.string "BellTown$LawText" 73
  | 12 => Term.string "BellTown$LawText" 78
  | 13 => Term.string "BellTown$LawText" 100
  | 14 => Term.string "BellTown$LawText" 102
  | 15 => Term.string "BellTown$LawText" 104
  | 16 => Term.string "BellTown$LawText" 106
  | 17 => Term.string "BellTown$LawText" 96
  | 18 => Term.string "BellTown$LawText" 84
  | 19 => Term.string "BellTown$LawText" 86
  | 20 => Term.string "BellTown$LawText" 64
  | 21 => Term.string "BellTown$LawText" 66
  | 22 => Term.string "BellTown" 107
  | 23 => Term.string "BellTown" 117
  | 24 => Term.string "BellTown" 387
  | 25 => Term.string "BellTown" 162
  | 26 => Term.string "BellTown" 393
  | 27 => Term.string "BellTown" 397
  | 28 => Term.string "BellTown" 191
  | 29 => Term.string "BellTown" 401
  | 30 => Term.string "BellTown" 196
  | 31 => Term.string "BellTown" 403
  | 32 => Term.string "BellTown" 395
  | 33 => Term.string "BellTown" 234
  | 34 => Term.string "BellTown" 249
  | 35 => Term.string "BellTown" 399
  | 36 => Term.string "BellTown" 405
  | 37 => Term.string "BellTown" 289
  | 38 => Term.string "BellTown" 304
  | 39 => Term.string "BellTown" 309
  | 40 => Term.string "BellTown" 320
  | 41 => Term.string "BellTown" 339
  | 42 => Term.string "BellTown" 348
  | 43 => Term.string "BellTown" 350
  | _ => Term.string "" 0
def st_tx (A : Nat → Prop) (args : Array Value) (s : State) (k a v : Nat) : Prop := (k < 44 → (st_tm k).eval args s none [] s = some (.ref a)) ∧ (k < am_nS → va_O "java/lang/String" a A s s.heap ∧ va_OF "java/lang/String" "coder" "B" (.int 0) a A s s.heap ∧ va_OF "java/lang/String" "value" "[B" (.ref v) a A s s.heap ∧ va_T .byte v (am_lens.getD k 0) (fun j => .int ((am_byts.getD k []).getD j 0)) A s s.heap)
theorem st_one {args : Array Value} {s : State} (h : (Jvm.Cond.and given_1 narrow_1).before args s = true) {A : Nat → Prop} (hA : ∀ a : Nat, a < s.heap.size → ¬ A a) (k : Nat) : ∃ q : Nat × Nat, st_tx A args s k q.1 q.2 := by
  match k with
  | 0 => obtain ⟨a, v, h1, h2⟩ := sx_0 h hA; exact ⟨(a, v), fun _ => h2, fun _ => h1⟩
  | 1 => obtain ⟨a, v, h1, h2⟩ := sx_1 h hA; exact ⟨(a, v), fun _ => h2, fun _ => h1⟩
  | 2 => obtain ⟨a, v, h1, h2⟩ := sx_2 h hA; exact ⟨(a, v), fun _ => h2, fun _ => h1⟩
  | 3 => obtain ⟨a, v, h1, h2⟩ := sx_3 h hA; exact ⟨(a, v), fun _ => h2, fun _ => h1⟩
  | 4 => obtain ⟨a, v, h1, h2⟩ := sx_4 h hA; exact ⟨(a, v), fun _ => h2, fun _ => h1⟩
  | 5 => obtain ⟨a, v, h1, h2⟩ := sx_5 h hA; exact ⟨(a, v), fun _ => h2, fun _ => h1⟩
  | 6 => obtain ⟨a, v, h1, h2⟩ := sx_6 h hA; exact ⟨(a, v), fun _ => h2, fun _ => h1⟩
  | 7 => obtain ⟨a, v, h1, h2⟩ := sx_7 h hA; exact ⟨(a, v), fun _ => h2, fun _ => h1⟩
  | 8 => obtain ⟨a, v, h1, h2⟩ := sx_8 h hA; exact ⟨(a, v), fun _ => h2, fun _ => h1⟩
  | 9 => obtain ⟨a, v, h1, h2⟩ := sx_9 h hA; exact ⟨(a, v), fun _ => h2, fun _ => h1⟩
  | 10 => obtain ⟨a, v, h1, h2⟩ := sx_10 h hA; exact ⟨(a, v), fun _ => h2, fun _ => h1⟩
  | 11 => obtain ⟨a, v, h1, h2⟩ := sx_11 h hA; exact ⟨(a, v), fun _ => h2, fun _ => h1⟩
  | 12 => obtain ⟨a, v, h1, h2⟩ := sx_12 h hA; exact ⟨(a, v), fun _ => h2, fun _ => h1⟩
  | 13 => obtain ⟨a, v, h1, h2⟩ := sx_13 h hA; exact ⟨(a, v), fun _ => h2, fun _ => h1⟩
  | 14 => obtain ⟨a, v, h1, h2⟩ := sx_14 h hA; exact ⟨(a, v), fun _ => h2, fun _ => h1⟩
  | 15 => obtain ⟨a, v, h1, h2⟩ := sx_15 h hA; exact ⟨(a, v), fun _ => h2, fun _ => h1⟩
  | 16 => obtain ⟨a, v, h1, h2⟩ := sx_16 h hA; exact ⟨(a, v), fun _ => h2, fun _ => h1⟩
  | 17 => obtain ⟨a, v, h1, h2⟩ := sx_17 h hA; exact ⟨(a, v), fun _ => h2, fun _ => h1⟩
  | 18 => obtain ⟨a, v, h1, h2⟩ := sx_18 h hA; exact ⟨(a, v), fun _ => h2, fun _ => h1⟩
  | 19 => obtain ⟨a, v, h1, h2⟩ := sx_19 h hA; exact ⟨(a, v), fun _ => h2, fun _ => h1⟩
  | 20 => obtain ⟨a, v, h1, h2⟩ := sx_20 h hA; exact ⟨(a, v), fun _ => h2, fun _ => h1⟩
  | 21 => obtain ⟨a, v, h1, h2⟩ := sx_21 h hA; exact ⟨(a, v), fun _ => h2, fun _ => h1⟩
  | 22 => obtain ⟨a, _, _, _, h1, -⟩ := Cond.exactly_spec (nx_t h (i := 137) (w := .exactly (Term.string "BellTown" 107) "java/lang/String") (by decide +kernel)); exact ⟨(a, 0), fun _ => h1, fun q => absurd q (by decide)⟩
  | 23 => obtain ⟨a, _, _, _, h1, -⟩ := Cond.exactly_spec (nx_t h (i := 158) (w := .exactly (Term.string "BellTown" 117) "java/lang/String") (by decide +kernel)); exact ⟨(a, 0), fun _ => h1, fun q => absurd q (by decide)⟩
  | 24 => obtain ⟨a, _, _, _, h1, -⟩ := Cond.exactly_spec (nx_t h (i := 287) (w := .exactly (Term.string "BellTown" 387) "java/lang/String") (by decide +kernel)); exact ⟨(a, 0), fun _ => h1, fun q => absurd q (by decide)⟩
  | 25 => obtain ⟨a, _, _, _, h1, -⟩ := Cond.exactly_spec (nx_t h (i := 304) (w := .exactly (Term.string "BellTown" 162) "java/lang/String") (by decide +kernel)); exact ⟨(a, 0), fun _ => h1, fun q => absurd q (by decide)⟩
  | 26 => obtain ⟨a, _, _, _, h1, -⟩ := Cond.exactly_spec (nx_t h (i := 331) (w := .exactly (Term.string "BellTown" 393) "java/lang/String") (by decide +kernel)); exact ⟨(a, 0), fun _ => h1, fun q => absurd q (by decide)⟩
  | 27 => obtain ⟨a, _, _, _, h1, -⟩ := Cond.exactly_spec (nx_t h (i := 347) (w := .exactly (Term.string "BellTown" 397) "java/lang/String") (by decide +kernel)); exact ⟨(a, 0), fun _ => h1, fun q => absurd q (by decide)⟩
  | 28 => obtain ⟨a, _, _, _, h1, -⟩ := Cond.exactly_spec (nx_t h (i := 369) (w := .exactly (Term.string "BellTown" 191) "java/lang/String") (by decide +kernel)); exact ⟨(a, 0), fun _ => h1, fun q => absurd q (by decide)⟩
  | 29 => obtain ⟨a, _, _, _, h1, -⟩ := Cond.exactly_spec (nx_t h (i := 394) (w := .exactly (Term.string "BellTown" 401) "java/lang/String") (by decide +kernel)); exact ⟨(a, 0), fun _ => h1, fun q => absurd q (by decide)⟩
  | 30 => obtain ⟨a, _, _, _, h1, -⟩ := Cond.exactly_spec (nx_t h (i := 418) (w := .exactly (Term.string "BellTown" 196) "java/lang/String") (by decide +kernel)); exact ⟨(a, 0), fun _ => h1, fun q => absurd q (by decide)⟩
  | 31 => obtain ⟨a, _, _, _, h1, -⟩ := Cond.exactly_spec (nx_t h (i := 450) (w := .exactly (Term.string "BellTown" 403) "java/lang/String") (by decide +kernel)); exact ⟨(a, 0), fun _ => h1, fun q => absurd q (by decide)⟩
  | 32 => obtain ⟨a, _, _, _, h1, -⟩ := Cond.exactly_spec (nx_t h (i := 475) (w := .exactly (Term.string "BellTown" 395) "java/lang/String") (by decide +kernel)); exact ⟨(a, 0), fun _ => h1, fun q => absurd q (by decide)⟩
  | 33 => obtain ⟨a, _, _, _, h1, -⟩ := Cond.exactly_spec (nx_t h (i := 494) (w := .exactly (Term.string "BellTown" 234) "java/lang/String") (by decide +kernel)); exact ⟨(a, 0), fun _ => h1, fun q => absurd q (by decide)⟩
  | 34 => obtain ⟨a, _, _, _, h1, -⟩ := Cond.exactly_spec (nx_t h (i := 518) (w := .exactly (Term.string "BellTown" 249) "java/lang/String") (by decide +kernel)); exact ⟨(a, 0), fun _ => h1, fun q => absurd q (by decide)⟩
  | 35 => obtain ⟨a, _, _, _, h1, -⟩ := Cond.exactly_spec (nx_t h (i := 541) (w := .exactly (Term.string "BellTown" 399) "java/lang/String") (by decide +kernel)); exact ⟨(a, 0), fun _ => h1, fun q => absurd q (by decide)⟩
  | 36 => obtain ⟨a, _, _, _, h1, -⟩ := Cond.exactly_spec (nx_t h (i := 579) (w := .exactly (Term.string "BellTown" 405) "java/lang/String") (by decide +kernel)); exact ⟨(a, 0), fun _ => h1, fun q => absurd q (by decide)⟩
  | 37 => obtain ⟨a, _, _, _, h1, -⟩ := Cond.exactly_spec (nx_t h (i := 611) (w := .exactly (Term.string "BellTown" 289) "java/lang/String") (by decide +kernel)); exact ⟨(a, 0), fun _ => h1, fun q => absurd q (by decide)⟩
  | 38 => obtain ⟨a, _, _, _, h1, -⟩ := Cond.exactly_spec (nx_t h (i := 642) (w := .exactly (Term.string "BellTown" 304) "java/lang/String") (by decide +kernel)); exact ⟨(a, 0), fun _ => h1, fun q => absurd q (by decide)⟩
  | 39 => obtain ⟨a, _, _, _, h1, -⟩ := Cond.exactly_spec (nx_t h (i := 688) (w := .exactly (Term.string "BellTown" 309) "java/lang/String") (by decide +kernel)); exact ⟨(a, 0), fun _ => h1, fun q => absurd q (by decide)⟩
  | 40 => obtain ⟨a, _, _, _, h1, -⟩ := Cond.exactly_spec (nx_t h (i := 709) (w := .exactly (Term.string "BellTown" 320) "java/lang/String") (by decide +kernel)); exact ⟨(a, 0), fun _ => h1, fun q => absurd q (by decide)⟩
  | 41 => obtain ⟨a, _, _, _, h1, -⟩ := Cond.exactly_spec (nx_t h (i := 738) (w := .exactly (Term.string "BellTown" 339) "java/lang/String") (by decide +kernel)); exact ⟨(a, 0), fun _ => h1, fun q => absurd q (by decide)⟩
  | 42 => obtain ⟨a, _, _, _, h1, -⟩ := Cond.exactly_spec (nx_t h (i := 775) (w := .exactly (Term.string "BellTown" 348) "java/lang/String") (by decide +kernel)); exact ⟨(a, 0), fun _ => h1, fun q => absurd q (by decide)⟩
  | 43 => obtain ⟨a, _, _, _, h1, -⟩ := Cond.exactly_spec (nx_t h (i := 810) (w := .exactly (Term.string "BellTown" 350) "java/lang/String") (by decide +kernel)); exact ⟨(a, 0), fun _ => h1, fun q => absurd q (by decide)⟩
  | k + 44 => exact ⟨(0, 0), fun q => absurd q (by omega), fun q => absurd (show k + 44 < 22 from q) (by omega)⟩
theorem st_sts {args : Array Value} {s : State} (hts : ∀ w ∈ lw_tbl, w.before args s = true) (h : (Jvm.Cond.and given_1 narrow_1).before args s = true) {ad : Nat → Nat} (had : ∀ k, k < 44 → (st_tm k).eval args s none [] s = some (.ref (ad k))) : ∀ q ∈ am_sts, vk_R q.1 q.2.1 q.2.2.1 (ad q.2.2.2) s := by
  have hr : ∀ {i : Nat} {w : Cond}, tables_1[i]? = some w → w.before args s = true := fun hi => hts _ (List.mem_append_right _ (List.mem_of_getElem? hi))
  refine List.forall_mem_cons.mpr ⟨vk_R.of (A := args) (hr (i := 565) (w := .stringRef "BellTown$Reader" 44 ";") (by decide +kernel)) (had 0 (by decide)), ?_⟩
  refine List.forall_mem_cons.mpr ⟨vk_R.of (A := args) (hr (i := 630) (w := .stringRef "BellTown$TownText" 34 "house") (by decide +kernel)) (had 1 (by decide)), ?_⟩
  refine List.forall_mem_cons.mpr ⟨vk_R.of (A := args) (hr (i := 642) (w := .stringRef "BellTown$TownText" 98 "deaf") (by decide +kernel)) (had 2 (by decide)), ?_⟩
  refine List.forall_mem_cons.mpr ⟨vk_R.of (A := args) (hr (i := 644) (w := .stringRef "BellTown$TownText" 43 "want") (by decide +kernel)) (had 3 (by decide)), ?_⟩
  refine List.forall_mem_cons.mpr ⟨vk_R.of (A := args) (hr (i := 649) (w := .stringRef "BellTown$TownText" 48 "code") (by decide +kernel)) (had 4 (by decide)), ?_⟩
  refine List.forall_mem_cons.mpr ⟨vk_R.of (A := args) (hr (i := 662) (w := .stringRef "BellTown$TownText" 57 "none") (by decide +kernel)) (had 5 (by decide)), ?_⟩
  refine List.forall_mem_cons.mpr ⟨vk_R.of (A := args) (hr (i := 663) (w := .stringRef "BellTown$TownText" 59 "wind") (by decide +kernel)) (had 6 (by decide)), ?_⟩
  refine List.forall_mem_cons.mpr ⟨vk_R.of (A := args) (hr (i := 668) (w := .stringRef "BellTown$TownText" 65 "gale") (by decide +kernel)) (had 7 (by decide)), ?_⟩
  refine List.forall_mem_cons.mpr ⟨vk_R.of (A := args) (hr (i := 711) (w := .stringRef "BellTown" 107 "the text is wrong") (by decide +kernel)) (had 22 (by decide)), ?_⟩
  refine List.forall_mem_cons.mpr ⟨vk_R.of (A := args) (hr (i := 746) (w := .stringRef "BellTown" 117 "there are 10 texts") (by decide +kernel)) (had 23 (by decide)), ?_⟩
  refine List.forall_mem_cons.mpr ⟨vk_R.of (A := args) (hr (i := 781) (w := .stringRef "BellTown$LawText" 31 "first") (by decide +kernel)) (had 8 (by decide)), ?_⟩
  refine List.forall_mem_cons.mpr ⟨vk_R.of (A := args) (hr (i := 785) (w := .stringRef "BellTown$LawText" 44 "if") (by decide +kernel)) (had 9 (by decide)), ?_⟩
  refine List.forall_mem_cons.mpr ⟨vk_R.of (A := args) (hr (i := 794) (w := .stringRef "BellTown$LawText" 68 "not") (by decide +kernel)) (had 10 (by decide)), ?_⟩
  refine List.forall_mem_cons.mpr ⟨vk_R.of (A := args) (hr (i := 796) (w := .stringRef "BellTown$LawText" 73 "(") (by decide +kernel)) (had 11 (by decide)), ?_⟩
  refine List.forall_mem_cons.mpr ⟨vk_R.of (A := args) (hr (i := 802) (w := .stringRef "BellTown$LawText" 78 ")") (by decide +kernel)) (had 12 (by decide)), ?_⟩
  refine List.forall_mem_cons.mpr ⟨vk_R.of (A := args) (hr (i := 815) (w := .stringRef "BellTown$LawText" 98 "house") (by decide +kernel)) (st_eq (nx_t h (i := 221) (w := .eq (Term.string "BellTown$TownText" 34) (Term.string "BellTown$LawText" 98)) (by decide +kernel)) (had 1 (by decide))), ?_⟩
  refine List.forall_mem_cons.mpr ⟨vk_R.of (A := args) (hr (i := 816) (w := .stringRef "BellTown$LawText" 100 "coins") (by decide +kernel)) (had 13 (by decide)), ?_⟩
  refine List.forall_mem_cons.mpr ⟨vk_R.of (A := args) (hr (i := 817) (w := .stringRef "BellTown$LawText" 102 "urgent") (by decide +kernel)) (had 14 (by decide)), ?_⟩
  refine List.forall_mem_cons.mpr ⟨vk_R.of (A := args) (hr (i := 818) (w := .stringRef "BellTown$LawText" 104 "cost") (by decide +kernel)) (had 15 (by decide)), ?_⟩
  refine List.forall_mem_cons.mpr ⟨vk_R.of (A := args) (hr (i := 819) (w := .stringRef "BellTown$LawText" 106 "waited") (by decide +kernel)) (had 16 (by decide)), ?_⟩
  refine List.forall_mem_cons.mpr ⟨vk_R.of (A := args) (hr (i := 820) (w := .stringRef "BellTown$LawText" 96 "+") (by decide +kernel)) (had 17 (by decide)), ?_⟩
  refine List.forall_mem_cons.mpr ⟨vk_R.of (A := args) (hr (i := 821) (w := .stringRef "BellTown$LawText" 84 "<") (by decide +kernel)) (had 18 (by decide)), ?_⟩
  refine List.forall_mem_cons.mpr ⟨vk_R.of (A := args) (hr (i := 822) (w := .stringRef "BellTown$LawText" 86 ">") (by decide +kernel)) (had 19 (by decide)), ?_⟩
  refine List.forall_mem_cons.mpr ⟨vk_R.of (A := args) (hr (i := 823) (w := .stringRef "BellTown$LawText" 64 "and") (by decide +kernel)) (had 20 (by decide)), ?_⟩
  refine List.forall_mem_cons.mpr ⟨vk_R.of (A := args) (hr (i := 824) (w := .stringRef "BellTown$LawText" 66 "or") (by decide +kernel)) (had 21 (by decide)), ?_⟩
  refine List.forall_mem_cons.mpr ⟨vk_R.of (A := args) (hr (i := 853) (w := .stringRef "BellTown" 387 "no such house") (by decide +kernel)) (had 24 (by decide)), ?_⟩
  refine List.forall_mem_cons.mpr ⟨vk_R.of (A := args) (hr (i := 870) (w := .stringRef "BellTown" 162 "a house has what 0 to 5") (by decide +kernel)) (had 25 (by decide)), ?_⟩
  refine List.forall_mem_cons.mpr ⟨vk_R.of (A := args) (hr (i := 889) (w := .stringRef "BellTown" 393 "no such want") (by decide +kernel)) (had 26 (by decide)), ?_⟩
  refine List.forall_mem_cons.mpr ⟨vk_R.of (A := args) (hr (i := 909) (w := .stringRef "BellTown" 397 "a word is 2 to 511") (by decide +kernel)) (had 27 (by decide)), ?_⟩
  refine List.forall_mem_cons.mpr ⟨vk_R.of (A := args) (hr (i := 928) (w := .stringRef "BellTown" 191 "a way has what 0 to 3") (by decide +kernel)) (had 28 (by decide)), ?_⟩
  refine List.forall_mem_cons.mpr ⟨vk_R.of (A := args) (hr (i := 940) (w := .stringRef "BellTown" 401 "a minute is 0 to 999") (by decide +kernel)) (had 29 (by decide)), ?_⟩
  refine List.forall_mem_cons.mpr ⟨vk_R.of (A := args) (hr (i := 941) (w := .stringRef "BellTown" 196 "the house has no word for it") (by decide +kernel)) (had 30 (by decide)), ?_⟩
  refine List.forall_mem_cons.mpr ⟨vk_R.of (A := args) (hr (i := 946) (w := .stringRef "BellTown" 403 "there are 12 ringings") (by decide +kernel)) (had 31 (by decide)), ?_⟩
  refine List.forall_mem_cons.mpr ⟨vk_R.of (A := args) (hr (i := 962) (w := .stringRef "BellTown" 395 "no such ringing") (by decide +kernel)) (had 32 (by decide)), ?_⟩
  refine List.forall_mem_cons.mpr ⟨vk_R.of (A := args) (hr (i := 1040) (w := .stringRef "BellTown" 234 "a distance is 0 to 8") (by decide +kernel)) (had 33 (by decide)), ?_⟩
  refine List.forall_mem_cons.mpr ⟨vk_R.of (A := args) (hr (i := 1064) (w := .stringRef "BellTown" 249 "both houses are one") (by decide +kernel)) (had 34 (by decide)), ?_⟩
  refine List.forall_mem_cons.mpr ⟨vk_R.of (A := args) (hr (i := 1103) (w := .stringRef "BellTown" 399 "the first house has no word for it") (by decide +kernel)) (had 35 (by decide)), ?_⟩
  refine List.forall_mem_cons.mpr ⟨vk_R.of (A := args) (hr (i := 1152) (w := .stringRef "BellTown" 405 "six o'clock has what 0 and 1") (by decide +kernel)) (had 36 (by decide)), ?_⟩
  refine List.forall_mem_cons.mpr ⟨vk_R.of (A := args) (hr (i := 1238) (w := .stringRef "BellTown" 289 "the house has a word for it") (by decide +kernel)) (had 37 (by decide)), ?_⟩
  refine List.forall_mem_cons.mpr ⟨vk_R.of (A := args) (hr (i := 1279) (w := .stringRef "BellTown" 304 "the tape is not strokes, a blank and wants") (by decide +kernel)) (had 38 (by decide)), ?_⟩
  refine List.forall_mem_cons.mpr ⟨vk_R.of (A := args) (hr (i := 1280) (w := .stringRef "BellTown" 309 "no such kind came") (by decide +kernel)) (had 39 (by decide)), ?_⟩
  refine List.forall_mem_cons.mpr ⟨vk_R.of (A := args) (hr (i := 1314) (w := .stringRef "BellTown" 320 "a word has 1 to 8 strokes") (by decide +kernel)) (had 40 (by decide)), ?_⟩
  refine List.forall_mem_cons.mpr ⟨vk_R.of (A := args) (hr (i := 1351) (w := .stringRef "BellTown" 339 "the minutes are not 0 to 60 apart") (by decide +kernel)) (had 41 (by decide)), ?_⟩
  refine List.forall_mem_cons.mpr ⟨vk_R.of (A := args) (hr (i := 1392) (w := .stringRef "BellTown" 348 "an evening has 1 to 12 ringings") (by decide +kernel)) (had 42 (by decide)), ?_⟩
  refine List.forall_mem_cons.mpr ⟨vk_R.of (A := args) (hr (i := 1393) (w := .stringRef "BellTown" 350 "an evening has what 0 to 3") (by decide +kernel)) (had 43 (by decide)), ?_⟩
  refine List.forall_mem_cons.mpr ⟨vk_R.of (A := args) (hr (i := 1551) (w := .stringRef "BellTownModel" 152 "house") (by decide +kernel)) (st_eq (nx_t h (i := 849) (w := .eq (Term.string "BellTown$TownText" 34) (Term.string "BellTownModel" 152)) (by decide +kernel)) (had 1 (by decide))), ?_⟩
  refine List.forall_mem_cons.mpr ⟨vk_R.of (A := args) (hr (i := 1574) (w := .stringRef "BellTownModel" 144 "deaf") (by decide +kernel)) (st_eq (nx_t h (i := 859) (w := .eq (Term.string "BellTown$TownText" 98) (Term.string "BellTownModel" 144)) (by decide +kernel)) (had 2 (by decide))), ?_⟩
  refine List.forall_mem_cons.mpr ⟨vk_R.of (A := args) (hr (i := 1579) (w := .stringRef "BellTownModel" 158 "want") (by decide +kernel)) (st_eq (nx_t h (i := 868) (w := .eq (Term.string "BellTown$TownText" 43) (Term.string "BellTownModel" 158)) (by decide +kernel)) (had 3 (by decide))), ?_⟩
  refine List.forall_mem_cons.mpr ⟨vk_R.of (A := args) (hr (i := 1588) (w := .stringRef "BellTownModel" 163 "code") (by decide +kernel)) (st_eq (nx_t h (i := 877) (w := .eq (Term.string "BellTown$TownText" 48) (Term.string "BellTownModel" 163)) (by decide +kernel)) (had 4 (by decide))), ?_⟩
  refine List.forall_mem_cons.mpr ⟨vk_R.of (A := args) (hr (i := 1600) (w := .stringRef "BellTownModel" 169 "none") (by decide +kernel)) (st_eq (nx_t h (i := 886) (w := .eq (Term.string "BellTown$TownText" 57) (Term.string "BellTownModel" 169)) (by decide +kernel)) (had 5 (by decide))), ?_⟩
  refine List.forall_mem_cons.mpr ⟨vk_R.of (A := args) (hr (i := 1601) (w := .stringRef "BellTownModel" 171 "wind") (by decide +kernel)) (st_eq (nx_t h (i := 895) (w := .eq (Term.string "BellTown$TownText" 59) (Term.string "BellTownModel" 171)) (by decide +kernel)) (had 6 (by decide))), ?_⟩
  refine List.forall_mem_cons.mpr ⟨vk_R.of (A := args) (hr (i := 1606) (w := .stringRef "BellTownModel" 177 "gale") (by decide +kernel)) (st_eq (nx_t h (i := 904) (w := .eq (Term.string "BellTown$TownText" 65) (Term.string "BellTownModel" 177)) (by decide +kernel)) (had 7 (by decide))), ?_⟩
  refine List.forall_mem_cons.mpr ⟨vk_R.of (A := args) (hr (i := 1611) (w := .stringRef "BellTownModel" 221 "first") (by decide +kernel)) (st_eq (nx_t h (i := 914) (w := .eq (Term.string "BellTown$LawText" 31) (Term.string "BellTownModel" 221)) (by decide +kernel)) (had 8 (by decide))), ?_⟩
  refine List.forall_mem_cons.mpr ⟨vk_R.of (A := args) (hr (i := 1612) (w := .stringRef "BellTownModel" 223 "if") (by decide +kernel)) (st_eq (nx_t h (i := 921) (w := .eq (Term.string "BellTown$LawText" 44) (Term.string "BellTownModel" 223)) (by decide +kernel)) (had 9 (by decide))), ?_⟩
  refine List.forall_mem_cons.mpr ⟨vk_R.of (A := args) (hr (i := 1629) (w := .stringRef "BellTownModel" 206 "not") (by decide +kernel)) (st_eq (nx_t h (i := 929) (w := .eq (Term.string "BellTown$LawText" 68) (Term.string "BellTownModel" 206)) (by decide +kernel)) (had 10 (by decide))), ?_⟩
  refine List.forall_mem_cons.mpr ⟨vk_R.of (A := args) (hr (i := 1642) (w := .stringRef "BellTownModel" 186 "coins") (by decide +kernel)) (st_eq (nx_t h (i := 939) (w := .eq (Term.string "BellTown$LawText" 100) (Term.string "BellTownModel" 186)) (by decide +kernel)) (had 13 (by decide))), ?_⟩
  refine List.forall_mem_cons.mpr ⟨vk_R.of (A := args) (hr (i := 1643) (w := .stringRef "BellTownModel" 188 "urgent") (by decide +kernel)) (st_eq (nx_t h (i := 950) (w := .eq (Term.string "BellTown$LawText" 102) (Term.string "BellTownModel" 188)) (by decide +kernel)) (had 14 (by decide))), ?_⟩
  refine List.forall_mem_cons.mpr ⟨vk_R.of (A := args) (hr (i := 1644) (w := .stringRef "BellTownModel" 190 "cost") (by decide +kernel)) (st_eq (nx_t h (i := 959) (w := .eq (Term.string "BellTown$LawText" 104) (Term.string "BellTownModel" 190)) (by decide +kernel)) (had 15 (by decide))), ?_⟩
  refine List.forall_mem_cons.mpr ⟨vk_R.of (A := args) (hr (i := 1645) (w := .stringRef "BellTownModel" 192 "waited") (by decide +kernel)) (st_eq (nx_t h (i := 970) (w := .eq (Term.string "BellTown$LawText" 106) (Term.string "BellTownModel" 192)) (by decide +kernel)) (had 16 (by decide))), ?_⟩
  refine List.forall_mem_cons.mpr ⟨vk_R.of (A := args) (hr (i := 1646) (w := .stringRef "BellTownModel" 214 "and") (by decide +kernel)) (st_eq (nx_t h (i := 978) (w := .eq (Term.string "BellTown$LawText" 64) (Term.string "BellTownModel" 214)) (by decide +kernel)) (had 20 (by decide))), ?_⟩
  refine List.forall_mem_cons.mpr ⟨vk_R.of (A := args) (hr (i := 1647) (w := .stringRef "BellTownModel" 219 "or") (by decide +kernel)) (st_eq (nx_t h (i := 985) (w := .eq (Term.string "BellTown$LawText" 66) (Term.string "BellTownModel" 219)) (by decide +kernel)) (had 21 (by decide))), ?_⟩
  exact fun _ h => nomatch h
theorem st_nc {args : Array Value} {s : State} (h : (Jvm.Cond.and given_1 narrow_1).before args s = true) : ∀ i j, i < 4 → j < 4 → i ≠ j → va_Nc (am_ex i) (am_ex j) s := by
  intro i j hi hj hn
  match i, j, hi, hj with
  | 0, 0, _, _ => exact absurd rfl hn
  | 0, 1, _, _ => exact va_Nc.of (nx_t h (i := 25) (w := .not (.castable "java/lang/IndexOutOfBoundsException" "java/lang/IllegalArgumentException")) (by decide +kernel))
  | 0, 2, _, _ => exact va_Nc.of (nx_t h (i := 41) (w := .not (.castable "java/lang/IndexOutOfBoundsException" "java/lang/UnsupportedOperationException")) (by decide +kernel))
  | 0, 3, _, _ => exact va_Nc.of (nx_t h (i := 74) (w := .not (.castable "java/lang/IndexOutOfBoundsException" "java/util/NoSuchElementException")) (by decide +kernel))
  | 1, 0, _, _ => exact va_Nc.of (nx_t h (i := 56) (w := .not (.castable "java/lang/IllegalArgumentException" "java/lang/IndexOutOfBoundsException")) (by decide +kernel))
  | 1, 1, _, _ => exact absurd rfl hn
  | 1, 2, _, _ => exact va_Nc.of (nx_t h (i := 40) (w := .not (.castable "java/lang/IllegalArgumentException" "java/lang/UnsupportedOperationException")) (by decide +kernel))
  | 1, 3, _, _ => exact va_Nc.of (nx_t h (i := 72) (w := .not (.castable "java/lang/IllegalArgumentException" "java/util/NoSuchElementException")) (by decide +kernel))
  | 2, 0, _, _ => exact va_Nc.of (nx_t h (i := 57) (w := .not (.castable "java/lang/UnsupportedOperationException" "java/lang/IndexOutOfBoundsException")) (by decide +kernel))
  | 2, 1, _, _ => exact va_Nc.of (nx_t h (i := 24) (w := .not (.castable "java/lang/UnsupportedOperationException" "java/lang/IllegalArgumentException")) (by decide +kernel))
  | 2, 2, _, _ => exact absurd rfl hn
  | 2, 3, _, _ => exact va_Nc.of (nx_t h (i := 73) (w := .not (.castable "java/lang/UnsupportedOperationException" "java/util/NoSuchElementException")) (by decide +kernel))
  | 3, 0, _, _ => exact va_Nc.of (nx_t h (i := 58) (w := .not (.castable "java/util/NoSuchElementException" "java/lang/IndexOutOfBoundsException")) (by decide +kernel))
  | 3, 1, _, _ => exact va_Nc.of (nx_t h (i := 26) (w := .not (.castable "java/util/NoSuchElementException" "java/lang/IllegalArgumentException")) (by decide +kernel))
  | 3, 2, _, _ => exact va_Nc.of (nx_t h (i := 42) (w := .not (.castable "java/util/NoSuchElementException" "java/lang/UnsupportedOperationException")) (by decide +kernel))
  | 3, 3, _, _ => exact absurd rfl hn
  | i + 4, _, hi, _ => exact absurd hi (by omega)
  | _, j + 4, _, hj => exact absurd hj (by omega)
theorem st_small : ∀ q ∈ am_sts, q.2.2.2 < 1000 := by decide +kernel
/-- other texts lie elsewhere -/
theorem st_ne : ∀ i, i < am_nS → ∀ j, j < am_nS → i ≠ j → am_lens.getD i 0 ≠ am_lens.getD j 0 ∨ ∃ k, k < am_lens.getD i 0 ∧ (am_byts.getD i []).getD k 0 ≠ (am_byts.getD j []).getD k 0 := by decide +kernel
theorem st_S {A : Nat → Prop} {args : Array Value} {s : State} {ad av : Nat → Nat} (h : ∀ k, st_tx A args s k (ad k) (av k)) : vk_S am_nS am_lens am_byts ad av A s s.heap := by
  refine ⟨fun i hi => (h i).2 hi, fun i j hi hj e => ?_⟩
  by_cases hn : i = j
  · exact hn
  · exfalso
    obtain ⟨-, -, ⟨cf, k, fi, f, cell, a1, a2, a3, a4, a5, a6⟩, hT⟩ := (h i).2 hi
    obtain ⟨-, -, ⟨cf', k', fi', f', cell', b1, b2, b3, b4, b5, b6⟩, hT'⟩ := (h j).2 hj
    rw [← e] at b3
    cases Option.some.inj (a3.symm.trans b3)
    have e1 := a1.symm.trans b1
    cases e1
    have e2 := Option.some.inj (a5.symm.trans b5)
    have e3 : av i = av j := by injection e2
    obtain ⟨c1, t1, t2, t3, t4, t5, t6, t7⟩ := hT
    obtain ⟨c2, u1, u2, u3, u4, u5, u6, u7⟩ := hT'
    rw [← e3] at u1
    cases Option.some.inj (t1.symm.trans u1)
    have hlen : am_lens.getD i 0 = am_lens.getD j 0 := by
      have q := t5.symm.trans u5
      have l1 := am_len_lt i hi
      have l2 := am_len_lt j hj
      rw [← Int32.toInt_inj, Int32.toInt_ofNat_of_lt (by omega), Int32.toInt_ofNat_of_lt (by omega)] at q
      omega
    rcases st_ne i hi j hj hn with q | ⟨k, hk, q⟩
    · exact q hlen
    · have g1 := t6 k hk
      have g2 := u6 k (by rw [← hlen]; exact hk)
      have g3 := Option.some.inj (g1.symm.trans g2)
      injection g3 with g3
      exact q g3
/-- the start -/
theorem st_I {p : Program} {s : State} {m : MethodId} {meth : Method} {c : Code} {b L : Nat} {xs : Nat → Int32} (C0 : lw_At p s m meth c b L xs) : ∃ E : am_E, E.2.2.2.1 = s.heap.size ∧ (∀ o, o < am_N → E.1 o = E.2.2.2.1 + o) ∧ E.1 900 = b ∧ E.2.2.2.2.2.1 = L ∧ E.2.2.2.2.2.2 = xs ∧ am_I E s := by
  obtain ⟨-, -, -, -, -, hts, hX, hb, -, hgv⟩ := C0
  have hg := st_G hts
  obtain ⟨D, hD⟩ := st_K hg
  obtain ⟨cI, aI, nI⟩ := st_A (hg _ (am_G_t (i := 76) (w := .arrayClass .int) (by decide +kernel) rfl))
  obtain ⟨cB, aB, nB⟩ := st_A (hg _ (am_G_t (i := 75) (w := .arrayClass .byte) (by decide +kernel) rfl))
  obtain ⟨cS, aS, nS⟩ := st_A (hg _ (am_G_t (i := 77) (w := .arrayClass .short) (by decide +kernel) rfl))
  obtain ⟨cJ, aJ, nJ⟩ := st_A (hg _ (am_G_t (i := 1946) (w := .arrayClass .long) (by decide +kernel) rfl))
  have hA : ∀ a : Nat, a < s.heap.size → ¬ (fun q => s.heap.size ≤ q) a := fun a h1 h2 => absurd h1 (Nat.not_lt.mpr h2)
  have htx := st_one hgv hA
  have hf : ∃ t : Nat, ∃ v : Value, (v = .null ∨ v = .ref t) ∧ va_Z "jdk/internal/util/Preconditions" "SIOOBE_FORMATTER" "Ljava/util/function/BiFunction;" v (fun q => s.heap.size ≤ q) s s.heap := by
    have hz := va_Zqof (A := fun q => s.heap.size ≤ q) (hts (.laysStatic "jdk/internal/util/Preconditions" "SIOOBE_FORMATTER" "Ljava/util/function/BiFunction;") (List.mem_append_right _ (List.mem_of_getElem? (i := 599) (by decide +kernel)))) (hg _ (am_G_t (i := 18) (w := .initialized "jdk/internal/util/Preconditions") (by decide +kernel) rfl)) (nx_t hgv (i := 5) (by decide +kernel)) hA
    rcases hz with h | ⟨t, h⟩
    · exact ⟨0, .null, Or.inl rfl, h⟩
    · exact ⟨t, .ref t, Or.inr rfl, h⟩
  obtain ⟨ft, fv, hfv, hfz⟩ := hf
  let ad : Nat → Nat := fun k => (Classical.choose (htx k)).1
  let av : Nat → Nat := fun k => (Classical.choose (htx k)).2
  have had : ∀ k, st_tx (fun q => s.heap.size ≤ q) #[Value.ref b] s k (ad k) (av k) := fun k => Classical.choose_spec (htx k)
  let E1 : Nat → Nat := fun o => if o < 123 then s.heap.size + o else if o = 900 then b else if o = 950 then ft else if o < 2000 then ad (o - 1000) else av (o - 2000)
  let E : am_E := (E1, D, (fun t => if t = 2 then cB else if t = 3 then cS else if t = 4 then cJ else cI), s.heap.size, (fun _ => 0), L, xs)
  have hE : ∀ o, o < am_N → E.1 o = E.2.2.2.1 + o := fun o ho => by
    show (if o < 123 then s.heap.size + o else _) = _
    rw [if_pos (show o < 123 from ho)]
  have h9 : E.1 900 = b := rfl
  have hk1 : (fun k => E.1 (1000 + k)) = fun k => if k < 1000 then ad k else E.1 (1000 + k) := by
    funext k
    by_cases q : k < 1000
    · rw [if_pos q]
      show (if 1000 + k < 123 then _ else if 1000 + k = 900 then _ else if 1000 + k = 950 then _ else if 1000 + k < 2000 then ad (1000 + k - 1000) else _) = _
      rw [if_neg (by omega), if_neg (by omega), if_neg (by omega), if_pos (by omega), Nat.add_sub_cancel_left]
    · rw [if_neg q]
  have ha1 : ∀ k, k < 1000 → E.1 (1000 + k) = ad k := fun k hk => by
    exact (congrFun hk1 k).trans (if_pos hk)
  have ha2 : ∀ k, E.1 (2000 + k) = av k := fun k => by
    show (if 2000 + k < 123 then _ else if 2000 + k = 900 then _ else if 2000 + k = 950 then _ else if 2000 + k < 2000 then _ else av (2000 + k - 2000)) = _
    rw [if_neg (by omega), if_neg (by omega), if_neg (by omega), if_neg (by omega), Nat.add_sub_cancel_left]
  refine ⟨E, rfl, hE, h9, rfl, rfl, ?_⟩
  refine ⟨⟨hD, fun k q hq => ?_⟩, ⟨fun i j hi hj e => ?_, fun i hi => ?_⟩, fun w hw => ?_, fun q hq => ?_, st_nc hgv, ?_⟩
  · match k, hq with
    | 0, hq => cases hq; exact ⟨aI, nI⟩
    | 1, hq => cases hq; exact ⟨aI, nI⟩
    | 2, hq => cases hq; exact ⟨aB, nB⟩
    | 3, hq => cases hq; exact ⟨aS, nS⟩
    | 4, hq => cases hq; exact ⟨aJ, nJ⟩
    | k + 5, hq => rw [List.getElem?_eq_none (by show 5 ≤ k + 5; omega)] at hq; cases hq
  · rw [hE i hi, hE j hj] at e
    omega
  · rw [hE i hi]; exact Nat.le_add_right _ _
  · exact va_Nw.of (am_nw_on (List.mem_filter.mp hw).2) (hts w (List.mem_append_right _ (List.mem_filter.mp hw).1))
  · have h := st_sts hts hgv (ad := ad) (fun k hk => (had k).1 hk) q hq
    rw [ha1 _ (st_small q hq)]
    exact h
  · refine ⟨?_, ?_, ?_, Nat.le_refl _, ?_, ?_, ?_, fv, hfv, hfz⟩
    · have h := st_S (A := fun q => s.heap.size ≤ q) had
      refine ⟨fun i hi => ?_, fun i j hi hj e => ?_⟩
      · have := h.1 i hi
        dsimp only
        rw [ha1 i (by have : am_nS = 22 := rfl; omega), ha2 i]
        exact this
      · dsimp only at e
        rw [ha1 i (by have : am_nS = 22 := rfl; omega), ha1 j (by have : am_nS = 22 := rfl; omega)] at e
        exact h.2 i j hi hj e
    · exact hX
    · show E.1 900 < s.heap.size
      rw [h9]; exact hb
    · exact vx_Zqof (hts (.laysStatic Bundle.tN "UNASSIGNED_STACK" Bundle.steD) (by decide +kernel)) (hts (.initialized Bundle.tN) (by decide +kernel)) (nx_t hgv (i := 9) (by decide +kernel)) hA
    · exact vx_Zqof (hts (.laysStatic Bundle.tN "SUPPRESSED_SENTINEL" Bundle.listD) (by decide +kernel)) (hts (.initialized Bundle.tN) (by decide +kernel)) (nx_t hgv (i := 10) (by decide +kernel)) hA
    · exact va_Zof (hts (.laysStatic "java/lang/String" "COMPACT_STRINGS" "Z") (by decide +kernel)) (hg _ in_J0) (va_eqt (nx_t hgv (i := 4) (by decide +kernel))) hA

