theorem am_lt {a b : Nat} (h : Nat.ble (a + 1) b = true) : a < b := Nat.le_of_ble_eq_true h
theorem am_le {a b : Nat} (h : Nat.ble a b = true) : a ≤ b := Nat.le_of_ble_eq_true h
/-! methods of a class with natives' rows (Math): by the method's own name -/
theorem am_ofWF {l : Launch} {y : MethodName} {ws ws' : List Cond} {rm : Room} {Pc : Array Value → State → Prop} {Qc : Array Value → State → Outcome → State → Prop} {XC : String → State → State → Prop} {mc ms : Nat} {free : Addr → Prop} {cc : ByteArray} {maxL : Nat} {ret : Option FieldType}
    (hy : plainFor y = true) (hw : ws = Cond.code y cc maxL ret :: ws')
    (body : ∀ p e s m args below meth c s₁, BodyLoose p l y (headSpec ws rm) cc maxL ret e s m args below meth c s₁ → c.maxLocals = maxL → (∀ x ∈ c.exceptionTable.toList, False) → Pc args s →
      W p l e (headSpec ws rm).room s m args below meth c s.heap [] 0 0 (vx_MQ below Qc XC args s mc ms free) (entryFrame m args maxL)) : vx_Met l y ws rm Pc Qc XC mc ms free := by
  refine MetFree.of_bodySF (code := cc) (maxLocals := maxL) (ret := ret) hy ?_ ?_
  · intro args s m h hn
    obtain ⟨meth, c, h1, h2, h3, h4, h5, h6, -, -⟩ := Cond.code_spec hn (atoms_spec (ws := ws) h _ (by rw [hw]; exact List.mem_cons_self))
    exact ⟨meth, c, h1, h2, h3, h4, h5, h6⟩
  · intro p e s m args below meth c s₁ B hml hP _
    have hh0 : s₁.heap = s.heap := by rw [B.state]; rfl
    have ht : ∀ x ∈ c.exceptionTable.toList, False := by
      obtain ⟨meth9, c9, h1, h2, -, -, -, -, h7, -⟩ := Cond.code_spec B.named (atoms_spec (ws := ws) B.pre _ (by rw [hw]; exact List.mem_cons_self))
      cases Option.some.inj (h1.symm.trans B.method)
      cases Option.some.inj (h2.symm.trans (Stand.of_body B).code)
      intro x hx
      rw [Array.isEmpty_iff.mp h7] at hx
      cases hx
    obtain ⟨t, a1, o, b1, b2, b3⟩ := body p e s m args below meth c s₁ B hml ht hP s₁ hh0 (Stand.of_body B)
    exact ⟨t, o, a1, b1, b2, b3⟩
theorem am_M_ofF {E : am_E} {l : Launch} {y : MethodName} {code : ByteArray} {nL : Nat} {ret : Option FieldType} {d mc ms : Nat} {as : List Value} {S : am_S} {β : Type} {w : β → am_R} {e : Option β} (hl : l.stackTraces = false) (hy : plainFor y = true) (hc : ∀ v ∈ as, v.category = 1) (hn : as.length ≤ nL)
    (h : am_Ev E l (y.cls, code, nL, ret, [], am_rm d mc ms) (fun b a s x => am_Z E mc ms b a s (w x)) 0 0 0 (am_L0 as nL) [] S e) : am_M E l y (.code y code nL ret) d mc ms as S (e.map w) := by
  intro r hr0
  obtain ⟨r0, hr, rfl⟩ := Option.map_eq_some_iff.mp hr0
  refine am_ofWF (cc := code) (maxL := nL) (ret := ret) hy rfl ?_
  intro p en s m args below meth c s₁ B hml ht hP
  obtain ⟨rfl, hI, hPic⟩ := hP
  have hts := atoms_spec (ws := Cond.code y code nL ret :: am_G) B.pre
  have hown : s.vm.findClass y.cls = some m.cls := findClass_of_methodNamed B.named
  have htab : c.exceptionTable.toList = [] := by
    cases hx : c.exceptionTable.toList with
    | nil => rfl
    | cons a b => exact absurd (by rw [hx]; exact List.mem_cons_self) (ht a)
  rw [lg_entry_eq]
  exact h r0 hr p en s m _ below meth c ⟨B.exec, B.bytes, hml, B.returns, B.notSynchronized, hown, fun w hw => hts w (List.mem_cons_of_mem _ hw), hl, hI, htab⟩ s.heap [] _ hPic va_S.rf (am_entry hc hn)
/-! no throw in it -/
theorem am_nt_bind {γ : Type} {x : Option γ} {f : γ → Option am_R} (h : ∀ y r, f y = some r → ∃ v, r.1 = .inl v) : ∀ r, x.bind f = some r → ∃ v, r.1 = .inl v := fun r hr => by
  obtain ⟨y, -, h9⟩ := Option.bind_eq_some_iff.mp hr
  exact h y r h9
theorem am_nt_some {v : Option Value} {S : am_S} : ∀ r, some ((.inl v, S) : am_R) = some r → ∃ v, r.1 = .inl v := fun r hr => by
  cases hr; exact ⟨_, rfl⟩
theorem am_nt_thV {g : Option am_R} {f : am_S → Option am_R} (hg : ∀ r, g = some r → ∃ v, r.1 = .inl v) (h : ∀ y r, f y = some r → ∃ v, r.1 = .inl v) : ∀ r, am_thV g f = some r → ∃ v, r.1 = .inl v := fun r hr => by
  obtain ⟨y, hy, h9⟩ := Option.bind_eq_some_iff.mp hr
  obtain ⟨v, hv⟩ := hg y hy
  rw [hv] at h9
  cases v with
  | none => exact h _ r h9
  | some v => cases h9
theorem ev_leaf {β γ : Type} {E : am_E} {l : Launch} {Y : am_Y} {Z : List Frame → Array Value → State → β → State → Prop} {cs sl pc : Nat} {L A : List (Option Value)} {st : List Value} {S : am_S} {t : γ} {F : γ → Option β} (h : am_W A L) (k : am_Ev E l Y Z cs sl pc A st S (F t)) : am_Ev E l Y Z cs sl pc L st S ((some t).bind F) := ev_weak h k
