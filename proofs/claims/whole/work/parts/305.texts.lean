/-! what the Statement gives of the texts -/
theorem nx_t {args : Array Value} {s : State} (h : (Jvm.Cond.and given_1 narrow_1).before args s = true) {i : Nat} {w : Cond} (hw : (flatC (Jvm.Cond.and given_1 narrow_1))[i]? = some w) : w.before args s = true := flat_of_before _ h _ (List.mem_of_getElem? hw)
theorem nx_1 {P : Nat → Prop} (h : P 0) : ∀ i, i < 1 → P i := fun i hi => by
  obtain rfl : i = 0 := by omega
  exact h
theorem sx_0 {args : Array Value} {s : State} (h : (Jvm.Cond.and given_1 narrow_1).before args s = true) {A : Nat → Prop} (hA : ∀ a : Nat, a < s.heap.size → ¬ A a) : ∃ a v : Nat, (va_O "java/lang/String" a A s s.heap ∧ va_OF "java/lang/String" "coder" "B" (.int 0) a A s s.heap ∧ va_OF "java/lang/String" "value" "[B" (.ref v) a A s s.heap ∧ va_T .byte v 1 (fun j => .int (([59] : List Int32).getD j 0)) A s s.heap) ∧ (Term.string "BellTown$Reader" 44).eval args s none [] s = some (.ref a) := by
  obtain ⟨adK, adV, hS, hT⟩ := vk_Sof (args := args) (s := s) (N := 1) (tm := fun _ => Term.string "BellTown$Reader" 44) (len := [1]) (byt := [[59]]) (A := A) (nx_1 (by decide)) (nx_1 (nx_t h (i := 75) (by decide +kernel))) (nx_1 (nx_t h (i := 76) (by decide +kernel))) (nx_1 (nx_t h (i := 77) (by decide +kernel))) (nx_1 (nx_t h (i := 78) (by decide +kernel))) (nx_1 (fun j hj => by
    have hj : j < 1 := hj
    match j, hj with
    | 0, _ => exact (nx_t h (i := 79) (by decide +kernel))
    | j + 1, hj => exact absurd hj (by omega))) (fun i j hi hj hn => absurd (by omega : i = j) hn) hA
  exact ⟨adK 0, adV 0, hS.1 0 (by decide), hT 0 (by decide)⟩
theorem sx_1 {args : Array Value} {s : State} (h : (Jvm.Cond.and given_1 narrow_1).before args s = true) {A : Nat → Prop} (hA : ∀ a : Nat, a < s.heap.size → ¬ A a) : ∃ a v : Nat, (va_O "java/lang/String" a A s s.heap ∧ va_OF "java/lang/String" "coder" "B" (.int 0) a A s s.heap ∧ va_OF "java/lang/String" "value" "[B" (.ref v) a A s s.heap ∧ va_T .byte v 5 (fun j => .int (([104, 111, 117, 115, 101] : List Int32).getD j 0)) A s s.heap) ∧ (Term.string "BellTown$TownText" 34).eval args s none [] s = some (.ref a) := by
  obtain ⟨adK, adV, hS, hT⟩ := vk_Sof (args := args) (s := s) (N := 1) (tm := fun _ => Term.string "BellTown$TownText" 34) (len := [5]) (byt := [[104, 111, 117, 115, 101]]) (A := A) (nx_1 (by decide)) (nx_1 (nx_t h (i := 80) (by decide +kernel))) (nx_1 (nx_t h (i := 81) (by decide +kernel))) (nx_1 (nx_t h (i := 82) (by decide +kernel))) (nx_1 (nx_t h (i := 83) (by decide +kernel))) (nx_1 (fun j hj => by
    have hj : j < 5 := hj
    match j, hj with
    | 0, _ => exact (nx_t h (i := 84) (by decide +kernel))
    | 1, _ => exact (nx_t h (i := 85) (by decide +kernel))
    | 2, _ => exact (nx_t h (i := 86) (by decide +kernel))
    | 3, _ => exact (nx_t h (i := 87) (by decide +kernel))
    | 4, _ => exact (nx_t h (i := 88) (by decide +kernel))
    | j + 5, hj => exact absurd hj (by omega))) (fun i j hi hj hn => absurd (by omega : i = j) hn) hA
  exact ⟨adK 0, adV 0, hS.1 0 (by decide), hT 0 (by decide)⟩
theorem sx_2 {args : Array Value} {s : State} (h : (Jvm.Cond.and given_1 narrow_1).before args s = true) {A : Nat → Prop} (hA : ∀ a : Nat, a < s.heap.size → ¬ A a) : ∃ a v : Nat, (va_O "java/lang/String" a A s s.heap ∧ va_OF "java/lang/String" "coder" "B" (.int 0) a A s s.heap ∧ va_OF "java/lang/String" "value" "[B" (.ref v) a A s s.heap ∧ va_T .byte v 4 (fun j => .int (([100, 101, 97, 102] : List Int32).getD j 0)) A s s.heap) ∧ (Term.string "BellTown$TownText" 98).eval args s none [] s = some (.ref a) := by
  obtain ⟨adK, adV, hS, hT⟩ := vk_Sof (args := args) (s := s) (N := 1) (tm := fun _ => Term.string "BellTown$TownText" 98) (len := [4]) (byt := [[100, 101, 97, 102]]) (A := A) (nx_1 (by decide)) (nx_1 (nx_t h (i := 89) (by decide +kernel))) (nx_1 (nx_t h (i := 90) (by decide +kernel))) (nx_1 (nx_t h (i := 91) (by decide +kernel))) (nx_1 (nx_t h (i := 92) (by decide +kernel))) (nx_1 (fun j hj => by
    have hj : j < 4 := hj
    match j, hj with
    | 0, _ => exact (nx_t h (i := 93) (by decide +kernel))
    | 1, _ => exact (nx_t h (i := 94) (by decide +kernel))
    | 2, _ => exact (nx_t h (i := 95) (by decide +kernel))
    | 3, _ => exact (nx_t h (i := 96) (by decide +kernel))
    | j + 4, hj => exact absurd hj (by omega))) (fun i j hi hj hn => absurd (by omega : i = j) hn) hA
  exact ⟨adK 0, adV 0, hS.1 0 (by decide), hT 0 (by decide)⟩
theorem sx_3 {args : Array Value} {s : State} (h : (Jvm.Cond.and given_1 narrow_1).before args s = true) {A : Nat → Prop} (hA : ∀ a : Nat, a < s.heap.size → ¬ A a) : ∃ a v : Nat, (va_O "java/lang/String" a A s s.heap ∧ va_OF "java/lang/String" "coder" "B" (.int 0) a A s s.heap ∧ va_OF "java/lang/String" "value" "[B" (.ref v) a A s s.heap ∧ va_T .byte v 4 (fun j => .int (([119, 97, 110, 116] : List Int32).getD j 0)) A s s.heap) ∧ (Term.string "BellTown$TownText" 43).eval args s none [] s = some (.ref a) := by
  obtain ⟨adK, adV, hS, hT⟩ := vk_Sof (args := args) (s := s) (N := 1) (tm := fun _ => Term.string "BellTown$TownText" 43) (len := [4]) (byt := [[119, 97, 110, 116]]) (A := A) (nx_1 (by decide)) (nx_1 (nx_t h (i := 97) (by decide +kernel))) (nx_1 (nx_t h (i := 98) (by decide +kernel))) (nx_1 (nx_t h (i := 99) (by decide +kernel))) (nx_1 (nx_t h (i := 100) (by decide +kernel))) (nx_1 (fun j hj => by
    have hj : j < 4 := hj
    match j, hj with
    | 0, _ => exact (nx_t h (i := 101) (by decide +kernel))
    | 1, _ => exact (nx_t h (i := 102) (by decide +kernel))
    | 2, _ => exact (nx_t h (i := 103) (by decide +kernel))
    | 3, _ => exact (nx_t h (i := 104) (by decide +kernel))
    | j + 4, hj => exact absurd hj (by omega))) (fun i j hi hj hn => absurd (by omega : i = j) hn) hA
  exact ⟨adK 0, adV 0, hS.1 0 (by decide), hT 0 (by decide)⟩
theorem sx_4 {args : Array Value} {s : State} (h : (Jvm.Cond.and given_1 narrow_1).before args s = true) {A : Nat → Prop} (hA : ∀ a : Nat, a < s.heap.size → ¬ A a) : ∃ a v : Nat, (va_O "java/lang/String" a A s s.heap ∧ va_OF "java/lang/String" "coder" "B" (.int 0) a A s s.heap ∧ va_OF "java/lang/String" "value" "[B" (.ref v) a A s s.heap ∧ va_T .byte v 4 (fun j => .int (([99, 111, 100, 101] : List Int32).getD j 0)) A s s.heap) ∧ (Term.string "BellTown$TownText" 48).eval args s none [] s = some (.ref a) := by
  obtain ⟨adK, adV, hS, hT⟩ := vk_Sof (args := args) (s := s) (N := 1) (tm := fun _ => Term.string "BellTown$TownText" 48) (len := [4]) (byt := [[99, 111, 100, 101]]) (A := A) (nx_1 (by decide)) (nx_1 (nx_t h (i := 105) (by decide +kernel))) (nx_1 (nx_t h (i := 106) (by decide +kernel))) (nx_1 (nx_t h (i := 107) (by decide +kernel))) (nx_1 (nx_t h (i := 108) (by decide +kernel))) (nx_1 (fun j hj => by
    have hj : j < 4 := hj
    match j, hj with
    | 0, _ => exact (nx_t h (i := 109) (by decide +kernel))
    | 1, _ => exact (nx_t h (i := 110) (by decide +kernel))
    | 2, _ => exact (nx_t h (i := 111) (by decide +kernel))
    | 3, _ => exact (nx_t h (i := 112) (by decide +kernel))
    | j + 4, hj => exact absurd hj (by omega))) (fun i j hi hj hn => absurd (by omega : i = j) hn) hA
  exact ⟨adK 0, adV 0, hS.1 0 (by decide), hT 0 (by decide)⟩
theorem sx_5 {args : Array Value} {s : State} (h : (Jvm.Cond.and given_1 narrow_1).before args s = true) {A : Nat → Prop} (hA : ∀ a : Nat, a < s.heap.size → ¬ A a) : ∃ a v : Nat, (va_O "java/lang/String" a A s s.heap ∧ va_OF "java/lang/String" "coder" "B" (.int 0) a A s s.heap ∧ va_OF "java/lang/String" "value" "[B" (.ref v) a A s s.heap ∧ va_T .byte v 4 (fun j => .int (([110, 111, 110, 101] : List Int32).getD j 0)) A s s.heap) ∧ (Term.string "BellTown$TownText" 57).eval args s none [] s = some (.ref a) := by
  obtain ⟨adK, adV, hS, hT⟩ := vk_Sof (args := args) (s := s) (N := 1) (tm := fun _ => Term.string "BellTown$TownText" 57) (len := [4]) (byt := [[110, 111, 110, 101]]) (A := A) (nx_1 (by decide)) (nx_1 (nx_t h (i := 113) (by decide +kernel))) (nx_1 (nx_t h (i := 114) (by decide +kernel))) (nx_1 (nx_t h (i := 115) (by decide +kernel))) (nx_1 (nx_t h (i := 116) (by decide +kernel))) (nx_1 (fun j hj => by
    have hj : j < 4 := hj
    match j, hj with
    | 0, _ => exact (nx_t h (i := 117) (by decide +kernel))
    | 1, _ => exact (nx_t h (i := 118) (by decide +kernel))
    | 2, _ => exact (nx_t h (i := 119) (by decide +kernel))
    | 3, _ => exact (nx_t h (i := 120) (by decide +kernel))
    | j + 4, hj => exact absurd hj (by omega))) (fun i j hi hj hn => absurd (by omega : i = j) hn) hA
  exact ⟨adK 0, adV 0, hS.1 0 (by decide), hT 0 (by decide)⟩
theorem sx_6 {args : Array Value} {s : State} (h : (Jvm.Cond.and given_1 narrow_1).before args s = true) {A : Nat → Prop} (hA : ∀ a : Nat, a < s.heap.size → ¬ A a) : ∃ a v : Nat, (va_O "java/lang/String" a A s s.heap ∧ va_OF "java/lang/String" "coder" "B" (.int 0) a A s s.heap ∧ va_OF "java/lang/String" "value" "[B" (.ref v) a A s s.heap ∧ va_T .byte v 4 (fun j => .int (([119, 105, 110, 100] : List Int32).getD j 0)) A s s.heap) ∧ (Term.string "BellTown$TownText" 59).eval args s none [] s = some (.ref a) := by
  obtain ⟨adK, adV, hS, hT⟩ := vk_Sof (args := args) (s := s) (N := 1) (tm := fun _ => Term.string "BellTown$TownText" 59) (len := [4]) (byt := [[119, 105, 110, 100]]) (A := A) (nx_1 (by decide)) (nx_1 (nx_t h (i := 121) (by decide +kernel))) (nx_1 (nx_t h (i := 122) (by decide +kernel))) (nx_1 (nx_t h (i := 123) (by decide +kernel))) (nx_1 (nx_t h (i := 124) (by decide +kernel))) (nx_1 (fun j hj => by
    have hj : j < 4 := hj
    match j, hj with
    | 0, _ => exact (nx_t h (i := 125) (by decide +kernel))
    | 1, _ => exact (nx_t h (i := 126) (by decide +kernel))
    | 2, _ => exact (nx_t h (i := 127) (by decide +kernel))
    | 3, _ => exact (nx_t h (i := 128) (by decide +kernel))
    | j + 4, hj => exact absurd hj (by omega))) (fun i j hi hj hn => absurd (by omega : i = j) hn) hA
  exact ⟨adK 0, adV 0, hS.1 0 (by decide), hT 0 (by decide)⟩
theorem sx_7 {args : Array Value} {s : State} (h : (Jvm.Cond.and given_1 narrow_1).before args s = true) {A : Nat → Prop} (hA : ∀ a : Nat, a < s.heap.size → ¬ A a) : ∃ a v : Nat, (va_O "java/lang/String" a A s s.heap ∧ va_OF "java/lang/String" "coder" "B" (.int 0) a A s s.heap ∧ va_OF "java/lang/String" "value" "[B" (.ref v) a A s s.heap ∧ va_T .byte v 4 (fun j => .int (([103, 97, 108, 101] : List Int32).getD j 0)) A s s.heap) ∧ (Term.string "BellTown$TownText" 65).eval args s none [] s = some (.ref a) := by
  obtain ⟨adK, adV, hS, hT⟩ := vk_Sof (args := args) (s := s) (N := 1) (tm := fun _ => Term.string "BellTown$TownText" 65) (len := [4]) (byt := [[103, 97, 108, 101]]) (A := A) (nx_1 (by decide)) (nx_1 (nx_t h (i := 129) (by decide +kernel))) (nx_1 (nx_t h (i := 130) (by decide +kernel))) (nx_1 (nx_t h (i := 131) (by decide +kernel))) (nx_1 (nx_t h (i := 132) (by decide +kernel))) (nx_1 (fun j hj => by
    have hj : j < 4 := hj
    match j, hj with
    | 0, _ => exact (nx_t h (i := 133) (by decide +kernel))
    | 1, _ => exact (nx_t h (i := 134) (by decide +kernel))
    | 2, _ => exact (nx_t h (i := 135) (by decide +kernel))
    | 3, _ => exact (nx_t h (i := 136) (by decide +kernel))
    | j + 4, hj => exact absurd hj (by omega))) (fun i j hi hj hn => absurd (by omega : i = j) hn) hA
  exact ⟨adK 0, adV 0, hS.1 0 (by decide), hT 0 (by decide)⟩
theorem sx_8 {args : Array Value} {s : State} (h : (Jvm.Cond.and given_1 narrow_1).before args s = true) {A : Nat → Prop} (hA : ∀ a : Nat, a < s.heap.size → ¬ A a) : ∃ a v : Nat, (va_O "java/lang/String" a A s s.heap ∧ va_OF "java/lang/String" "coder" "B" (.int 0) a A s s.heap ∧ va_OF "java/lang/String" "value" "[B" (.ref v) a A s s.heap ∧ va_T .byte v 5 (fun j => .int (([102, 105, 114, 115, 116] : List Int32).getD j 0)) A s s.heap) ∧ (Term.string "BellTown$LawText" 31).eval args s none [] s = some (.ref a) := by
  obtain ⟨adK, adV, hS, hT⟩ := vk_Sof (args := args) (s := s) (N := 1) (tm := fun _ => Term.string "BellTown$LawText" 31) (len := [5]) (byt := [[102, 105, 114, 115, 116]]) (A := A) (nx_1 (by decide)) (nx_1 (nx_t h (i := 180) (by decide +kernel))) (nx_1 (nx_t h (i := 181) (by decide +kernel))) (nx_1 (nx_t h (i := 182) (by decide +kernel))) (nx_1 (nx_t h (i := 183) (by decide +kernel))) (nx_1 (fun j hj => by
    have hj : j < 5 := hj
    match j, hj with
    | 0, _ => exact (nx_t h (i := 184) (by decide +kernel))
    | 1, _ => exact (nx_t h (i := 185) (by decide +kernel))
    | 2, _ => exact (nx_t h (i := 186) (by decide +kernel))
    | 3, _ => exact (nx_t h (i := 187) (by decide +kernel))
    | 4, _ => exact (nx_t h (i := 188) (by decide +kernel))
    | j + 5, hj => exact absurd hj (by omega))) (fun i j hi hj hn => absurd (by omega : i = j) hn) hA
  exact ⟨adK 0, adV 0, hS.1 0 (by decide), hT 0 (by decide)⟩
theorem sx_9 {args : Array Value} {s : State} (h : (Jvm.Cond.and given_1 narrow_1).before args s = true) {A : Nat → Prop} (hA : ∀ a : Nat, a < s.heap.size → ¬ A a) : ∃ a v : Nat, (va_O "java/lang/String" a A s s.heap ∧ va_OF "java/lang/String" "coder" "B" (.int 0) a A s s.heap ∧ va_OF "java/lang/String" "value" "[B" (.ref v) a A s s.heap ∧ va_T .byte v 2 (fun j => .int (([105, 102] : List Int32).getD j 0)) A s s.heap) ∧ (Term.string "BellTown$LawText" 44).eval args s none [] s = some (.ref a) := by
  obtain ⟨adK, adV, hS, hT⟩ := vk_Sof (args := args) (s := s) (N := 1) (tm := fun _ => Term.string "BellTown$LawText" 44) (len := [2]) (byt := [[105, 102]]) (A := A) (nx_1 (by decide)) (nx_1 (nx_t h (i := 189) (by decide +kernel))) (nx_1 (nx_t h (i := 190) (by decide +kernel))) (nx_1 (nx_t h (i := 191) (by decide +kernel))) (nx_1 (nx_t h (i := 192) (by decide +kernel))) (nx_1 (fun j hj => by
    have hj : j < 2 := hj
    match j, hj with
    | 0, _ => exact (nx_t h (i := 193) (by decide +kernel))
    | 1, _ => exact (nx_t h (i := 194) (by decide +kernel))
    | j + 2, hj => exact absurd hj (by omega))) (fun i j hi hj hn => absurd (by omega : i = j) hn) hA
  exact ⟨adK 0, adV 0, hS.1 0 (by decide), hT 0 (by decide)⟩
theorem sx_10 {args : Array Value} {s : State} (h : (Jvm.Cond.and given_1 narrow_1).before args s = true) {A : Nat → Prop} (hA : ∀ a : Nat, a < s.heap.size → ¬ A a) : ∃ a v : Nat, (va_O "java/lang/String" a A s s.heap ∧ va_OF "java/lang/String" "coder" "B" (.int 0) a A s s.heap ∧ va_OF "java/lang/String" "value" "[B" (.ref v) a A s s.heap ∧ va_T .byte v 3 (fun j => .int (([110, 111, 116] : List Int32).getD j 0)) A s s.heap) ∧ (Term.string "BellTown$LawText" 68).eval args s none [] s = some (.ref a) := by
  obtain ⟨adK, adV, hS, hT⟩ := vk_Sof (args := args) (s := s) (N := 1) (tm := fun _ => Term.string "BellTown$LawText" 68) (len := [3]) (byt := [[110, 111, 116]]) (A := A) (nx_1 (by decide)) (nx_1 (nx_t h (i := 195) (by decide +kernel))) (nx_1 (nx_t h (i := 196) (by decide +kernel))) (nx_1 (nx_t h (i := 197) (by decide +kernel))) (nx_1 (nx_t h (i := 198) (by decide +kernel))) (nx_1 (fun j hj => by
    have hj : j < 3 := hj
    match j, hj with
    | 0, _ => exact (nx_t h (i := 199) (by decide +kernel))
    | 1, _ => exact (nx_t h (i := 200) (by decide +kernel))
    | 2, _ => exact (nx_t h (i := 201) (by decide +kernel))
    | j + 3, hj => exact absurd hj (by omega))) (fun i j hi hj hn => absurd (by omega : i = j) hn) hA
  exact ⟨adK 0, adV 0, hS.1 0 (by decide), hT 0 (by decide)⟩
theorem sx_11 {args : Array Value} {s : State} (h : (Jvm.Cond.and given_1 narrow_1).before args s = true) {A : Nat → Prop} (hA : ∀ a : Nat, a < s.heap.size → ¬ A a) : ∃ a v : Nat, (va_O "java/lang/String" a A s s.heap ∧ va_OF "java/lang/String" "coder" "B" (.int 0) a A s s.heap ∧ va_OF "java/lang/String" "value" "[B" (.ref v) a A s s.heap ∧ va_T .byte v 1 (fun j => .int (([40] : List Int32).getD j 0)) A s s.heap) ∧ (Term.string "BellTown$LawText" 73).eval args s none [] s = some (.ref a) := by
  obtain ⟨adK, adV, hS, hT⟩ := vk_Sof (args := args) (s := s) (N := 1) (tm := fun _ => Term.string "BellTown$LawText" 73) (len := [1]) (byt := [[40]]) (A := A) (nx_1 (by decide)) (nx_1 (nx_t h (i := 202) (by decide +kernel))) (nx_1 (nx_t h (i := 203) (by decide +kernel))) (nx_1 (nx_t h (i := 204) (by decide +kernel))) (nx_1 (nx_t h (i := 205) (by decide +kernel))) (nx_1 (fun j hj => by
    have hj : j < 1 := hj
    match j, hj with
    | 0, _ => exact (nx_t h (i := 206) (by decide +kernel))
    | j + 1, hj => exact absurd hj (by omega))) (fun i j hi hj hn => absurd (by omega : i = j) hn) hA
  exact ⟨adK 0, adV 0, hS.1 0 (by decide), hT 0 (by decide)⟩
theorem sx_12 {args : Array Value} {s : State} (h : (Jvm.Cond.and given_1 narrow_1).before args s = true) {A : Nat → Prop} (hA : ∀ a : Nat, a < s.heap.size → ¬ A a) : ∃ a v : Nat, (va_O "java/lang/String" a A s s.heap ∧ va_OF "java/lang/String" "coder" "B" (.int 0) a A s s.heap ∧ va_OF "java/lang/String" "value" "[B" (.ref v) a A s s.heap ∧ va_T .byte v 1 (fun j => .int (([41] : List Int32).getD j 0)) A s s.heap) ∧ (Term.string "BellTown$LawText" 78).eval args s none [] s = some (.ref a) := by
  obtain ⟨adK, adV, hS, hT⟩ := vk_Sof (args := args) (s := s) (N := 1) (tm := fun _ => Term.string "BellTown$LawText" 78) (len := [1]) (byt := [[41]]) (A := A) (nx_1 (by decide)) (nx_1 (nx_t h (i := 207) (by decide +kernel))) (nx_1 (nx_t h (i := 208) (by decide +kernel))) (nx_1 (nx_t h (i := 209) (by decide +kernel))) (nx_1 (nx_t h (i := 210) (by decide +kernel))) (nx_1 (fun j hj => by
    have hj : j < 1 := hj
    match j, hj with
    | 0, _ => exact (nx_t h (i := 211) (by decide +kernel))
    | j + 1, hj => exact absurd hj (by omega))) (fun i j hi hj hn => absurd (by omega : i = j) hn) hA
  exact ⟨adK 0, adV 0, hS.1 0 (by decide), hT 0 (by decide)⟩
theorem sx_13 {args : Array Value} {s : State} (h : (Jvm.Cond.and given_1 narrow_1).before args s = true) {A : Nat → Prop} (hA : ∀ a : Nat, a < s.heap.size → ¬ A a) : ∃ a v : Nat, (va_O "java/lang/String" a A s s.heap ∧ va_OF "java/lang/String" "coder" "B" (.int 0) a A s s.heap ∧ va_OF "java/lang/String" "value" "[B" (.ref v) a A s s.heap ∧ va_T .byte v 5 (fun j => .int (([99, 111, 105, 110, 115] : List Int32).getD j 0)) A s s.heap) ∧ (Term.string "BellTown$LawText" 100).eval args s none [] s = some (.ref a) := by
  obtain ⟨adK, adV, hS, hT⟩ := vk_Sof (args := args) (s := s) (N := 1) (tm := fun _ => Term.string "BellTown$LawText" 100) (len := [5]) (byt := [[99, 111, 105, 110, 115]]) (A := A) (nx_1 (by decide)) (nx_1 (nx_t h (i := 222) (by decide +kernel))) (nx_1 (nx_t h (i := 223) (by decide +kernel))) (nx_1 (nx_t h (i := 224) (by decide +kernel))) (nx_1 (nx_t h (i := 225) (by decide +kernel))) (nx_1 (fun j hj => by
    have hj : j < 5 := hj
    match j, hj with
    | 0, _ => exact (nx_t h (i := 226) (by decide +kernel))
    | 1, _ => exact (nx_t h (i := 227) (by decide +kernel))
    | 2, _ => exact (nx_t h (i := 228) (by decide +kernel))
    | 3, _ => exact (nx_t h (i := 229) (by decide +kernel))
    | 4, _ => exact (nx_t h (i := 230) (by decide +kernel))
    | j + 5, hj => exact absurd hj (by omega))) (fun i j hi hj hn => absurd (by omega : i = j) hn) hA
  exact ⟨adK 0, adV 0, hS.1 0 (by decide), hT 0 (by decide)⟩
theorem sx_14 {args : Array Value} {s : State} (h : (Jvm.Cond.and given_1 narrow_1).before args s = true) {A : Nat → Prop} (hA : ∀ a : Nat, a < s.heap.size → ¬ A a) : ∃ a v : Nat, (va_O "java/lang/String" a A s s.heap ∧ va_OF "java/lang/String" "coder" "B" (.int 0) a A s s.heap ∧ va_OF "java/lang/String" "value" "[B" (.ref v) a A s s.heap ∧ va_T .byte v 6 (fun j => .int (([117, 114, 103, 101, 110, 116] : List Int32).getD j 0)) A s s.heap) ∧ (Term.string "BellTown$LawText" 102).eval args s none [] s = some (.ref a) := by
  obtain ⟨adK, adV, hS, hT⟩ := vk_Sof (args := args) (s := s) (N := 1) (tm := fun _ => Term.string "BellTown$LawText" 102) (len := [6]) (byt := [[117, 114, 103, 101, 110, 116]]) (A := A) (nx_1 (by decide)) (nx_1 (nx_t h (i := 231) (by decide +kernel))) (nx_1 (nx_t h (i := 232) (by decide +kernel))) (nx_1 (nx_t h (i := 233) (by decide +kernel))) (nx_1 (nx_t h (i := 234) (by decide +kernel))) (nx_1 (fun j hj => by
    have hj : j < 6 := hj
    match j, hj with
    | 0, _ => exact (nx_t h (i := 235) (by decide +kernel))
    | 1, _ => exact (nx_t h (i := 236) (by decide +kernel))
    | 2, _ => exact (nx_t h (i := 237) (by decide +kernel))
    | 3, _ => exact (nx_t h (i := 238) (by decide +kernel))
    | 4, _ => exact (nx_t h (i := 239) (by decide +kernel))
    | 5, _ => exact (nx_t h (i := 240) (by decide +kernel))
    | j + 6, hj => exact absurd hj (by omega))) (fun i j hi hj hn => absurd (by omega : i = j) hn) hA
  exact ⟨adK 0, adV 0, hS.1 0 (by decide), hT 0 (by decide)⟩
theorem sx_15 {args : Array Value} {s : State} (h : (Jvm.Cond.and given_1 narrow_1).before args s = true) {A : Nat → Prop} (hA : ∀ a : Nat, a < s.heap.size → ¬ A a) : ∃ a v : Nat, (va_O "java/lang/String" a A s s.heap ∧ va_OF "java/lang/String" "coder" "B" (.int 0) a A s s.heap ∧ va_OF "java/lang/String" "value" "[B" (.ref v) a A s s.heap ∧ va_T .byte v 4 (fun j => .int (([99, 111, 115, 116] : List Int32).getD j 0)) A s s.heap) ∧ (Term.string "BellTown$LawText" 104).eval args s none [] s = some (.ref a) := by
  obtain ⟨adK, adV, hS, hT⟩ := vk_Sof (args := args) (s := s) (N := 1) (tm := fun _ => Term.string "BellTown$LawText" 104) (len := [4]) (byt := [[99, 111, 115, 116]]) (A := A) (nx_1 (by decide)) (nx_1 (nx_t h (i := 241) (by decide +kernel))) (nx_1 (nx_t h (i := 242) (by decide +kernel))) (nx_1 (nx_t h (i := 243) (by decide +kernel))) (nx_1 (nx_t h (i := 244) (by decide +kernel))) (nx_1 (fun j hj => by
    have hj : j < 4 := hj
    match j, hj with
    | 0, _ => exact (nx_t h (i := 245) (by decide +kernel))
    | 1, _ => exact (nx_t h (i := 246) (by decide +kernel))
    | 2, _ => exact (nx_t h (i := 247) (by decide +kernel))
    | 3, _ => exact (nx_t h (i := 248) (by decide +kernel))
    | j + 4, hj => exact absurd hj (by omega))) (fun i j hi hj hn => absurd (by omega : i = j) hn) hA
  exact ⟨adK 0, adV 0, hS.1 0 (by decide), hT 0 (by decide)⟩
theorem sx_16 {args : Array Value} {s : State} (h : (Jvm.Cond.and given_1 narrow_1).before args s = true) {A : Nat → Prop} (hA : ∀ a : Nat, a < s.heap.size → ¬ A a) : ∃ a v : Nat, (va_O "java/lang/String" a A s s.heap ∧ va_OF "java/lang/String" "coder" "B" (.int 0) a A s s.heap ∧ va_OF "java/lang/String" "value" "[B" (.ref v) a A s s.heap ∧ va_T .byte v 6 (fun j => .int (([119, 97, 105, 116, 101, 100] : List Int32).getD j 0)) A s s.heap) ∧ (Term.string "BellTown$LawText" 106).eval args s none [] s = some (.ref a) := by
  obtain ⟨adK, adV, hS, hT⟩ := vk_Sof (args := args) (s := s) (N := 1) (tm := fun _ => Term.string "BellTown$LawText" 106) (len := [6]) (byt := [[119, 97, 105, 116, 101, 100]]) (A := A) (nx_1 (by decide)) (nx_1 (nx_t h (i := 249) (by decide +kernel))) (nx_1 (nx_t h (i := 250) (by decide +kernel))) (nx_1 (nx_t h (i := 251) (by decide +kernel))) (nx_1 (nx_t h (i := 252) (by decide +kernel))) (nx_1 (fun j hj => by
    have hj : j < 6 := hj
    match j, hj with
    | 0, _ => exact (nx_t h (i := 253) (by decide +kernel))
    | 1, _ => exact (nx_t h (i := 254) (by decide +kernel))
    | 2, _ => exact (nx_t h (i := 255) (by decide +kernel))
    | 3, _ => exact (nx_t h (i := 256) (by decide +kernel))
    | 4, _ => exact (nx_t h (i := 257) (by decide +kernel))
    | 5, _ => exact (nx_t h (i := 258) (by decide +kernel))
    | j + 6, hj => exact absurd hj (by omega))) (fun i j hi hj hn => absurd (by omega : i = j) hn) hA
  exact ⟨adK 0, adV 0, hS.1 0 (by decide), hT 0 (by decide)⟩
theorem sx_17 {args : Array Value} {s : State} (h : (Jvm.Cond.and given_1 narrow_1).before args s = true) {A : Nat → Prop} (hA : ∀ a : Nat, a < s.heap.size → ¬ A a) : ∃ a v : Nat, (va_O "java/lang/String" a A s s.heap ∧ va_OF "java/lang/String" "coder" "B" (.int 0) a A s s.heap ∧ va_OF "java/lang/String" "value" "[B" (.ref v) a A s s.heap ∧ va_T .byte v 1 (fun j => .int (([43] : List Int32).getD j 0)) A s s.heap) ∧ (Term.string "BellTown$LawText" 96).eval args s none [] s = some (.ref a) := by
  obtain ⟨adK, adV, hS, hT⟩ := vk_Sof (args := args) (s := s) (N := 1) (tm := fun _ => Term.string "BellTown$LawText" 96) (len := [1]) (byt := [[43]]) (A := A) (nx_1 (by decide)) (nx_1 (nx_t h (i := 259) (by decide +kernel))) (nx_1 (nx_t h (i := 260) (by decide +kernel))) (nx_1 (nx_t h (i := 261) (by decide +kernel))) (nx_1 (nx_t h (i := 262) (by decide +kernel))) (nx_1 (fun j hj => by
    have hj : j < 1 := hj
    match j, hj with
    | 0, _ => exact (nx_t h (i := 263) (by decide +kernel))
    | j + 1, hj => exact absurd hj (by omega))) (fun i j hi hj hn => absurd (by omega : i = j) hn) hA
  exact ⟨adK 0, adV 0, hS.1 0 (by decide), hT 0 (by decide)⟩
theorem sx_18 {args : Array Value} {s : State} (h : (Jvm.Cond.and given_1 narrow_1).before args s = true) {A : Nat → Prop} (hA : ∀ a : Nat, a < s.heap.size → ¬ A a) : ∃ a v : Nat, (va_O "java/lang/String" a A s s.heap ∧ va_OF "java/lang/String" "coder" "B" (.int 0) a A s s.heap ∧ va_OF "java/lang/String" "value" "[B" (.ref v) a A s s.heap ∧ va_T .byte v 1 (fun j => .int (([60] : List Int32).getD j 0)) A s s.heap) ∧ (Term.string "BellTown$LawText" 84).eval args s none [] s = some (.ref a) := by
  obtain ⟨adK, adV, hS, hT⟩ := vk_Sof (args := args) (s := s) (N := 1) (tm := fun _ => Term.string "BellTown$LawText" 84) (len := [1]) (byt := [[60]]) (A := A) (nx_1 (by decide)) (nx_1 (nx_t h (i := 264) (by decide +kernel))) (nx_1 (nx_t h (i := 265) (by decide +kernel))) (nx_1 (nx_t h (i := 266) (by decide +kernel))) (nx_1 (nx_t h (i := 267) (by decide +kernel))) (nx_1 (fun j hj => by
    have hj : j < 1 := hj
    match j, hj with
    | 0, _ => exact (nx_t h (i := 268) (by decide +kernel))
    | j + 1, hj => exact absurd hj (by omega))) (fun i j hi hj hn => absurd (by omega : i = j) hn) hA
  exact ⟨adK 0, adV 0, hS.1 0 (by decide), hT 0 (by decide)⟩
theorem sx_19 {args : Array Value} {s : State} (h : (Jvm.Cond.and given_1 narrow_1).before args s = true) {A : Nat → Prop} (hA : ∀ a : Nat, a < s.heap.size → ¬ A a) : ∃ a v : Nat, (va_O "java/lang/String" a A s s.heap ∧ va_OF "java/lang/String" "coder" "B" (.int 0) a A s s.heap ∧ va_OF "java/lang/String" "value" "[B" (.ref v) a A s s.heap ∧ va_T .byte v 1 (fun j => .int (([62] : List Int32).getD j 0)) A s s.heap) ∧ (Term.string "BellTown$LawText" 86).eval args s none [] s = some (.ref a) := by
  obtain ⟨adK, adV, hS, hT⟩ := vk_Sof (args := args) (s := s) (N := 1) (tm := fun _ => Term.string "BellTown$LawText" 86) (len := [1]) (byt := [[62]]) (A := A) (nx_1 (by decide)) (nx_1 (nx_t h (i := 269) (by decide +kernel))) (nx_1 (nx_t h (i := 270) (by decide +kernel))) (nx_1 (nx_t h (i := 271) (by decide +kernel))) (nx_1 (nx_t h (i := 272) (by decide +kernel))) (nx_1 (fun j hj => by
    have hj : j < 1 := hj
    match j, hj with
    | 0, _ => exact (nx_t h (i := 273) (by decide +kernel))
    | j + 1, hj => exact absurd hj (by omega))) (fun i j hi hj hn => absurd (by omega : i = j) hn) hA
  exact ⟨adK 0, adV 0, hS.1 0 (by decide), hT 0 (by decide)⟩
theorem sx_20 {args : Array Value} {s : State} (h : (Jvm.Cond.and given_1 narrow_1).before args s = true) {A : Nat → Prop} (hA : ∀ a : Nat, a < s.heap.size → ¬ A a) : ∃ a v : Nat, (va_O "java/lang/String" a A s s.heap ∧ va_OF "java/lang/String" "coder" "B" (.int 0) a A s s.heap ∧ va_OF "java/lang/String" "value" "[B" (.ref v) a A s s.heap ∧ va_T .byte v 3 (fun j => .int (([97, 110, 100] : List Int32).getD j 0)) A s s.heap) ∧ (Term.string "BellTown$LawText" 64).eval args s none [] s = some (.ref a) := by
  obtain ⟨adK, adV, hS, hT⟩ := vk_Sof (args := args) (s := s) (N := 1) (tm := fun _ => Term.string "BellTown$LawText" 64) (len := [3]) (byt := [[97, 110, 100]]) (A := A) (nx_1 (by decide)) (nx_1 (nx_t h (i := 274) (by decide +kernel))) (nx_1 (nx_t h (i := 275) (by decide +kernel))) (nx_1 (nx_t h (i := 276) (by decide +kernel))) (nx_1 (nx_t h (i := 277) (by decide +kernel))) (nx_1 (fun j hj => by
    have hj : j < 3 := hj
    match j, hj with
    | 0, _ => exact (nx_t h (i := 278) (by decide +kernel))
    | 1, _ => exact (nx_t h (i := 279) (by decide +kernel))
    | 2, _ => exact (nx_t h (i := 280) (by decide +kernel))
    | j + 3, hj => exact absurd hj (by omega))) (fun i j hi hj hn => absurd (by omega : i = j) hn) hA
  exact ⟨adK 0, adV 0, hS.1 0 (by decide), hT 0 (by decide)⟩
theorem sx_21 {args : Array Value} {s : State} (h : (Jvm.Cond.and given_1 narrow_1).before args s = true) {A : Nat → Prop} (hA : ∀ a : Nat, a < s.heap.size → ¬ A a) : ∃ a v : Nat, (va_O "java/lang/String" a A s s.heap ∧ va_OF "java/lang/String" "coder" "B" (.int 0) a A s s.heap ∧ va_OF "java/lang/String" "value" "[B" (.ref v) a A s s.heap ∧ va_T .byte v 2 (fun j => .int (([111, 114] : List Int32).getD j 0)) A s s.heap) ∧ (Term.string "BellTown$LawText" 66).eval args s none [] s = some (.ref a) := by
  obtain ⟨adK, adV, hS, hT⟩ := vk_Sof (args := args) (s := s) (N := 1) (tm := fun _ => Term.string "BellTown$LawText" 66) (len := [2]) (byt := [[111, 114]]) (A := A) (nx_1 (by decide)) (nx_1 (nx_t h (i := 281) (by decide +kernel))) (nx_1 (nx_t h (i := 282) (by decide +kernel))) (nx_1 (nx_t h (i := 283) (by decide +kernel))) (nx_1 (nx_t h (i := 284) (by decide +kernel))) (nx_1 (fun j hj => by
    have hj : j < 2 := hj
    match j, hj with
    | 0, _ => exact (nx_t h (i := 285) (by decide +kernel))
    | 1, _ => exact (nx_t h (i := 286) (by decide +kernel))
    | j + 2, hj => exact absurd hj (by omega))) (fun i j hi hj hn => absurd (by omega : i = j) hn) hA
  exact ⟨adK 0, adV 0, hS.1 0 (by decide), hT 0 (by decide)⟩
