/-! calls from the law: its wrappers catch; the law itself calls wrappers and the reference -/
def am_ctI (g : Option am_R) (f : Int32 → am_S → Option am_R) (hs : List (Nat × Int32)) : Option am_R := g.bind (fun r => match r.1 with | .inl (some (.int v)) => f v r.2 | .inl _ => none | .inr k => (hs.lookup k).map (fun n => (.inl (some (.int n)), r.2)))
def am_ctV (g : Option am_R) (f : am_S → Option am_R) (hs : List (Nat × Int32)) : Option am_R := g.bind (fun r => match r.1 with | .inl none => f r.2 | .inl _ => none | .inr k => (hs.lookup k).map (fun n => (.inl (some (.int n)), r.2)))
def am_xI {γ : Type} (g : Option am_R) (f : Int32 → am_S → Option γ) : Option γ := g.bind (fun r => match r.1 with | .inl (some (.int v)) => f v r.2 | _ => none)
section EVL
variable {β : Type} {E : am_E} {l : Launch} {Y : am_Y} {Z : List Frame → Array Value → State → β → State → Prop} {cs sl pc : Nat} {L : List (Option Value)} {st : List Value} {S : am_S} {mc ms : Nat}
theorem ev_callCI {stk rest : List Value} {mc' ms' : Nat} {g : Option am_R} {f : Int32 → am_S → Option am_R} {hs : List (Nat × Int32)} (hc : ∀ r, g = some r → am_Call E l Y cs sl pc L stk rest mc' ms' S r) (h1 : cs + mc' ≤ mc) (h2 : sl + ms' ≤ ms) (hH : ∀ k n, hs.lookup k = some n → am_Hd Y pc k n)
    (kk : ∀ v S', g = some (.inl (some (.int v)), S') → am_Ev E l Y (am_Z E mc ms) (cs + mc') (sl + ms') (pc + 3) L (.int v :: rest) S' (f v S')) : am_Ev E l Y (am_Z E mc ms) cs sl pc L stk S (am_ctI g f hs) := by
  have h := ev_callC (f := fun v S' => match v with | some (.int x) => f x S' | _ => none) hc h1 h2 hH (fun v S' hg => by
    cases v with
    | none => exact ev_none
    | some v =>
      cases v with
      | int x => exact kk x S' hg
      | _ => exact ev_none)
  refine ev_eq ?_ h
  unfold am_ctI am_cth
  congr 1
  funext r
  obtain ⟨w, S'⟩ := r
  cases w with
  | inl v =>
    cases v with
    | none => rfl
    | some v => cases v <;> rfl
  | inr k => rfl
theorem ev_callCV {stk rest : List Value} {mc' ms' : Nat} {g : Option am_R} {f : am_S → Option am_R} {hs : List (Nat × Int32)} (hc : ∀ r, g = some r → am_Call E l Y cs sl pc L stk rest mc' ms' S r) (h1 : cs + mc' ≤ mc) (h2 : sl + ms' ≤ ms) (hH : ∀ k n, hs.lookup k = some n → am_Hd Y pc k n)
    (kk : ∀ S', g = some (.inl none, S') → am_Ev E l Y (am_Z E mc ms) (cs + mc') (sl + ms') (pc + 3) L rest S' (f S')) : am_Ev E l Y (am_Z E mc ms) cs sl pc L stk S (am_ctV g f hs) := by
  have h := ev_callC (f := fun v S' => match v with | none => f S' | some _ => none) hc h1 h2 hH (fun v S' hg => by
    cases v with
    | none => exact kk S' hg
    | some v => exact ev_none)
  refine ev_eq ?_ h
  unfold am_ctV am_cth
  congr 1
  funext r
  obtain ⟨w, S'⟩ := r
  cases w with
  | inl v => cases v <;> rfl
  | inr k => rfl
theorem ev_callXI {γ : Type} {stk rest : List Value} {mc' ms' : Nat} {g : Option am_R} {f : Int32 → am_S → Option γ} {F : γ → Option β} (hc : ∀ r, g = some r → am_Call E l Y cs sl pc L stk rest mc' ms' S r)
    (kk : ∀ v S', g = some (.inl (some (.int v)), S') → am_Ev E l Y Z (cs + mc') (sl + ms') (pc + 3) L (.int v :: rest) S' ((f v S').bind F)) : am_Ev E l Y Z cs sl pc L stk S ((am_xI g f).bind F) := by
  cases hg : g with
  | none => exact ev_none
  | some q =>
    obtain ⟨w, S'⟩ := q
    cases w with
    | inr k => exact ev_none
    | inl v =>
      have h := ev_call0 (Z := Z) (f := fun v S' => match v with | some (.int x) => (f x S').bind F | _ => none) hc (fun r hr => by rw [hg] at hr; cases hr; exact ⟨_, rfl⟩) (fun v S' hg => by
        cases v with
        | none => exact ev_none
        | some v =>
          cases v with
          | int x => exact kk x S' hg
          | _ => exact ev_none)
      rw [hg] at h
      refine ev_eq ?_ h
      cases v with
      | none => rfl
      | some v => cases v <;> rfl
end EVL
theorem am_lk0 {Y : am_Y} {pc : Nat} : ∀ k n, List.lookup k ([] : List (Nat × Int32)) = some n → am_Hd Y pc k n := fun _ _ h => nomatch h
theorem am_lkc {Y : am_Y} {pc k0 : Nat} {n0 : Int32} {t : List (Nat × Int32)} (h0 : am_Hd Y pc k0 n0) (ht : ∀ k n, List.lookup k t = some n → am_Hd Y pc k n) : ∀ k n, List.lookup k ((k0, n0) :: t) = some n → am_Hd Y pc k n := fun k n h => by
  rw [List.lookup_cons] at h
  cases e : k == k0 with
  | true =>
    rw [e] at h
    cases h
    rw [eq_of_beq e]
    exact h0
  | false =>
    rw [e] at h
    exact ht k n h
theorem am_fitL {cs sl d mc ms maxL : Nat} (h1 : cs ≤ 501000) (h2 : sl ≤ 7010000) (hd : d ≤ 1000) (hm : maxL ≤ 45) (h3 : mc ≤ 100) (h4 : ms ≤ 600) : am_fitR room_1 cs sl d mc ms maxL := by
  unfold am_fitR am_rm room_1
  refine ⟨⟨?_, ?_⟩, ?_, ?_⟩
  · show d + 8 + 1 ≤ 2048; omega
  · show 8 + (maxL + 11) + (64 * d + 300) ≤ 84000; omega
  · show cs + mc ≤ 601024; omega
  · show sl + ms ≤ 7293034; omega
