-- pure: both walks come to the same row (own work)
section Rows3
variable {S : Nat → List Nat} {of : Nat → Nat → Nat} {lg : Nat → Nat → Nat → Nat → Option Nat} {ls : Nat} {en : Option (Nat × Nat)}
theorem ev_mono (ρ : Nat → Nat) : ∀ m k l c l' c', ev S of lg ls ρ k = some (l, c) → ev S of lg ls ρ (k + m) = some (l', c') → c ≤ c' := by
  intro m
  induction m with
  | zero =>
    intro k l c l' c' h h'
    rw [Nat.add_zero, h] at h'
    cases h'
    exact Nat.le_refl _
  | succ m ih =>
    intro k l c l' c' h h'
    obtain ⟨l0, c0, g0, g1⟩ := ev_inv h'
    have := ih k l c l0 c0 h g0
    rcases g1 with ⟨_, _, e⟩ | ⟨_, _, _, ⟨_, e⟩ | ⟨_, x, _, _, e⟩⟩ <;> omega
/-- the last spot of a row, as a pair -/
def lpt (ρ : Nat → Nat) (l : Option Nat) : Option (Nat × Nat) := l.map fun e => (e, ρ e)
/-- from the front and from the back the costs are the same -/
theorem ev_sx {ρ : Nat → Nat} : ∀ m k l c, ev S of lg ls ρ k = some (l, c) → ∀ C, (sx S of lg ls en ρ m k (lpt ρ l) C ↔ ∃ l' c', ev S of lg ls ρ (k + m) = some (l', c') ∧ mayE en (lpt ρ l') ∧ c' = c + C) := by
  intro m
  induction m with
  | zero =>
    intro k l c h C
    constructor
    · rintro ⟨h1, h2⟩
      exact ⟨l, c, h, h1, by omega⟩
    · rintro ⟨l', c', h1, h2, h3⟩
      rw [Nat.add_zero] at h1
      rw [h1] at h
      cases h
      exact ⟨h2, by omega⟩
  | succ m ih =>
    intro k l c h C
    rw [show k + (m + 1) = (k + 1) + m by omega]
    constructor
    · rintro (⟨h1, a, h2, h3⟩ | ⟨h1, h2, x, a, h3, h4, h5⟩)
      · have g := ev_left h h1
        obtain ⟨l', c', q1, q2, q3⟩ := (ih (k + 1) l _ g a).mp h2
        exact ⟨l', c', q1, q2, by omega⟩
      · have g : ev S of lg ls ρ (k + 1) = some (some k, c + x + of k (ρ k)) := by
          cases l with
          | none =>
            have e : (some 0 : Option Nat) = some x := h3
            cases e
            exact ev_first h h1 h2
          | some e => exact ev_next h h1 h2 h3
        obtain ⟨l', c', q1, q2, q3⟩ := (ih (k + 1) (some k) _ g a).mp h4
        exact ⟨l', c', q1, q2, by omega⟩
    · rintro ⟨l', c', h1, h2, h3⟩
      -- the step at k must have gone well
      have mono : ∀ j x, ev S of lg ls ρ (x + j) ≠ none → ev S of lg ls ρ x ≠ none := by
        intro j
        induction j with
        | zero => intro x hx; exact hx
        | succ j ihj =>
          intro x hx
          refine ihj x (fun e => hx ?_)
          show (ev S of lg ls ρ (x + j)).bind _ = none
          rw [e]; rfl
      cases hq : ev S of lg ls ρ (k + 1) with
      | none => exact absurd hq (mono m (k + 1) (by rw [h1]; simp))
      | some q =>
        obtain ⟨l1, c1⟩ := q
        obtain ⟨l0, c0, g0, g1⟩ := ev_inv hq
        rw [h] at g0
        cases g0
        rcases g1 with ⟨e1, e2, e3⟩ | ⟨e1, e2, e3, e4⟩
        · subst e2
          refine Or.inl ⟨e1, C - ls, ?_, ?_⟩
          · refine (ih (k + 1) l1 c1 hq (C - ls)).mpr ⟨l', c', h1, h2, by
              have := (ev_mono ρ m (k + 1) l1 c1 l' c' hq h1)
              omega⟩
          · have := (ev_mono ρ m (k + 1) l1 c1 l' c' hq h1)
            omega
        · subst e3
          have hm := (ev_mono ρ m (k + 1) (some k) c1 l' c' hq h1)
          rcases e4 with ⟨rfl, e5⟩ | ⟨e, x, rfl, e5, e6⟩
          · exact Or.inr ⟨e1, e2, 0, C - of k (ρ k), rfl, (ih (k + 1) (some k) c1 hq _).mpr ⟨l', c', h1, h2, by omega⟩, by omega⟩
          · exact Or.inr ⟨e1, e2, x, C - x - of k (ρ k), e5, (ih (k + 1) (some k) c1 hq _).mpr ⟨l', c', h1, h2, by omega⟩, by omega⟩
end Rows3
