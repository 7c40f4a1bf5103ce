-- pure: rows, their costs, and the first of the cheapest (own work)
/-- ρ comes ahead of ρ', or is the same, in the first n places -/
def lexle (n : Nat) (ρ ρ' : Nat → Nat) : Prop := (∀ j, j < n → ρ j = ρ' j) ∨ ∃ d, d < n ∧ (∀ j, j < d → ρ j = ρ' j) ∧ ρ d < ρ' d
theorem lexle.rf {n : Nat} {ρ : Nat → Nat} : lexle n ρ ρ := Or.inl fun _ _ => rfl
theorem lexle.tr {n : Nat} {a b c : Nat → Nat} (h : lexle n a b) (g : lexle n b c) : lexle n a c := by
  rcases h with h | ⟨d, hd, h1, h2⟩
  · rcases g with g | ⟨e, he, g1, g2⟩
    · exact Or.inl fun j hj => (h j hj).trans (g j hj)
    · exact Or.inr ⟨e, he, fun j hj => (h j (by omega)).trans (g1 j hj), by rw [h e he]; exact g2⟩
  · rcases g with g | ⟨e, he, g1, g2⟩
    · exact Or.inr ⟨d, hd, fun j hj => (h1 j hj).trans (g j (by omega)), by rw [← g d hd]; exact h2⟩
    · rcases (show d < e ∨ d = e ∨ e < d by omega) with q | q | q
      · exact Or.inr ⟨d, hd, fun j hj => (h1 j hj).trans (g1 j (by omega)), by rw [← g1 d q]; exact h2⟩
      · subst q; exact Or.inr ⟨d, hd, fun j hj => (h1 j hj).trans (g1 j hj), by omega⟩
      · exact Or.inr ⟨e, he, fun j hj => (h1 j (by omega)).trans (g1 j hj), by rw [h1 e q]; exact g2⟩
theorem lexle.anti {n : Nat} {a b : Nat → Nat} (h : lexle n a b) (g : lexle n b a) : ∀ j, j < n → a j = b j := by
  rcases h with h | ⟨d, hd, h1, h2⟩
  · exact h
  · exfalso
    rcases g with g | ⟨e, he, g1, g2⟩
    · have := g d hd; omega
    · rcases (show d < e ∨ d = e ∨ e < d by omega) with q | q | q
      · have := g1 d q; omega
      · subst q; omega
      · have := h1 e q; omega
theorem lexle.total (n : Nat) (a b : Nat → Nat) : lexle n a b ∨ lexle n b a := by
  induction n with
  | zero => exact Or.inl (Or.inl fun j hj => by omega)
  | succ n ih =>
    rcases ih with (h | ⟨d, hd, h1, h2⟩) | (h | ⟨d, hd, h1, h2⟩)
    · rcases (show a n < b n ∨ a n = b n ∨ b n < a n by omega) with q | q | q
      · exact Or.inl (Or.inr ⟨n, by omega, h, q⟩)
      · exact Or.inl (Or.inl fun j hj => by
          rcases (show j < n ∨ j = n by omega) with z | z
          · exact h j z
          · rw [z]; exact q)
      · exact Or.inr (Or.inr ⟨n, by omega, fun j hj => (h j hj).symm, q⟩)
    · exact Or.inl (Or.inr ⟨d, by omega, h1, h2⟩)
    · rcases (show a n < b n ∨ a n = b n ∨ b n < a n by omega) with q | q | q
      · exact Or.inl (Or.inr ⟨n, by omega, fun j hj => (h j hj).symm, q⟩)
      · exact Or.inl (Or.inl fun j hj => by
          rcases (show j < n ∨ j = n by omega) with z | z
          · exact (h j z).symm
          · rw [z]; exact q)
      · exact Or.inr (Or.inr ⟨n, by omega, h, q⟩)
    · exact Or.inr (Or.inr ⟨d, by omega, h1, h2⟩)
/-- a drive's rows: S the spots of each sight, of what a spot is off, lg the legs, ls the loss -/
def ev (S : Nat → List Nat) (of : Nat → Nat → Nat) (lg : Nat → Nat → Nat → Nat → Option Nat) (ls : Nat) (ρ : Nat → Nat) : Nat → Option (Option Nat × Nat)
  | 0 => some (none, 0)
  | k + 1 => (ev S of lg ls ρ k).bind fun q => if ρ k = 1000 then some (q.1, q.2 + ls) else if ρ k ∈ S k then (match q.1 with
    | none => some (some k, q.2 + of k (ρ k))
    | some e => (lg e (ρ e) k (ρ k)).map fun x => (some k, q.2 + x + of k (ρ k))) else none
section Rows
variable {S : Nat → List Nat} {of : Nat → Nat → Nat} {lg : Nat → Nat → Nat → Nat → Option Nat} {ls : Nat}
theorem ev_left {ρ : Nat → Nat} {k : Nat} {l : Option Nat} {c : Nat} (h : ev S of lg ls ρ k = some (l, c)) (hk : ρ k = 1000) : ev S of lg ls ρ (k + 1) = some (l, c + ls) := by
  unfold ev; rw [h]; simp [hk]
theorem ev_first {ρ : Nat → Nat} {k : Nat} {c : Nat} (h : ev S of lg ls ρ k = some (none, c)) (hk : ρ k ≠ 1000) (hs : ρ k ∈ S k) : ev S of lg ls ρ (k + 1) = some (some k, c + of k (ρ k)) := by
  unfold ev; rw [h]; simp [hk, hs]
theorem ev_next {ρ : Nat → Nat} {k e x : Nat} {c : Nat} (h : ev S of lg ls ρ k = some (some e, c)) (hk : ρ k ≠ 1000) (hs : ρ k ∈ S k) (hl : lg e (ρ e) k (ρ k) = some x) : ev S of lg ls ρ (k + 1) = some (some k, c + x + of k (ρ k)) := by
  unfold ev; rw [h]; simp [hk, hs, hl]
/-- what a step back says -/
theorem ev_inv {ρ : Nat → Nat} {k : Nat} {l : Option Nat} {c : Nat} (h : ev S of lg ls ρ (k + 1) = some (l, c)) : ∃ l0 c0, ev S of lg ls ρ k = some (l0, c0) ∧ ((ρ k = 1000 ∧ l = l0 ∧ c = c0 + ls) ∨ (ρ k ≠ 1000 ∧ ρ k ∈ S k ∧ l = some k ∧ ((l0 = none ∧ c = c0 + of k (ρ k)) ∨ ∃ e x, l0 = some e ∧ lg e (ρ e) k (ρ k) = some x ∧ c = c0 + x + of k (ρ k)))) := by
  unfold ev at h
  cases hq : ev S of lg ls ρ k with
  | none => rw [hq] at h; cases h
  | some q =>
    obtain ⟨l0, c0⟩ := q
    rw [hq] at h
    simp only [Option.bind_some] at h
    refine ⟨l0, c0, rfl, ?_⟩
    by_cases h1 : ρ k = 1000
    · rw [if_pos h1] at h
      cases h
      exact Or.inl ⟨h1, rfl, rfl⟩
    · rw [if_neg h1] at h
      by_cases h2 : ρ k ∈ S k
      · rw [if_pos h2] at h
        right
        cases l0 with
        | none =>
          cases h
          exact ⟨h1, h2, rfl, Or.inl ⟨rfl, rfl⟩⟩
        | some e =>
          simp only at h
          cases hx : lg e (ρ e) k (ρ k) with
          | none => rw [hx] at h; cases h
          | some x =>
            rw [hx] at h
            cases h
            exact ⟨h1, h2, rfl, Or.inr ⟨e, x, rfl, hx, rfl⟩⟩
      · rw [if_neg h2] at h; cases h
theorem ev_congr {ρ ρ' : Nat → Nat} : ∀ k, (∀ j, j < k → ρ j = ρ' j) → ev S of lg ls ρ k = ev S of lg ls ρ' k := by
  have last : ∀ (ρ : Nat → Nat) k l c, ev S of lg ls ρ k = some (l, c) → ∀ e, l = some e → e < k := by
    intro ρ k
    induction k with
    | zero => intro l c h e he; cases h; cases he
    | succ k ih =>
      intro l c h e he
      obtain ⟨l0, c0, h0, h1⟩ := ev_inv h
      rcases h1 with ⟨_, e1, _⟩ | ⟨_, _, e1, _⟩
      · have := ih l0 c0 h0 e (by rw [← e1]; exact he); omega
      · rw [e1] at he; cases he; omega
  intro k
  induction k with
  | zero => intro _; rfl
  | succ k ih =>
    intro h
    have e := ih (fun j hj => h j (by omega))
    show (ev S of lg ls ρ k).bind _ = (ev S of lg ls ρ' k).bind _
    rw [e]
    cases hq : ev S of lg ls ρ' k with
    | none => rfl
    | some q =>
      obtain ⟨l0, c0⟩ := q
      simp only [Option.bind_some, h k (by omega)]
      cases l0 with
      | none => rfl
      | some e0 =>
        have := last ρ' k _ _ hq e0 rfl
        simp only [h e0 (by omega)]
theorem ev_last {ρ : Nat → Nat} : ∀ {k : Nat} {l : Option Nat} {c : Nat}, ev S of lg ls ρ k = some (l, c) → (l = none → (∀ j, j < k → ρ j = 1000) ∧ c = ls * k) ∧ ∀ e, l = some e → e < k ∧ ρ e ≠ 1000 ∧ ρ e ∈ S e ∧ (∀ j, e < j → j < k → ρ j = 1000) ∧ ∃ c1, ev S of lg ls ρ (e + 1) = some (some e, c1) ∧ c = c1 + ls * (k - e - 1) := by
  intro k
  induction k with
  | zero => intro l c h; cases h; exact ⟨fun _ => ⟨fun j hj => by omega, rfl⟩, fun e he => by cases he⟩
  | succ k ih =>
    intro l c h
    obtain ⟨l0, c0, h0, h1⟩ := ev_inv h
    rcases h1 with ⟨e1, rfl, rfl⟩ | ⟨e1, e2, rfl, _⟩
    · obtain ⟨g1, g2⟩ := ih h0
      refine ⟨fun hl => ?_, fun e he => ?_⟩
      · obtain ⟨a, b⟩ := g1 hl
        refine ⟨fun j hj => ?_, by rw [b, Nat.mul_succ]⟩
        rcases (show j < k ∨ j = k by omega) with z | z
        · exact a j z
        · rw [z]; exact e1
      · obtain ⟨a1, a2, a3, a4, c1, a5, a6⟩ := g2 e he
        refine ⟨by omega, a2, a3, fun j hj hk => ?_, c1, a5, ?_⟩
        · rcases (show j < k ∨ j = k by omega) with z | z
          · exact a4 j hj z
          · rw [z]; exact e1
        · rw [a6, show k + 1 - e - 1 = (k - e - 1) + 1 by omega, Nat.mul_succ]; omega
    · refine ⟨fun hl => (by cases hl), fun e he => ?_⟩
      cases he
      exact ⟨by omega, e1, e2, fun j hj hk => by omega, c, h, by simp⟩
/-- going on with nothing but LEFT -/
theorem ev_lefts {ρ : Nat → Nat} {l : Option Nat} {c k : Nat} (h : ev S of lg ls ρ k = some (l, c)) : ∀ j, (∀ x, k ≤ x → x < k + j → ρ x = 1000) → ev S of lg ls ρ (k + j) = some (l, c + ls * j) := by
  intro j
  induction j with
  | zero => intro _; exact h
  | succ j ih =>
    intro hx
    have h1 := ih (fun x a b => hx x a (by omega))
    have := ev_left h1 (hx (k + j) (by omega) (by omega))
    rw [show k + (j + 1) = k + j + 1 by omega, this, Nat.mul_succ]
    congr 2; omega
/-- (c, ρ) is no dearer than (c', ρ'), and comes first where they cost the same, in n places -/
def ahead (n : Nat) (c : Nat) (ρ : Nat → Nat) (c' : Nat) (ρ' : Nat → Nat) : Prop := c < c' ∨ (c = c' ∧ lexle n ρ ρ')
theorem ahead.tr {n c1 c2 c3 : Nat} {r1 r2 r3 : Nat → Nat} (h : ahead n c1 r1 c2 r2) (g : ahead n c2 r2 c3 r3) : ahead n c1 r1 c3 r3 := by
  rcases h with h | ⟨h1, h2⟩
  · rcases g with g | ⟨g1, g2⟩
    · exact Or.inl (by omega)
    · exact Or.inl (by omega)
  · rcases g with g | ⟨g1, g2⟩
    · exact Or.inl (by omega)
    · exact Or.inr ⟨by omega, h2.tr g2⟩
/-- the first of the cheapest rows that end at spot p of sight i -/
def Best (S : Nat → List Nat) (of : Nat → Nat → Nat) (lg : Nat → Nat → Nat → Nat → Option Nat) (ls i p c : Nat) (ρ : Nat → Nat) : Prop := ev S of lg ls ρ (i + 1) = some (some i, c) ∧ ρ i = p ∧ ∀ ρ' c', ev S of lg ls ρ' (i + 1) = some (some i, c') → ρ' i = p → ahead i c ρ c' ρ'
/-- a way to come to spot p of sight i: from nowhere, or from a best row that ends earlier -/
def Come (S : Nat → List Nat) (of : Nat → Nat → Nat) (lg : Nat → Nat → Nat → Nat → Option Nat) (ls : Nat) (C : Nat → Nat → Nat) (Rw : Nat → Nat → Nat → Nat) (i p c : Nat) (ρ : Nat → Nat) : Prop :=
  ((∀ j, j < i → ρ j = 1000) ∧ c = ls * i + of i p) ∨ ∃ e q x, e < i ∧ q ∈ S e ∧ lg e q i p = some x ∧ c = C e q + ls * (i - e - 1) + x + of i p ∧ (∀ j, j ≤ e → ρ j = Rw e q j) ∧ ∀ j, e < j → j < i → ρ j = 1000
theorem best_of {C : Nat → Nat → Nat} {Rw : Nat → Nat → Nat → Nat} {i p c : Nat} {ρ : Nat → Nat} (hp : p ∈ S i) (hp0 : p ≠ 1000) (hpast : ∀ e q, e < i → q ∈ S e → Best S of lg ls e q (C e q) (Rw e q)) (hρ : ρ i = p) (hc : Come S of lg ls C Rw i p c ρ) (hmin : ∀ c' ρ', Come S of lg ls C Rw i p c' ρ' → ahead i c ρ c' ρ') : Best S of lg ls i p c ρ := by
  refine ⟨?_, hρ, fun ρ' c' h' hp' => ?_⟩
  · rcases hc with ⟨h1, h2⟩ | ⟨e, q, x, he, hq, hx, hcc, h1, h2⟩
    · have h0 : ev S of lg ls ρ 0 = some (none, 0) := rfl
      have h3 := ev_lefts h0 i (fun x _ hx => h1 x (by omega))
      rw [Nat.zero_add, Nat.zero_add] at h3
      have := ev_first h3 (by rw [hρ]; exact hp0) (by rw [hρ]; exact hp)
      rw [this, hρ, h2]
    · obtain ⟨b1, b2, -⟩ := hpast e q he hq
      have h3 : ev S of lg ls ρ (e + 1) = some (some e, C e q) := by
        rw [ev_congr (ρ' := Rw e q) (e + 1) (fun j hj => h1 j (by omega))]; exact b1
      have h4 := ev_lefts h3 (i - e - 1) (fun y a b => h2 y (by omega) (by omega))
      rw [show e + 1 + (i - e - 1) = i by omega] at h4
      have h5 : ρ e = q := by rw [h1 e (Nat.le_refl e)]; exact b2
      have := ev_next h4 (by rw [hρ]; exact hp0) (by rw [hρ]; exact hp) (by rw [h5, hρ]; exact hx)
      rw [this, hρ, hcc]
  · obtain ⟨l0, c0, g0, g1⟩ := ev_inv h'
    rcases g1 with ⟨e1, _, _⟩ | ⟨e1, e2, _, g2⟩
    · exact absurd (hp'.symm.trans e1) hp0
    · rw [hp'] at g2
      rcases g2 with ⟨rfl, rfl⟩ | ⟨e, x, rfl, hx, rfl⟩
      · obtain ⟨a1, a2⟩ := (ev_last g0).1 rfl
        rw [a2]
        exact hmin _ ρ' (Or.inl ⟨a1, rfl⟩)
      · obtain ⟨a1, a2, a3, a4, c1, a5, a6⟩ := (ev_last g0).2 e rfl
        obtain ⟨b1, b2, b3⟩ := hpast e (ρ' e) a1 a3
        have hb := b3 ρ' c1 a5 rfl
        obtain ⟨ρ2, hr1, hr2⟩ : ∃ ρ2 : Nat → Nat, (∀ j, j ≤ e → ρ2 j = Rw e (ρ' e) j) ∧ ∀ j, e < j → ρ2 j = ρ' j := ⟨fun j => if j ≤ e then Rw e (ρ' e) j else ρ' j, fun j hj => if_pos hj, fun j hj => if_neg (by omega)⟩
        have hm := hmin (C e (ρ' e) + ls * (i - e - 1) + x + of i p) ρ2 (Or.inr ⟨e, ρ' e, x, a1, a3, hx, rfl, hr1, fun j h1 h2 => by rw [hr2 j h1]; exact a4 j h1 h2⟩)
        refine hm.tr ?_
        rcases hb with hb | ⟨hb1, hb2⟩
        · exact Or.inl (by omega)
        · refine Or.inr ⟨by omega, ?_⟩
          rcases hb2 with z | ⟨d, hd, z1, z2⟩
          · refine Or.inl fun j hj => ?_
            rcases (show j < e ∨ j = e ∨ e < j by omega) with q | q | q
            · rw [hr1 j (by omega)]; exact z j q
            · subst q; rw [hr1 j (Nat.le_refl j)]; exact b2
            · exact hr2 j q
          · exact Or.inr ⟨d, by omega, fun j hj => by rw [hr1 j (by omega)]; exact z1 j hj, by rw [hr1 d (by omega)]; exact z2⟩
theorem best_uniq {i p c c' : Nat} {ρ ρ' : Nat → Nat} (h : Best S of lg ls i p c ρ) (h' : Best S of lg ls i p c' ρ') : c = c' ∧ ∀ j, j ≤ i → ρ j = ρ' j := by
  have a := h.2.2 ρ' c' h'.1 h'.2.1
  have b := h'.2.2 ρ c h.1 h.2.1
  have e : c = c' := by
    rcases a with a | a <;> rcases b with b | b <;> omega
  refine ⟨e, fun j hj => ?_⟩
  rcases (show j < i ∨ j = i by omega) with z | z
  · rcases a with a | ⟨_, a⟩
    · omega
    · rcases b with b | ⟨_, b⟩
      · omega
      · exact a.anti b j z
  · rw [z, h.2.1, h'.2.1]
end Rows
