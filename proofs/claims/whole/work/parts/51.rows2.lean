-- pure: the reference's rows, from the back (own work)
def MF : Nat := 1000000000
def lgo (lg : Nat → Nat → Nat → Nat → Option Nat) (l : Option (Nat × Nat)) (k p : Nat) : Option Nat := match l with
  | none => some 0
  | some q => lg q.1 q.2 k p
/-- a row may end behind l: en names the spot that must be the last one, or nothing -/
def mayE (en l : Option (Nat × Nat)) : Prop := en = none ∨ l = en
def sx (S : Nat → List Nat) (of : Nat → Nat → Nat) (lg : Nat → Nat → Nat → Nat → Option Nat) (ls : Nat) (en : Option (Nat × Nat)) (ρ : Nat → Nat) : Nat → Nat → Option (Nat × Nat) → Nat → Prop
  | 0, _, l, c => mayE en l ∧ c = 0
  | m + 1, k, l, c => (ρ k = 1000 ∧ ∃ c', sx S of lg ls en ρ m (k + 1) l c' ∧ c = ls + c') ∨ (ρ k ≠ 1000 ∧ ρ k ∈ S k ∧ ∃ x c', lgo lg l k (ρ k) = some x ∧ sx S of lg ls en ρ m (k + 1) (some (k, ρ k)) c' ∧ c = x + of k (ρ k) + c')
section Rows2
variable {S : Nat → List Nat} {of : Nat → Nat → Nat} {lg : Nat → Nat → Nat → Nat → Option Nat} {ls : Nat} {en : Option (Nat × Nat)}
theorem sx_det {ρ : Nat → Nat} : ∀ m k l c c', sx S of lg ls en ρ m k l c → sx S of lg ls en ρ m k l c' → c = c' := by
  intro m
  induction m with
  | zero => intro k l c c' h g; exact h.2.trans g.2.symm
  | succ m ih =>
    intro k l c c' h g
    rcases h with ⟨h1, a, h2, h3⟩ | ⟨h1, h2, x, a, h3, h4, h5⟩
    · rcases g with ⟨g1, b, g2, g3⟩ | ⟨g1, _⟩
      · have := ih _ _ _ _ h2 g2; omega
      · exact absurd h1 g1
    · rcases g with ⟨g1, _⟩ | ⟨g1, g2, y, b, g3, g4, g5⟩
      · exact absurd g1 h1
      · have := ih _ _ _ _ h4 g4
        rw [h3] at g3
        have := Option.some.inj g3
        omega
theorem sx_congr {ρ ρ' : Nat → Nat} : ∀ m k l c, (∀ j, k ≤ j → j < k + m → ρ j = ρ' j) → sx S of lg ls en ρ m k l c → sx S of lg ls en ρ' m k l c := by
  intro m
  induction m with
  | zero => intro k l c _ h; exact h
  | succ m ih =>
    intro k l c hj h
    have e := hj k (Nat.le_refl k) (by omega)
    rcases h with ⟨h1, a, h2, h3⟩ | ⟨h1, h2, x, a, h3, h4, h5⟩
    · exact Or.inl ⟨by rw [← e]; exact h1, a, ih _ _ _ (fun j p q => hj j (by omega) (by omega)) h2, h3⟩
    · rw [e] at h1 h2 h3 h4 h5
      exact Or.inr ⟨h1, h2, x, a, h3, ih _ _ _ (fun j p q => hj j (by omega) (by omega)) h4, h5⟩
/-- the costs that can be had from k on, with l behind -/
def sset (S : Nat → List Nat) (of : Nat → Nat → Nat) (lg : Nat → Nat → Nat → Nat → Option Nat) (ls : Nat) (en : Option (Nat × Nat)) (m k : Nat) (l : Option (Nat × Nat)) (c : Nat) : Prop := ∃ ρ, sx S of lg ls en ρ m k l c
theorem sset_zero {k c : Nat} {l : Option (Nat × Nat)} : sset S of lg ls en 0 k l c ↔ mayE en l ∧ c = 0 := ⟨fun ⟨_, h⟩ => h, fun h => ⟨fun _ => 0, h⟩⟩
theorem sset_succ {m k c : Nat} {l : Option (Nat × Nat)} (h1000 : ∀ p, p ∈ S k → p ≠ 1000) : sset S of lg ls en (m + 1) k l c ↔ (∃ c', sset S of lg ls en m (k + 1) l c' ∧ c = ls + c') ∨ ∃ p x c', p ∈ S k ∧ lgo lg l k p = some x ∧ sset S of lg ls en m (k + 1) (some (k, p)) c' ∧ c = x + of k p + c' := by
  constructor
  · rintro ⟨ρ, ⟨h1, a, h2, h3⟩ | ⟨h1, h2, x, a, h3, h4, h5⟩⟩
    · exact Or.inl ⟨a, ⟨ρ, h2⟩, h3⟩
    · exact Or.inr ⟨ρ k, x, a, h2, h3, ⟨ρ, h4⟩, h5⟩
  · rintro (⟨a, ⟨ρ, h2⟩, h3⟩ | ⟨p, x, a, h2, h3, ⟨ρ, h4⟩, h5⟩)
    · refine ⟨va_up ρ k 1000, Or.inl ⟨upc_s _ _ _, a, sx_congr _ _ _ _ (fun j p q => (upc_n _ _ (by omega)).symm) h2, h3⟩⟩
    · refine ⟨va_up ρ k p, Or.inr ⟨by rw [upc_s]; exact h1000 p h2, by rw [upc_s]; exact h2, x, a, by rw [upc_s]; exact h3, ?_, by rw [upc_s]; exact h5⟩⟩
      rw [upc_s]
      exact sx_congr _ _ _ _ (fun j p q => (upc_n _ _ (by omega)).symm) h4
/-- what lies behind a spot, itself with it -/
def Rest (S : Nat → List Nat) (of : Nat → Nat → Nat) (lg : Nat → Nat → Nat → Nat → Option Nat) (ls : Nat) (en : Option (Nat × Nat)) (n j p r : Nat) : Prop := Lst MF (fun c => ∃ c', sset S of lg ls en (n - j - 1) (j + 1) (some (j, p)) c' ∧ c = of j p + c') r
/-- what the reference's 'behind' tries -/
def candB (S : Nat → List Nat) (lg : Nat → Nat → Nat → Nat → Option Nat) (ls : Nat) (en : Option (Nat × Nat)) (n : Nat) (rs : Nat → Nat → Nat) (k : Nat) (l : Option (Nat × Nat)) (c : Nat) : Prop := (mayE en l ∧ c = ls * (n - k)) ∨ ∃ j p x, k ≤ j ∧ j < n ∧ p ∈ S j ∧ lgo lg l j p = some x ∧ rs j p < MF ∧ c = ls * (j - k) + x + rs j p
theorem cand_up {n k : Nat} (hk : k < n) {rs : Nat → Nat → Nat} {l : Option (Nat × Nat)} {c : Nat} : candB S lg ls en n rs k l c ↔ (∃ c', candB S lg ls en n rs (k + 1) l c' ∧ c = ls + c') ∨ ∃ p x, p ∈ S k ∧ lgo lg l k p = some x ∧ rs k p < MF ∧ c = x + rs k p := by
  constructor
  · rintro (⟨h1, h2⟩ | ⟨j, p, x, h1, h2, h3, h4, h5, h6⟩)
    · refine Or.inl ⟨ls * (n - (k + 1)), Or.inl ⟨h1, rfl⟩, ?_⟩
      rw [h2, show n - k = (n - (k + 1)) + 1 by omega, Nat.mul_succ]; omega
    · by_cases e : j = k
      · subst e
        refine Or.inr ⟨p, x, h3, h4, h5, ?_⟩
        rw [h6, Nat.sub_self, Nat.mul_zero]; omega
      · refine Or.inl ⟨ls * (j - (k + 1)) + x + rs j p, Or.inr ⟨j, p, x, by omega, h2, h3, h4, h5, rfl⟩, ?_⟩
        rw [h6, show j - k = (j - (k + 1)) + 1 by omega, Nat.mul_succ]; omega
  · rintro (⟨c', (⟨h1, h2⟩ | ⟨j, p, x, h1, h2, h3, h4, h5, h6⟩), h7⟩ | ⟨p, x, h3, h4, h5, h6⟩)
    · refine Or.inl ⟨h1, ?_⟩
      rw [h7, h2, show n - k = (n - (k + 1)) + 1 by omega, Nat.mul_succ]; omega
    · refine Or.inr ⟨j, p, x, by omega, h2, h3, h4, h5, ?_⟩
      rw [h7, h6, show j - k = (j - (k + 1)) + 1 by omega, Nat.mul_succ]; omega
    · refine Or.inr ⟨k, p, x, Nat.le_refl k, hk, h3, h4, h5, ?_⟩
      rw [h6, Nat.sub_self, Nat.mul_zero]; omega
/-- 'behind' finds the least of what can be had: in two halves -/
theorem cand_sset {n : Nat} (h1000 : ∀ k p, p ∈ S k → p ≠ 1000) {rs : Nat → Nat → Nat} {k0 : Nat} (hrs : ∀ j p, k0 ≤ j → j < n → p ∈ S j → Rest S of lg ls en n j p (rs j p)) : ∀ m k, k + m = n → k0 ≤ k → ∀ l, (∀ c, candB S lg ls en n rs k l c → sset S of lg ls en m k l c) ∧ ∀ c, c < MF → sset S of lg ls en m k l c → ∃ c', candB S lg ls en n rs k l c' ∧ c' ≤ c := by
  intro m
  induction m with
  | zero =>
    intro k hk h0 l
    refine ⟨fun c h => ?_, fun c _ h => ?_⟩
    · rcases h with ⟨h1, h2⟩ | ⟨j, p, x, h1, h2, _⟩
      · rw [sset_zero]; exact ⟨h1, by rw [h2, show n - k = 0 by omega]; rfl⟩
      · omega
    · rw [sset_zero] at h
      exact ⟨c, Or.inl ⟨h.1, by rw [h.2, show n - k = 0 by omega]; rfl⟩, Nat.le_refl _⟩
  | succ m ih =>
    intro k hk h0 l
    have hkn : k < n := by omega
    refine ⟨fun c h => ?_, fun c hc h => ?_⟩
    · rw [cand_up hkn] at h
      rw [sset_succ (h1000 k)]
      rcases h with ⟨c', h1, h2⟩ | ⟨p, x, h1, h2, h3, h4⟩
      · exact Or.inl ⟨c', (ih (k + 1) (by omega) (by omega) l).1 c' h1, h2⟩
      · obtain ⟨c', g1, g2⟩ := (hrs k p h0 hkn h1).1 h3
        rw [show n - k - 1 = m by omega] at g1
        exact Or.inr ⟨p, x, c', h1, h2, g1, by omega⟩
    · rw [sset_succ (h1000 k)] at h
      rcases h with ⟨c', h1, h2⟩ | ⟨p, x, c', h1, h2, h3, h4⟩
      · obtain ⟨c2, g1, g2⟩ := (ih (k + 1) (by omega) (by omega) l).2 c' (by omega) h1
        exact ⟨ls + c2, (cand_up hkn).mpr (Or.inl ⟨c2, g1, rfl⟩), by omega⟩
      · have g := (hrs k p h0 hkn h1).2.1 (of k p + c') ⟨c', by rw [show n - k - 1 = m by omega]; exact h3, rfl⟩
        exact ⟨x + rs k p, (cand_up hkn).mpr (Or.inr ⟨p, x, h1, h2, by omega, rfl⟩), by omega⟩
theorem behind_of {n : Nat} (h1000 : ∀ k p, p ∈ S k → p ≠ 1000) {rs : Nat → Nat → Nat} {k0 k v : Nat} (hk : k ≤ n) (h0 : k0 ≤ k) (hrs : ∀ j p, k0 ≤ j → j < n → p ∈ S j → Rest S of lg ls en n j p (rs j p)) {l : Option (Nat × Nat)} (hv : Lst MF (candB S lg ls en n rs k l) v) : Lst MF (sset S of lg ls en (n - k) k l) v := by
  obtain ⟨g1, g2⟩ := cand_sset (ls := ls) (of := of) h1000 hrs (n - k) k (by omega) h0 l
  refine ⟨fun h => g1 v (hv.1 h), fun c hc => ?_, hv.2.2⟩
  by_cases hlt : c < MF
  · obtain ⟨c', a, b⟩ := g2 c hlt hc
    have := hv.2.1 c' a
    omega
  · have := hv.2.2; omega
/-- the reference's walk to the first of the cheapest rows -/
def Greedy (S : Nat → List Nat) (of : Nat → Nat → Nat) (lg : Nat → Nat → Nat → Nat → Option Nat) (ls n : Nat) (rs : Nat → Nat → Nat) (ρ : Nat → Nat) (l : Nat → Option (Nat × Nat)) (due : Nat → Nat) : Prop := ∀ k, k < n →
  (ρ k ∈ S k ∧ (∃ x, lgo lg (l k) k (ρ k) = some x ∧ rs k (ρ k) < MF ∧ x + rs k (ρ k) = due k) ∧ (∀ q x, q ∈ S k → q < ρ k → lgo lg (l k) k q = some x → rs k q < MF → x + rs k q ≠ due k) ∧ l (k + 1) = some (k, ρ k) ∧ due (k + 1) = rs k (ρ k) - of k (ρ k)) ∨
  (ρ k = 1000 ∧ (∀ q x, q ∈ S k → lgo lg (l k) k q = some x → rs k q < MF → x + rs k q ≠ due k) ∧ l (k + 1) = l k ∧ due (k + 1) = due k - ls)
theorem greedy_lst {n : Nat} (h1000 : ∀ k p, p ∈ S k → p < 1000) {rs : Nat → Nat → Nat} (hrs : ∀ j p, j < n → p ∈ S j → Rest S of lg ls en n j p (rs j p)) {ρ : Nat → Nat} {l : Nat → Option (Nat × Nat)} {due : Nat → Nat} (hg : Greedy S of lg ls n rs ρ l due) (h0 : Lst MF (sset S of lg ls en n 0 (l 0)) (due 0)) (hd : due 0 < MF) : ∀ k, k ≤ n → Lst MF (sset S of lg ls en (n - k) k (l k)) (due k) ∧ due k < MF := by
  intro k
  induction k with
  | zero => intro _; exact ⟨h0, hd⟩
  | succ k ih =>
    intro hk
    obtain ⟨a, b⟩ := ih (by omega)
    have hm : n - k = (n - (k + 1)) + 1 := by omega
    rw [hm] at a
    have hne : ∀ p, p ∈ S k → p ≠ 1000 := fun p hp => by have := h1000 k p hp; omega
    rcases hg k (by omega) with ⟨g1, ⟨x, g2, g3, g4⟩, g5, g6, g7⟩ | ⟨g1, g2, g3, g4⟩
    · obtain ⟨c', r1, r2⟩ := (hrs k (ρ k) (by omega) g1).1 g3
      rw [g6, g7]
      rw [show n - k - 1 = n - (k + 1) by omega] at r1
      refine ⟨⟨fun _ => by rw [show rs k (ρ k) - of k (ρ k) = c' by omega]; exact r1, fun c hc => ?_, by omega⟩, by omega⟩
      have := (hrs k (ρ k) (by omega) g1).2.1 (of k (ρ k) + c) ⟨c, by rw [show n - k - 1 = n - (k + 1) by omega]; exact hc, rfl⟩
      omega
    · have hin := a.1 b
      rw [sset_succ hne] at hin
      rw [g3, g4]
      have low : ∀ c, sset S of lg ls en (n - (k + 1)) (k + 1) (l k) c → due k ≤ ls + c := fun c hc => a.2.1 (ls + c) ((sset_succ hne).mpr (Or.inl ⟨c, hc, rfl⟩))
      rcases hin with ⟨c', r1, r2⟩ | ⟨p, x, c', r1, r2, r3, r4⟩
      · refine ⟨⟨fun _ => by rw [show due k - ls = c' by omega]; exact r1, fun c hc => by have := low c hc; omega, by omega⟩, by omega⟩
      · exfalso
        have hr := hrs k p (by omega) r1
        have h1 := hr.2.1 (of k p + c') ⟨c', by rw [show n - k - 1 = n - (k + 1) by omega]; exact r3, rfl⟩
        have h2 : rs k p < MF := by omega
        obtain ⟨c2, q1, q2⟩ := hr.1 h2
        rw [show n - k - 1 = n - (k + 1) by omega] at q1
        have h3 := a.2.1 (x + of k p + c2) ((sset_succ hne).mpr (Or.inr ⟨p, x, c2, r1, r2, q1, rfl⟩))
        exact g2 p x r1 r2 h2 (by omega)
theorem greedy_row {n : Nat} (h1000 : ∀ k p, p ∈ S k → p < 1000) {rs : Nat → Nat → Nat} (hrs : ∀ j p, j < n → p ∈ S j → Rest S of lg ls en n j p (rs j p)) {ρ : Nat → Nat} {l : Nat → Option (Nat × Nat)} {due : Nat → Nat} (hg : Greedy S of lg ls n rs ρ l due) (h0 : Lst MF (sset S of lg ls en n 0 (l 0)) (due 0)) (hd : due 0 < MF) : ∀ m k, k + m = n → sx S of lg ls en ρ m k (l k) (due k) := by
  intro m
  induction m with
  | zero =>
    intro k hk
    obtain ⟨a, b⟩ := greedy_lst h1000 hrs hg h0 hd k (by omega)
    rw [show n - k = 0 by omega] at a
    exact sset_zero.mp (a.1 b)
  | succ m ih =>
    intro k hk
    have h := ih (k + 1) (by omega)
    obtain ⟨a, b⟩ := greedy_lst h1000 hrs hg h0 hd k (by omega)
    obtain ⟨a', b'⟩ := greedy_lst h1000 hrs hg h0 hd (k + 1) (by omega)
    rcases hg k (by omega) with ⟨g1, ⟨x, g2, g3, g4⟩, g5, g6, g7⟩ | ⟨g1, g2, g3, g4⟩
    · rw [g6, g7] at h
      obtain ⟨c', r1, r2⟩ := (hrs k (ρ k) (by omega) g1).1 g3
      exact Or.inr ⟨by have := h1000 k _ g1; omega, g1, x, _, g2, h, by omega⟩
    · rw [g3, g4] at h
      refine Or.inl ⟨g1, _, h, ?_⟩
      rw [show n - k = (n - (k + 1)) + 1 by omega] at a
      have hin := a.1 b
      rw [sset_succ (fun p hp => by have := h1000 k p hp; omega)] at hin
      rcases hin with ⟨c', r1, r2⟩ | ⟨p, x, c', r1, r2, r3, r4⟩
      · omega
      · exfalso
        have hr := hrs k p (by omega) r1
        have h1 := hr.2.1 (of k p + c') ⟨c', by rw [show n - k - 1 = n - (k + 1) by omega]; exact r3, rfl⟩
        have h2 : rs k p < MF := by omega
        obtain ⟨c2, q1, q2⟩ := hr.1 h2
        rw [show n - k - 1 = n - (k + 1) by omega] at q1
        have h3 := a.2.1 (x + of k p + c2) ((sset_succ (fun p hp => by have := h1000 k p hp; omega)).mpr (Or.inr ⟨p, x, c2, r1, r2, q1, rfl⟩))
        exact g2 p x r1 r2 h2 (by omega)
theorem greedy_first {n : Nat} (h1000 : ∀ k p, p ∈ S k → p < 1000) {rs : Nat → Nat → Nat} (hrs : ∀ j p, j < n → p ∈ S j → Rest S of lg ls en n j p (rs j p)) {ρ : Nat → Nat} {l : Nat → Option (Nat × Nat)} {due : Nat → Nat} (hg : Greedy S of lg ls n rs ρ l due) (h0 : Lst MF (sset S of lg ls en n 0 (l 0)) (due 0)) (hd : due 0 < MF) {ρ' : Nat → Nat} : ∀ m k, k + m = n → (∀ j, j < k → ρ j = ρ' j) → sx S of lg ls en ρ' m k (l k) (due k) → lexle n ρ ρ' := by
  intro m
  induction m with
  | zero => intro k hk h _; exact Or.inl fun j hj => h j (by omega)
  | succ m ih =>
    intro k hk hp h
    obtain ⟨a, b⟩ := greedy_lst h1000 hrs hg h0 hd k (by omega)
    rw [show n - k = m + 1 by omega] at a
    have hne : ∀ p, p ∈ S k → p ≠ 1000 := fun p hp => by have := h1000 k p hp; omega
    have go : ρ k = ρ' k → sx S of lg ls en ρ' m (k + 1) (l (k + 1)) (due (k + 1)) → lexle n ρ ρ' := fun e h' => ih (k + 1) (by omega) (fun j hj => by
      rcases (show j < k ∨ j = k by omega) with z | z
      · exact hp j z
      · rw [z]; exact e) h'
    -- a spot that the other row takes here is one that costs what is due
    have tight : ∀ x c', ρ' k ∈ S k → lgo lg (l k) k (ρ' k) = some x → sx S of lg ls en ρ' m (k + 1) (some (k, ρ' k)) c' → due k = x + of k (ρ' k) + c' → rs k (ρ' k) < MF ∧ x + rs k (ρ' k) = due k ∧ c' = rs k (ρ' k) - of k (ρ' k) := by
      intro x c' h2 h3 h4 h5
      have hr := hrs k (ρ' k) (by omega) h2
      have e : Rest S of lg ls en n k (ρ' k) (rs k (ρ' k)) := hr
      unfold Rest at e
      rw [show n - k - 1 = m by omega] at e
      have h6 := e.2.1 (of k (ρ' k) + c') ⟨c', ⟨ρ', h4⟩, rfl⟩
      have h7 : rs k (ρ' k) < MF := by omega
      obtain ⟨c2, q1, q2⟩ := e.1 h7
      have h8 := a.2.1 (x + of k (ρ' k) + c2) ((sset_succ hne).mpr (Or.inr ⟨ρ' k, x, c2, h2, h3, q1, rfl⟩))
      exact ⟨h7, by omega, by omega⟩
    rcases hg k (by omega) with ⟨g1, ⟨x, g2, g3, g4⟩, g5, g6, g7⟩ | ⟨g1, g2, g3, g4⟩
    · rcases h with ⟨h1, _⟩ | ⟨h1, h2, y, c', h3, h4, h5⟩
      · exact Or.inr ⟨k, by omega, hp, by rw [h1]; exact h1000 k _ g1⟩
      · obtain ⟨t1, t2, t3⟩ := tight y c' h2 h3 h4 h5
        rcases (show ρ k < ρ' k ∨ ρ k = ρ' k ∨ ρ' k < ρ k by omega) with z | z | z
        · exact Or.inr ⟨k, by omega, hp, z⟩
        · refine go z ?_
          rw [g6, g7, z, ← t3]; exact h4
        · exact absurd t2 (g5 _ y h2 z h3 t1)
    · rcases h with ⟨h1, c', h2, h3⟩ | ⟨h1, h2, y, c', h3, h4, h5⟩
      · refine go (by rw [g1, h1]) ?_
        rw [g3, g4, show due k - ls = c' by omega]; exact h2
      · obtain ⟨t1, t2, t3⟩ := tight y c' h2 h3 h4 h5
        exact absurd t2 (g2 _ y h2 h3 t1)
end Rows2
