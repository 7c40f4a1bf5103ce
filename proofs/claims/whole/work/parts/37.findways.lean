-- pure: the reference's findWays (own work)
/-- its table holds the least ways -/
def WM (σ : ST) (N : NET) (n : Nat) : Prop := ∀ p q, p < n → q < 5 * nR N → WaySpec N p q (wayOf N p q) ∧ At2 σ (150 * p + q) (wayOf N p q)
abbrev PW : Nat → Nat → Prop := fun a b => (15 ≤ a ∧ a ≤ 18) ∨ (a = 0 ∧ b = 20)
theorem At2.fr {P : Nat → Nat → Prop} {σ σ' : ST} {a v : Nat} (h : At2 σ a v) (hF : Fr P σ σ') (hP : ¬ P 15 a ∧ ¬ P 16 a) : At2 σ' a v := ⟨(hF.1 15 a hP.1).trans h.1, (hF.1 16 a hP.2).trans h.2.1, h.2.2⟩
theorem fw_inner {N : NET} {c : Nat → Nat} (hNw : WFN N) (hsm : Small c) {p : Nat} (hp : p < 5 * nR N) (hsol : Sol N BB INF (iniP N p) c) (k : Int32 → ST → Option (Unit × ST)) : ∀ (j q : Nat) (σ : ST) (n : Nat), q + j = 5 * nR N → j < n → NM σ N → CMs σ c → (∀ q', q' < q → WaySpec N p q' (wayOf N p q') ∧ At2 σ (150 * p + q') (wayOf N p q')) → ∃ σ', fX5_findWays_L27 k n (nI p) (nI q) σ = k (nI (p + 1)) σ' ∧ (∀ q', q' < 5 * nR N → WaySpec N p q' (wayOf N p q') ∧ At2 σ' (150 * p + q') (wayOf N p q')) ∧ Fr (fun a b => (a = 15 ∨ a = 16) ∧ 150 * p ≤ b ∧ b < 150 * p + 150) σ σ' := by
  have hR := hNw.1
  intro j
  induction j with
  | zero =>
    intro q σ n hq hn hN hc h
    obtain ⟨n, rfl⟩ : ∃ m, n = m + 1 := ⟨n - 1, by omega⟩
    refine ⟨σ, ?_, fun q' hq' => h q' (by omega), Fr.rf⟩
    rw [uX5_findWays_L27]
    unfold fX5_findWays_B27
    rw [hN.2.1, show (5 : Int32) * nI (nR N) = nI (5 * nR N) from pk_mul 5 _, if_pos (by rw [le_nI (by omega) (by omega)]; omega)]
    simp only [bindv, zl1, nI_add]
  | succ j ih =>
    intro q σ n hq hn hN hc h
    obtain ⟨n, rfl⟩ : ∃ m, n = m + 1 := ⟨n - 1, by omega⟩
    obtain ⟨σ1, w, q1, q2, q3, q4⟩ := M_reach hN hc hsm hp (show q < 5 * nR N by omega) hsol
    have hw := wayOf_eq hNw q2
    subst hw
    have hF : Fr (fun a b => (a = 15 ∨ a = 16) ∧ 150 * p ≤ b ∧ b < 150 * p + 150) σ σ1 := q4.mono (fun a b z => ⟨z.1, by have := z.2; omega, by have := z.2; omega⟩)
    obtain ⟨σ', p1, p2, p3⟩ := ih (q + 1) σ1 n (by omega) (by omega) (hN.fr q4 (fun a b z => by rcases z.1 with z | z <;> omega)) (hc.fr q4 (fun a b z => by rcases z.1 with z | z <;> omega)) (fun q' hq' => by
      by_cases e : q' = q
      · subst e; exact ⟨q2, q3⟩
      · obtain ⟨g1, g2⟩ := h q' (by omega)
        exact ⟨g1, g2.fr q4 ⟨fun z => by have := z.2; omega, fun z => by have := z.2; omega⟩⟩)
    refine ⟨σ', ?_, p2, hF.tr p3⟩
    rw [uX5_findWays_L27]
    unfold fX5_findWays_B27
    rw [hN.2.1, show (5 : Int32) * nI (nR N) = nI (5 * nR N) from pk_mul 5 _, if_neg (by rw [le_nI (by omega) (by omega)]; omega), q1]
    simp only [cb, Option.bind_some, bindv, zl1, nI_add]
    exact p1
theorem fw_outer {N : NET} (hNw : WFN N) : ∀ (j p : Nat) (σ : ST) (n : Nat), p + j = 5 * nR N → j < n → NM σ N → WM σ N p → ∃ σ', fX5_findWays_L10 n (nI p) σ = some ((), σ') ∧ WM σ' N (5 * nR N) ∧ σ'.1 0 20 = 1 ∧ Fr PW σ σ' := by
  have hR := hNw.1
  intro j
  induction j with
  | zero =>
    intro p σ n hp hn hN h
    obtain ⟨n, rfl⟩ : ∃ m, n = m + 1 := ⟨n - 1, by omega⟩
    have hF : Fr PW σ (stI σ 0 20 1) := Fr.rf.st (Or.inr ⟨rfl, rfl⟩)
    refine ⟨stI σ 0 20 1, ?_, fun p' q' hp' hq' => ?_, st_at _ _ _ _, hF⟩
    · rw [uX5_findWays_L10]
      unfold fX5_findWays_B10
      rw [hN.2.1, show (5 : Int32) * nI (nR N) = nI (5 * nR N) from pk_mul 5 _, if_pos (by rw [le_nI (by omega) (by omega)]; omega)]
      rfl
    · obtain ⟨g1, g2⟩ := h p' q' (by omega) hq'
      exact ⟨g1, (st_cell _ _ _ (by decide)).trans g2.1, (st_cell _ _ _ (by decide)).trans g2.2.1, g2.2.2⟩
  | succ j ih =>
    intro p σ n hp hn hN h
    obtain ⟨n, rfl⟩ : ∃ m, n = m + 1 := ⟨n - 1, by omega⟩
    obtain ⟨c, σ1, q1, q2, q3, q4, q5⟩ := M_comeFrom hN (show p < 5 * nR N by omega)
    have hN1 := hN.fr q3 (fun a b h => by rcases h with h | h <;> omega)
    obtain ⟨n100, hn100⟩ := FU_add 200 (by decide)
    obtain ⟨σ2, p1, p2, p3⟩ := fw_inner hNw q5.small (show p < 5 * nR N by omega) q4 (fun l1 σ => fX5_findWays_L10 n l1 σ) (5 * nR N) 0 σ1 FU (by omega) (by rw [hn100]; omega) hN1 q2 (fun q' hq' => by omega)
    have hF : Fr PW σ σ2 := (q3.mono (fun a b z => Or.inl (by rcases z with z | z <;> omega))).tr (p3.mono (fun a b z => Or.inl (by rcases z.1 with z | z <;> omega)))
    obtain ⟨σ', r1, r2, r3, r4⟩ := ih (p + 1) σ2 n (by omega) (by omega) (hN.fr hF (fun a b z => by rcases z with z | z <;> omega)) (fun p' q' hp' hq' => by
      by_cases e : p' = p
      · subst e; exact p2 q' hq'
      · obtain ⟨g1, g2⟩ := h p' q' (by omega) hq'
        refine ⟨g1, (g2.fr q3 ⟨fun z => by rcases z with z | z <;> omega, fun z => by rcases z with z | z <;> omega⟩).fr p3 ⟨fun z => by have := z.2; omega, fun z => by have := z.2; omega⟩⟩)
    refine ⟨σ', ?_, r2, r3, hF.tr r4⟩
    rw [uX5_findWays_L10]
    unfold fX5_findWays_B10
    rw [hN.2.1, show (5 : Int32) * nI (nR N) = nI (5 * nR N) from pk_mul 5 _, if_neg (by rw [le_nI (by omega) (by omega)]; omega), q1]
    simp only [cb, Option.bind_some]
    rw [zl0, p1]
    exact r1
/-- the reference's ways are found, or not yet -/
def CWM (σ : ST) (N : NET) : Prop := σ.1 0 20 = 0 ∨ (σ.1 0 20 = 1 ∧ WM σ N (5 * nR N))
theorem M_findWays {σ : ST} {N : NET} (hN : NM σ N) (hc : CWM σ N) : ∃ σ', fX5_findWays σ = some ((), σ') ∧ WM σ' N (5 * nR N) ∧ σ'.1 0 20 = 1 ∧ Fr PW σ σ' := by
  have hR := hN.1.1
  unfold fX5_findWays
  rcases hc with h | ⟨h1, h2⟩
  · rw [if_pos h, zl0]
    obtain ⟨n, hn⟩ := FU_add 200 (by decide)
    exact fw_outer hN.1 (5 * nR N) 0 σ FU (by omega) (by rw [hn]; omega) hN (fun p q hp => by omega)
  · rw [if_neg (by rw [h1]; decide)]
    exact ⟨σ, rfl, h2, h1, Fr.rf⟩
