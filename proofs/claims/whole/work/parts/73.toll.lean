-- pure: toll, speed (own work)
section TollP
variable {N : NET} {A : AS} {d : Nat}
/-- the next sight from k on that is not left out -/
def Nx (ρ : Nat → Nat) (n k : Nat) (o : Option Nat) : Prop := match o with
  | none => ∀ j, k ≤ j → j < n → ρ j = 1000
  | some j => k ≤ j ∧ j < n ∧ ρ j ≠ 1000 ∧ ∀ x, k ≤ x → x < j → ρ x = 1000
noncomputable def feeW (N : NET) (p q : Nat) : Nat := wayOf N p q % 1000000000
noncomputable def pend (N : NET) (ρ : Nat → Nat) (l o : Option Nat) : Nat := match l, o with
  | some e, some j => feeW N (ρ e) (ρ j)
  | _, _ => 0
noncomputable def tf (N : NET) (ρ : Nat → Nat) : Nat → Option Nat × Nat
  | 0 => (none, 0)
  | k + 1 => if ρ k = 1000 then tf N ρ k else (some k, (tf N ρ k).2 + pend N ρ (tf N ρ k).1 (some k))
theorem tf_last {ρ : Nat → Nat} : ∀ k e, (tf N ρ k).1 = some e → e < k ∧ ρ e ≠ 1000 := by
  intro k
  induction k with
  | zero => intro e h; cases h
  | succ k ih =>
    intro e h
    by_cases hl : ρ k = 1000
    · have : tf N ρ (k + 1) = tf N ρ k := if_pos hl
      rw [this] at h
      have := ih e h
      exact ⟨by omega, this.2⟩
    · have : tf N ρ (k + 1) = _ := if_neg hl
      rw [this] at h
      cases h
      exact ⟨by omega, hl⟩
theorem X_leastv {σ : ST} (hN : NX σ N) (hK : KX σ N) {p q : Nat} (hp : p < 5 * nR N) (hq : q < 5 * nR N) : ∃ v σ', fX3_least (nI p) (nI q) σ = some (nI v, σ') ∧ KX σ' N ∧ Fr PK σ σ' ∧ ((v < 2000000000 ∧ wayOf N p q / 1000000000 = v / 10000 ∧ wayOf N p q % 1000000000 = v % 10000) ∨ (v = 2000000000 ∧ wayOf N p q / 1000000000 = 1000000000 ∧ wayOf N p q % 1000000000 = 0)) := by
  obtain ⟨v, σ', k1, k2, k3, k4, k5⟩ := X_least hN hK hp hq
  have hw := wayOf_eq hN.1 k3
  have hFX : FX = 2000000000 := rfl
  have hINF : INF = 1000000000000000000 := rfl
  refine ⟨v, σ', k1, k4, k5, ?_⟩
  rw [hw]
  unfold cnv
  by_cases hv : v < 2000000000
  · rw [if_pos hv]
    exact Or.inl ⟨hv, by omega, by omega⟩
  · rw [if_neg hv]
    exact Or.inr ⟨by omega, by omega, by omega⟩
theorem X_nextL (hA : WFA N A) (hd : d < A 3 0) {σ : ST} (h15 : σ.1 3 15 = nI (A 4 d)) {ρ : Nat → Nat} (h20c : ∀ j, j < A 4 d → σ.1 20 j = lcode (ρ j) ∧ ρ j ≤ 1000) : ∀ (m k n : Nat), k + m = A 4 d → m < n → ∃ o, fX1_nextNotLeft_L4 n (nI k) σ = some (lo o, σ) ∧ Nx ρ (A 4 d) k o := by
  have h20 := (hA.2.1.2 d hd).1
  intro m
  induction m with
  | zero =>
    intro k n hk hn
    obtain ⟨n, rfl⟩ : ∃ m, n = m + 1 := ⟨n - 1, by omega⟩
    refine ⟨none, ?_, fun j h1 h2 => by omega⟩
    rw [uX1_nextNotLeft_L4]
    unfold fX1_nextNotLeft_B4
    rw [h15, if_pos (show nI (A 4 d) ≤ nI k by rw [le_nI (by omega) (by omega)]; omega)]
    rfl
  | succ m ih =>
    intro k n hk hn
    obtain ⟨n, rfl⟩ : ∃ m, n = m + 1 := ⟨n - 1, by omega⟩
    obtain ⟨r1, r2⟩ := h20c k (by omega)
    rw [uX1_nextNotLeft_L4]
    unfold fX1_nextNotLeft_B4
    rw [h15, if_neg (show ¬ nI (A 4 d) ≤ nI k by rw [le_nI (by omega) (by omega)]; omega), if_pos (ib_nI (show k < 20 by omega) (by decide)), cl_nI (by omega), r1]
    by_cases hl : ρ k = 1000
    · rw [if_pos (show lcode (ρ k) = -5 by rw [hl]; rfl)]
      simp only [bindv, nI_1]
      obtain ⟨o, q1, q2⟩ := ih (k + 1) n (by omega) (by omega)
      refine ⟨o, q1, ?_⟩
      cases o with
      | none =>
        exact fun j h1 h2 => by
          by_cases e : j = k
          · rw [e]; exact hl
          · exact q2 j (by omega) h2
      | some j =>
        obtain ⟨z1, z2, z3, z4⟩ := q2
        exact ⟨by omega, z2, z3, fun x h1 h2 => by
          by_cases e : x = k
          · rw [e]; exact hl
          · exact z4 x (by omega) h2⟩
    · rw [if_neg (show ¬ lcode (ρ k) = -5 by rw [lcode_n (by omega)]; exact ne_m5 (by omega))]
      exact ⟨some k, rfl, Nat.le_refl _, by omega, hl, fun x h1 h2 => by omega⟩
theorem X_next (hA : WFA N A) (hd : d < A 3 0) {σ : ST} (h15 : σ.1 3 15 = nI (A 4 d)) {ρ : Nat → Nat} (h20c : ∀ j, j < A 4 d → σ.1 20 j = lcode (ρ j) ∧ ρ j ≤ 1000) {k : Nat} (hk : k < A 4 d) : ∃ o, fX1_nextNotLeft (nI k) σ = some (lo o, σ) ∧ Nx ρ (A 4 d) (k + 1) o := by
  have h20 := (hA.2.1.2 d hd).1
  obtain ⟨f40, hf40⟩ := FU_add 40 (by decide)
  unfold fX1_nextNotLeft
  simp only [bindv, nI_1]
  exact X_nextL hA hd h15 h20c (A 4 d - (k + 1)) (k + 1) FU (by omega) (by rw [hf40]; omega)
theorem X_tollL (hA : WFA N A) (hd : d < A 3 0) {ρ : Nat → Nat} (hρ : ∀ j, j < A 4 d → ρ j < 5 * nR N ∨ ρ j = 1000) : ∀ (m k n : Nat) (o : Option Nat) (σ : ST), k + m = A 4 d → m < n → GD σ N A d → (∀ j, j < A 4 d → σ.1 20 j = lcode (ρ j)) → Nx ρ (A 4 d) k o → ∃ σ', fX1_feesOfLeastRow_L4 n (nI ((tf N ρ k).2 + pend N ρ (tf N ρ k).1 o)) (nI k) σ = some (nI (tf N ρ (A 4 d)).2, σ') ∧ GD σ' N A d := by
  have h20 := (hA.2.1.2 d hd).1
  intro m
  induction m with
  | zero =>
    intro k n o σ hk hn hG h20c ho
    obtain ⟨n, rfl⟩ : ∃ m, n = m + 1 := ⟨n - 1, by omega⟩
    have : k = A 4 d := by omega
    subst this
    refine ⟨σ, ?_, hG⟩
    have hp : pend N ρ (tf N ρ (A 4 d)).1 o = 0 := by
      cases o with
      | none => cases (tf N ρ (A 4 d)).1 <;> rfl
      | some j => obtain ⟨z1, z2, -⟩ := ho; omega
    rw [uX1_feesOfLeastRow_L4]
    unfold fX1_feesOfLeastRow_B4
    rw [hG.2.2.2.2.2.2.1, if_pos (show nI (A 4 d) ≤ nI (A 4 d) by rw [le_nI (by omega) (by omega)]; omega), hp, Nat.add_zero]
  | succ m ih =>
    intro k n o σ hk hn hG h20c ho
    obtain ⟨n, rfl⟩ : ∃ m, n = m + 1 := ⟨n - 1, by omega⟩
    have hRb := hG.1.1.1
    have h15 := hG.2.2.2.2.2.2.1
    have hk' : k < A 4 d := by omega
    obtain ⟨o1, n1, n2⟩ := X_next hA hd h15 (fun j hj => ⟨h20c j hj, by have := hρ j hj; omega⟩) hk'
    rw [uX1_feesOfLeastRow_L4]
    unfold fX1_feesOfLeastRow_B4 fX1_feesOfLeastRow_J73 fX1_feesOfLeastRow_J75
    rw [h15, if_neg (show ¬ nI (A 4 d) ≤ nI k by rw [le_nI (by omega) (by omega)]; omega), n1]
    simp only [cb, Option.bind_some, ib_nI (show k < 20 by omega) (by decide), cl_nI (show k < 2147483648 by omega), ↓reduceIte, h20c k hk', bindv, nI_1]
    by_cases hl : ρ k = 1000
    · rw [if_pos (show lcode (ρ k) = -5 by rw [hl]; rfl)]
      have ht : tf N ρ (k + 1) = tf N ρ k := if_pos hl
      rw [← ht]
      refine ih (k + 1) n o σ (by omega) (by omega) hG h20c ?_
      cases o with
      | none => exact fun j h1 h2 => ho j (by omega) h2
      | some j =>
        obtain ⟨z1, z2, z3, z4⟩ := ho
        have : j ≠ k := fun e => z3 (by rw [e]; exact hl)
        exact ⟨by omega, z2, z3, fun x h1 h2 => z4 x (by omega) h2⟩
    · have hok : o = some k := by
        cases o with
        | none => exact absurd (ho k (Nat.le_refl _) hk') hl
        | some j =>
          obtain ⟨z1, z2, z3, z4⟩ := ho
          by_cases e : k < j
          · exact absurd (z4 k (Nat.le_refl _) e) hl
          · have : j = k := by omega
            rw [this]
      subst hok
      have ht : tf N ρ (k + 1) = (some k, (tf N ρ k).2 + pend N ρ (tf N ρ k).1 (some k)) := if_neg hl
      have hp := (hρ k hk').resolve_right hl
      rw [if_neg (show ¬ lcode (ρ k) = -5 by rw [lcode_n (by omega)]; exact ne_m5 (by omega))]
      cases o1 with
      | none =>
        rw [if_pos (show lo none = -1 from rfl)]
        have := ih (k + 1) n none σ (by omega) (by omega) hG h20c n2
        rw [ht] at this
        exact this
      | some j =>
        obtain ⟨z1, z2, z3, z4⟩ := id n2
        have hq := (hρ j z2).resolve_right z3
        rw [if_neg (show ¬ lo (some j) = -1 from ne_m1 (by omega))]
        obtain ⟨v, σ1, p1, p2, p3, p4⟩ := X_leastv hG.1 hG.2.1 hp hq
        have hG1 : GD σ1 N A d := hG.fr (p3.mono (fun a b z => by omega)) p2
        simp only [show lo (some j) = nI j from rfl, ib_nI (show j < 20 by omega) (by decide), cl_nI (show j < 2147483648 by omega), ↓reduceIte, h20c j z2, lcode_n (show ρ k < 1000 by omega), lcode_n (show ρ j < 1000 by omega), p1, Option.bind_some]
        have hfin := ih (k + 1) n (some j) σ1 (by omega) (by omega) hG1 (fun x hx => (p3.1 20 x (by omega)).trans (h20c x hx)) n2
        rw [ht] at hfin
        have hfin' : ∃ σ', fX1_feesOfLeastRow_L4 n (nI ((tf N ρ k).2 + pend N ρ (tf N ρ k).1 (some k) + wayOf N (ρ k) (ρ j) % 1000000000)) (nI (k + 1)) σ1 = some (nI (tf N ρ (A 4 d)).2, σ') ∧ GD σ' N A d := hfin
        rcases p4 with ⟨y1, y2, y3⟩ | ⟨y1, y2, y3⟩
        · rw [if_neg (show ¬ nI v = 2000000000 by rw [show (2000000000 : Int32) = nI 2000000000 from rfl, eq_nI (by omega) (by omega)]; omega), show nI v - nI v / 10000 * 10000 = nI (v % 10000) from rem_nI (d := 10000) (by omega) (by decide) (by decide), nI_add, ← y3]
          exact hfin'
        · rw [if_pos (show nI v = 2000000000 by rw [y1]; rfl), zl0, nI_add, ← y3]
          exact hfin'
def lpo (ρ : Nat → Nat) (l : Option Nat) : Int32 := match l with
  | none => -1
  | some e => nI (ρ e)
theorem M_tollL (hA : WFA N A) (hd : d < A 3 0) {ρ : Nat → Nat} (hρ : ∀ j, j < A 4 d → ρ j < 5 * nR N ∨ ρ j = 1000) {σ : ST} (hB : MB σ N A d) (h22 : ∀ j, j < A 4 d → σ.1 22 j = lcode (ρ j)) : ∀ (m k n : Nat), k + m = A 4 d → m < n → fX5_toll_L22 n (nI d) (nI (tf N ρ k).2) (lpo ρ (tf N ρ k).1) (nI k) σ = some (nI (tf N ρ (A 4 d)).2, σ) := by
  have h20 := (hA.2.1.2 d hd).1
  have h6 := hA.2.1.1
  have e13 := hB.2.1.2.1.2.1 d (by omega)
  rw [if_pos hd] at e13
  have hRb := hB.1.1.1
  intro m
  induction m with
  | zero =>
    intro k n hk hn
    obtain ⟨n, rfl⟩ : ∃ m, n = m + 1 := ⟨n - 1, by omega⟩
    have : k = A 4 d := by omega
    subst this
    rw [uX5_toll_L22]
    unfold fX5_toll_B22
    rw [if_pos (ib_nI (show d < 6 by omega) (by decide)), cl_nI (by omega), e13, if_pos (show nI (A 4 d) ≤ nI (A 4 d) by rw [le_nI (by omega) (by omega)]; omega)]
  | succ m ih =>
    intro k n hk hn
    obtain ⟨n, rfl⟩ : ∃ m, n = m + 1 := ⟨n - 1, by omega⟩
    have hk' : k < A 4 d := by omega
    rw [uX5_toll_L22]
    unfold fX5_toll_B22 fX5_toll_J72 fX5_toll_J82
    rw [if_pos (ib_nI (show d < 6 by omega) (by decide)), cl_nI (by omega), e13, if_neg (show ¬ nI (A 4 d) ≤ nI k by rw [le_nI (by omega) (by omega)]; omega)]
    simp only [ib_nI (show k < 20 by omega) (by decide), cl_nI (show k < 2147483648 by omega), ↓reduceIte, h22 k hk', bindv, nI_1]
    have hn := ih (k + 1) n (by omega) (by omega)
    by_cases hl : ρ k = 1000
    · rw [if_pos (show lcode (ρ k) = -5 by rw [hl]; rfl)]
      have ht : tf N ρ (k + 1) = tf N ρ k := if_pos hl
      rw [ht] at hn
      exact hn
    · have ht : tf N ρ (k + 1) = (some k, (tf N ρ k).2 + pend N ρ (tf N ρ k).1 (some k)) := if_neg hl
      have hp := (hρ k hk').resolve_right hl
      rw [ht] at hn
      have hlc : lcode (ρ k) = nI (ρ k) := lcode_n (by omega)
      rw [hlc, if_neg (ne_m5 (by omega))]
      cases hlst : (tf N ρ k).1 with
      | none =>
        rw [hlst] at hn
        rw [if_neg (show ¬ (0 : Int32) ≤ lpo ρ none from (show ¬ (0 : Int32) ≤ -1 by decide)), zl0, nI_add]
        exact hn
      | some e =>
        obtain ⟨he1, he2⟩ := tf_last k e hlst
        have hpe := (hρ e (by omega)).resolve_right he2
        rw [hlst] at hn
        obtain ⟨-, w1, w2, w3⟩ := hB.2.2.1 (ρ e) (ρ k) hpe hp
        have hx : (150 : Int32) * nI (ρ e) + nI (ρ k) = nI (150 * ρ e + ρ k) := by rw [show (150 : Int32) * nI (ρ e) = nI (150 * ρ e) from pk_mul 150 _, nI_add]
        rw [show lpo ρ (some e) = nI (ρ e) from rfl, if_pos (show (0 : Int32) ≤ nI (ρ e) by rw [zl0, le_nI (by omega) (by omega)]; omega), hx, if_pos (ib_nI (show 150 * ρ e + ρ k < 22500 by omega) (by decide)), cl_nI (by omega), w2, nI_add]
        exact hn
theorem row_val {c : Nat} {ρ : Nat → Nat} {en : Option (Nat × Nat)} (h : EndR (spL N A d) (ofD N A d) (lgD N A d) (A 5 1) (A 4 d) en c ρ) : ∀ j, j < A 4 d → ρ j < 5 * nR N ∨ ρ j = 1000 := by
  obtain ⟨⟨l, h1, -⟩, -⟩ := h
  intro j hj
  rcases ev_val _ _ _ h1 j hj with z | z
  · exact Or.inr z
  · exact Or.inl (spL_lt z)
theorem nx_ex {ρ : Nat → Nat} {n : Nat} : ∀ m k, k + m = n → ∃ o, Nx ρ n k o := by
  intro m
  induction m with
  | zero => exact fun k hk => ⟨none, fun j h1 h2 => by omega⟩
  | succ m ih =>
    intro k hk
    by_cases hl : ρ k = 1000
    · obtain ⟨o, ho⟩ := ih (k + 1) (by omega)
      refine ⟨o, ?_⟩
      cases o with
      | none =>
        exact fun j h1 h2 => by
          by_cases e : j = k
          · rw [e]; exact hl
          · exact ho j (by omega) h2
      | some j =>
        obtain ⟨z1, z2, z3, z4⟩ := ho
        exact ⟨by omega, z2, z3, fun x h1 h2 => by
          by_cases e : x = k
          · rw [e]; exact hl
          · exact z4 x (by omega) h2⟩
    · exact ⟨some k, Nat.le_refl _, by omega, hl, fun x h1 h2 => by omega⟩
theorem nx_uniq {ρ : Nat → Nat} {n k : Nat} {o o' : Option Nat} (h : Nx ρ n k o) (h' : Nx ρ n k o') : o = o' := by
  cases o with
  | none =>
    cases o' with
    | none => rfl
    | some j => obtain ⟨z1, z2, z3, -⟩ := h'; exact absurd (h j z1 z2) z3
  | some i =>
    obtain ⟨y1, y2, y3, y4⟩ := h
    cases o' with
    | none => exact absurd (h' i y1 y2) y3
    | some j =>
      obtain ⟨z1, z2, z3, z4⟩ := h'
      rcases Nat.lt_trichotomy i j with z | z | z
      · exact absurd (z4 i y1 z) y3
      · rw [z]
      · exact absurd (y4 j z1 z) z3
theorem st_toll (a : Int32) : Step InvW (fX4_toll a) (fX5_toll a) := by
  rintro σX σM ⟨N, A, hA, hX, hM⟩
  unfold fX4_toll fX5_toll
  rcases drive_cases hA hX.2.2.1 hM.2.2.1 a with ⟨d, hd, e, h1, h2⟩ | ⟨h1, h2⟩
  · subst e
    have h20 := (hA.2.1.2 d hd).1
    obtain ⟨σX1, c, ρ, p1, p2, p3, -, p5, p6, p7, -⟩ := X_settle hA hd hX
    obtain ⟨σM1, c', ρ', q1, q2, q3, q4, q5, q6, q7, -⟩ := M_lay hA hM hd
    obtain ⟨-, e1⟩ := endR_uniq p2 q2
    have hρ := row_val p2
    obtain ⟨f40, hf40⟩ := FU_add 40 (by decide)
    obtain ⟨o, ho⟩ := nx_ex (ρ := ρ) (n := A 4 d) (A 4 d) 0 (by omega)
    obtain ⟨σX2, r1, r2⟩ := X_tollL hA hd hρ (A 4 d) 0 FU o σX1 (by omega) (by rw [hf40]; omega) p7 p5 ho
    have s1 := M_tollL hA hd hρ q6 (fun j hj => by rw [q5 j hj, e1 j hj]) (A 4 d) 0 FU (by omega) (by rw [hf40]; omega)
    have hz : (tf N ρ 0).2 + pend N ρ (tf N ρ 0).1 o = 0 := by cases o <;> rfl
    rw [hz] at r1
    have r1' : fX1_feesOfLeastRow σX1 = some (nI (tf N ρ (A 4 d)).2, σX2) := r1
    have s1' : fX5_toll_L22 FU (nI d) 0 (-1) 0 σM1 = some (nI (tf N ρ (A 4 d)).2, σM1) := s1
    refine ⟨nI (tf N ρ (A 4 d)).2, σX2, σM1, ?_, ?_, N, A, hA, r2.gx, q7⟩
    · rw [h1]; simp only [cb, Option.bind_some, Option.elim, p1, r1']
    · rw [h2]; simp only [cb, Option.bind_some]
      rw [if_neg (show ¬ (1 : Int32) = 0 by decide), q1]; simp only [Option.bind_some, s1']
  · refine ⟨-1, σX, σM, ?_, ?_, N, A, hA, hX, hM⟩
    · rw [h1]; simp only [cb, Option.bind_some, Option.elim]
    · rw [h2]; simp only [cb, Option.bind_some, ↓reduceIte]
theorem ev_pre {S : Nat → List Nat} {of : Nat → Nat → Nat} {lg : Nat → Nat → Nat → Nat → Option Nat} {ls : Nat} {ρ : Nat → Nat} {n k : Nat} {q : Option Nat × Nat} (h : ev S of lg ls ρ n = some q) (hk : k ≤ n) : ∃ l c, ev S of lg ls ρ k = some (l, c) := by
  cases he : ev S of lg ls ρ k with
  | none =>
    have := ev_stop he (n - k)
    rw [show k + (n - k) = n by omega, h] at this
    cases this
  | some x => exact ⟨x.1, x.2, rfl⟩
/-- a row's legs are ways -/
theorem ev_leg {S : Nat → List Nat} {of : Nat → Nat → Nat} {lg : Nat → Nat → Nat → Nat → Option Nat} {ls : Nat} {ρ : Nat → Nat} {n s j : Nat} {q : Option Nat × Nat} (h : ev S of lg ls ρ n = some q) (hs : ρ s ≠ 1000) (hj : Nx ρ n (s + 1) (some j)) : ∃ x, lg s (ρ s) j (ρ j) = some x := by
  obtain ⟨z1, z2, z3, z4⟩ := hj
  obtain ⟨l, c, h1⟩ := ev_pre h (show j + 1 ≤ n by omega)
  obtain ⟨l0, c0, h2, h3⟩ := ev_inv h1
  rcases h3 with ⟨y, -⟩ | ⟨-, -, -, y⟩
  · exact absurd y z3
  · rcases y with ⟨y, -⟩ | ⟨e, x, y1, y2, -⟩
    · exact absurd (((ev_last h2).1 y).1 s (by omega)) hs
    · obtain ⟨u1, u2, -, u4, -⟩ := (ev_last h2).2 e y1
      have : e = s := by
        rcases Nat.lt_trichotomy e s with w | w | w
        · exact absurd (u4 s w (by omega)) hs
        · exact w
        · exact absurd (z4 e (by omega) u1) u2
      rw [this] at y2
      exact ⟨x, y2⟩
theorem M_speedL (hA : WFA N A) (hd : d < A 3 0) {ρ : Nat → Nat} (hρ : ∀ j, j < A 4 d → ρ j < 5 * nR N ∨ ρ j = 1000) {σ : ST} (hB : MB σ N A d) (h22 : ∀ j, j < A 4 d → σ.1 22 j = lcode (ρ j)) (s : Int32) : ∀ (m k n : Nat), k + m = A 4 d → m < n → ∃ o, fX5_speed_L20 n (nI d) s (nI k) σ = fX5_speed_J47 (nI d) s (nI (o.getD (A 4 d))) σ ∧ Nx ρ (A 4 d) k o := by
  have h20 := (hA.2.1.2 d hd).1
  have h6 := hA.2.1.1
  have e13 := hB.2.1.2.1.2.1 d (by omega)
  rw [if_pos hd] at e13
  have hRb := hB.1.1.1
  intro m
  induction m with
  | zero =>
    intro k n hk hn
    obtain ⟨n, rfl⟩ : ∃ m, n = m + 1 := ⟨n - 1, by omega⟩
    have : k = A 4 d := by omega
    subst this
    refine ⟨none, ?_, fun j h1 h2 => by omega⟩
    rw [uX5_speed_L20]
    unfold fX5_speed_B20
    rw [if_pos (ib_nI (show d < 6 by omega) (by decide)), cl_nI (by omega), e13, if_pos (show nI (A 4 d) ≤ nI (A 4 d) by rw [le_nI (by omega) (by omega)]; omega)]
    rfl
  | succ m ih =>
    intro k n hk hn
    obtain ⟨n, rfl⟩ : ∃ m, n = m + 1 := ⟨n - 1, by omega⟩
    have hk' : k < A 4 d := by omega
    rw [uX5_speed_L20]
    unfold fX5_speed_B20
    rw [if_pos (ib_nI (show d < 6 by omega) (by decide)), cl_nI (by omega), e13, if_neg (show ¬ nI (A 4 d) ≤ nI k by rw [le_nI (by omega) (by omega)]; omega), if_pos (ib_nI (show k < 20 by omega) (by decide)), cl_nI (by omega), h22 k hk']
    by_cases hl : ρ k = 1000
    · rw [if_pos (show lcode (ρ k) = -5 by rw [hl]; rfl)]
      simp only [bindv, nI_1]
      obtain ⟨o, q1, q2⟩ := ih (k + 1) n (by omega) (by omega)
      refine ⟨o, q1, ?_⟩
      cases o with
      | none =>
        exact fun j h1 h2 => by
          by_cases e : j = k
          · rw [e]; exact hl
          · exact q2 j (by omega) h2
      | some j =>
        obtain ⟨z1, z2, z3, z4⟩ := q2
        exact ⟨by omega, z2, z3, fun x h1 h2 => by
          by_cases e : x = k
          · rw [e]; exact hl
          · exact z4 x (by omega) h2⟩
    · have hp := (hρ k hk').resolve_right hl
      rw [if_neg (show ¬ lcode (ρ k) = -5 by rw [lcode_n (by omega)]; exact ne_m5 (by omega))]
      exact ⟨some k, rfl, Nat.le_refl _, by omega, hl, fun x h1 h2 => by omega⟩
theorem st_speed (a b : Int32) : Step InvW (fX4_speed a b) (fX5_speed a b) := by
  rintro σX σM ⟨N, A, hA, hX, hM⟩
  unfold fX4_speed fX5_speed
  rcases sight_cases hA hX.2.2.1 hM.2.2.1 a b with ⟨d, s, hd, hs, e1, e2, h1, h2, h3⟩ | ⟨h1, h3⟩
  · subst e1; subst e2
    obtain ⟨-, ⟨hd6, hdd⟩, ⟨g1, g2, g3, g4⟩, -⟩ := id hA
    obtain ⟨h20, hdx, hinc⟩ := hdd d hd
    have hRb := hX.1.1.1
    obtain ⟨σX1, c, ρ, p1, p2, p3, -, p5, p6, p7, -⟩ := X_settle hA hd hX
    obtain ⟨σM1, c', ρ', q1, q2, q3, q4, q5, q6, q7, -⟩ := M_lay hA hM hd
    obtain ⟨-, e1⟩ := endR_uniq p2 q2
    have hρ := row_val p2
    have h22 : ∀ j, j < A 4 d → σM1.1 22 j = lcode (ρ j) := fun j hj => by rw [q5 j hj, e1 j hj]
    obtain ⟨f40, hf40⟩ := FU_add 40 (by decide)
    obtain ⟨o, n1, n2⟩ := X_next hA hd p7.2.2.2.2.2.2.1 (fun j hj => ⟨p5 j hj, by have := hρ j hj; omega⟩) hs
    obtain ⟨o', m1, m2⟩ := M_speedL hA hd hρ q6 h22 (nI s) (A 4 d - (s + 1)) (s + 1) FU (by omega) (by rw [hf40]; omega)
    have := nx_uniq n2 m2
    subst this
    have e13 := q6.2.1.2.1.2.1 d (by omega)
    rw [if_pos hd] at e13
    have key : ∃ r σX2, fX1_speedBehind (nI s) σX1 = some (r, σX2) ∧ GD σX2 N A d ∧ fX5_speed_J47 (nI d) (nI s) (nI (o.getD (A 4 d))) σM1 = some (r, σM1) := by
      unfold fX1_speedBehind fX5_speed_J47
      rw [n1]
      simp only [cb, Option.bind_some, ib_nI (show s < 20 by omega) (by decide), cl_nI (show s < 2147483648 by omega), ib_nI (show d < 6 by omega) (by decide), cl_nI (show d < 2147483648 by omega), ↓reduceIte, p5 s hs, h22 s hs, e13]
      by_cases hl : ρ s = 1000
      · have : lcode (ρ s) = -5 := by rw [hl]; rfl
        rw [if_pos this, if_pos this]
        exact ⟨_, _, rfl, p7, rfl⟩
      · have hp := (hρ s hs).resolve_right hl
        have hlc : lcode (ρ s) = nI (ρ s) := lcode_n (by omega)
        rw [hlc, if_neg (ne_m5 (by omega)), if_neg (ne_m5 (by omega))]
        cases o with
        | none =>
          rw [if_pos (show lo none = -1 from rfl), if_neg (show ¬ nI ((none : Option Nat).getD (A 4 d)) < nI (A 4 d) by show ¬ nI (A 4 d) < nI (A 4 d); rw [lt_nI (by omega) (by omega)]; omega)]
          exact ⟨_, _, rfl, p7, rfl⟩
        | some j =>
          obtain ⟨z1, z2, z3, z4⟩ := id n2
          have hq := (hρ j z2).resolve_right z3
          have hlt := hinc s j (by omega) z2
          have htj := (hdx j z2).2.2.1
          obtain ⟨⟨l, ev1, -⟩, -⟩ := id p2
          obtain ⟨x, hx⟩ := ev_leg ev1 hl n2
          have hle : wayOf N (ρ s) (ρ j) / 1000000000 ≤ 4 * A 5 0 * (A (30 + d) j - A (30 + d) s) := by
            unfold lgD at hx
            by_cases z : wayOf N (ρ s) (ρ j) / 1000000000 ≤ 4 * A 5 0 * (A (30 + d) j - A (30 + d) s)
            · exact z
            · rw [if_neg z] at hx; cases hx
          have hbd : 4 * A 5 0 * (A (30 + d) j - A (30 + d) s) ≤ 400 * 10000 := Nat.mul_le_mul (by omega) (by omega)
          obtain ⟨v, σ1, k1, k2, k3, k4⟩ := X_leastv p7.1 p7.2.1 hp hq
          have hG1 : GD σ1 N A d := p7.fr (k3.mono (fun a b z => by omega)) k2
          obtain ⟨-, w1, -, -⟩ := q6.2.2.1 (ρ s) (ρ j) hp hq
          have hxx : (150 : Int32) * nI (ρ s) + nI (ρ j) = nI (150 * ρ s + ρ j) := by rw [show (150 : Int32) * nI (ρ s) = nI (150 * ρ s) from pk_mul 150 _, nI_add]
          have y1 : (20 : Int32) * nI d + nI j = nI (20 * d + j) := by rw [show (20 : Int32) * nI d = nI (20 * d) from pk_mul 20 d, nI_add]
          have y2 : (20 : Int32) * nI d + nI s = nI (20 * d + s) := by rw [show (20 : Int32) * nI d = nI (20 * d) from pk_mul 20 d, nI_add]
          have t1 := (q6.2.1.2.1.2.2 d hd j z2).2.2.1
          have t2 := (q6.2.1.2.1.2.2 d hd s hs).2.2.1
          have f4 : (4 : Int32) * nI (A (30 + d) j - A (30 + d) s) = nI (4 * (A (30 + d) j - A (30 + d) s)) := pk_mul 4 _
          have f0 : ¬ nI (4 * (A (30 + d) j - A (30 + d) s)) = 0 := by rw [zl0, eq_nI (by omega) (by omega)]; omega
          rw [if_neg (show ¬ lo (some j) = -1 from ne_m1 (by omega))]
          simp only [show lo (some j) = nI j from rfl, show (some j).getD (A 4 d) = j from rfl, ib_nI (show j < 20 by omega) (by decide), cl_nI (show j < 2147483648 by omega), ↓reduceIte, p5 j z2, h22 j z2, hlc, lcode_n (show ρ j < 1000 by omega), k1, Option.bind_some, X_ticks hA hG1 (show s < j by omega) z2, hxx, ib_nI (show 150 * ρ s + ρ j < 22500 by omega) (by decide), cl_nI (show 150 * ρ s + ρ j < 2147483648 by omega), y1, y2, ib_nI (show 20 * d + j < 120 by omega) (by decide), ib_nI (show 20 * d + s < 120 by omega) (by decide), cl_nI (show 20 * d + j < 2147483648 by omega), cl_nI (show 20 * d + s < 2147483648 by omega), t1, t2, sub_nI (show A (30 + d) s ≤ A (30 + d) j by omega), f4, f0, w1]
          rw [if_pos (show nI j < nI (A 4 d) by rw [lt_nI (by omega) (by omega)]; exact z2), if_pos (show (0 : Int32) < nI (A (30 + d) j - A (30 + d) s) by rw [zl0, lt_nI (by omega) (by omega)]; omega)]
          rcases k4 with ⟨u1, u2, -⟩ | ⟨u1, u2, -⟩
          · rw [if_neg (show ¬ nI v = 2000000000 by rw [show (2000000000 : Int32) = nI 2000000000 from rfl, eq_nI (by omega) (by omega)]; omega), show nI v / 10000 = nI (v / 10000) from div_nI (d := 10000) (by omega) (by decide) (by decide), u2]
            exact ⟨_, _, rfl, hG1, rfl⟩
          · omega
    obtain ⟨r, σX2, k1, k2, k3⟩ := key
    refine ⟨r, σX2, σM1, ?_, ?_, N, A, hA, k2.gx, q7⟩
    · rw [h1]; simp only [cb, Option.bind_some, Option.elim, isDr_of hX.2.2.1 hd, ↓reduceIte, h2]
      rw [if_neg (by decide), p1]; simp only [Option.bind_some, k1]
    · rw [h3]; simp only [cb, Option.bind_some]
      rw [if_neg (by decide), q1]; simp only [Option.bind_some, bindv, nI_1, m1, k3]
  · refine ⟨-1, σX, σM, ?_, ?_, N, A, hA, hX, hM⟩
    · rcases h1 with h1 | ⟨d, hd, h1, h2⟩
      · rw [h1]; simp only [cb, Option.bind_some, Option.elim]
      · rw [h1]; simp only [cb, Option.bind_some, Option.elim, isDr_of hX.2.2.1 hd, ↓reduceIte, h2]
    · rw [h3]; simp only [cb, Option.bind_some]
      rw [if_pos trivial]
end TollP
