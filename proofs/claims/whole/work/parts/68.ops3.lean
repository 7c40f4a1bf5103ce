-- pure: prices, drop, sight (own work)
section Ops3
variable {N : NET} {A A' : AS} {d : Nat}
theorem isDr_st (σ : ST) (a b : Nat) (x : Int32) (k : Nat) : isDr (stI σ a b x) k = isDr σ k := rfl
theorem isDr_sr (σ : ST) (a b : Nat) (x : Option Nat) (k : Nat) : isDr (stR σ a b x) k = isDr σ k := rfl
theorem isRw_st (σ : ST) (a b : Nat) (x : Int32) (k : Nat) : isRw (stI σ a b x) k = isRw σ k := rfl
theorem isRw_sr (σ : ST) (a b : Nat) (x : Option Nat) (k : Nat) : isRw (stR σ a b x) k = isRw σ k := rfl
theorem sr_1 (σ : ST) (a b : Nat) (x : Option Nat) : (stR σ a b x).1 = σ.1 := rfl
theorem NX.ff {σ σ' : ST} (h : NX σ N) (e : ∀ a b, ((a = 1 ∧ b = 3) ∨ (9 ≤ a ∧ a ≤ 14)) → σ'.1 a b = σ.1 a b) : NX σ' N := by
  obtain ⟨a1, a2, a3, a4⟩ := h
  refine ⟨a1, by rw [e 1 3 (by omega)]; exact a2, fun r hr => ?_, fun r s y1 y2 => by rw [e 12 r (by omega)]; exact a4 r s y1 y2⟩
  rw [e 9 r (by omega), e 10 r (by omega), e 11 r (by omega), e 14 _ (by omega), e 14 _ (by omega), e 13 _ (by omega), e 13 _ (by omega)]
  exact a3 r hr
theorem GX.nc {σ σ' : ST} (h : GX σ N A) (hF : ∀ a b, ((a = 1 ∧ b = 3) ∨ (9 ≤ a ∧ a ≤ 17)) → σ'.1 a b = σ.1 a b) (hr : σ'.2.1 3 12 = none) (hR : RX σ' A') : GX σ' N A' := by
  obtain ⟨h1, h2, -, h4, -⟩ := h
  have hF' : Fr (fun a b => ¬ ((a = 1 ∧ b = 3) ∨ (9 ≤ a ∧ a ≤ 17))) σ (σ'.1, σ.2) := ⟨fun a b z => hF a b (Classical.not_not.mp z), rfl⟩
  have hK : KX (σ'.1, σ.2) N := h2.fr hF' (fun a b z => by omega)
  exact ⟨h1.ff (fun a b z => hF a b (by omega)), hK, hR, fun r s y1 y2 y3 => by rw [hF 12 r (by omega)]; exact h4 r s y1 y2 y3, Or.inl hr⟩
theorem nn_of {a : Int32} (h : ¬ a < 0) : ∃ n, n < 2147483648 ∧ a = nI n := by
  rw [Int32.lt_iff_toInt_lt] at h
  have h0 : (0 : Int32).toInt = 0 := rfl
  have h1 := Int32.toInt_lt a
  refine ⟨a.toInt.toNat, by omega, ?_⟩
  apply Int32.toInt_inj.mp
  rw [nI_toInt (by omega)]
  omega
theorem st_prices (a b : Int32) : Step InvW (fX4_prices a b) (fX5_prices a b) := by
  rintro σX σM ⟨N, A, hA, hX, hM⟩
  have hI : InvW σX σM := ⟨N, A, hA, hX, hM⟩
  unfold fX4_prices fX5_prices
  simp only [X_within, M_within, cb, Option.bind_some, bif0]
  by_cases h1 : (1 : Int32) ≤ a ∧ a ≤ 100
  · rw [if_pos h1, if_pos h1]
    by_cases h2 : (1 : Int32) ≤ b ∧ b ≤ 9999
    · rw [if_pos h2, if_pos h2]
      obtain ⟨x, hx1, hx, e1⟩ := num_of (l := 1) (m := 100) (by decide) (by decide) h1
      obtain ⟨y, hy1, hy, e2⟩ := num_of (l := 1) (m := 9999) (by decide) (by decide) h2
      subst e1; subst e2
      obtain ⟨w1, w2, w3, w4⟩ := WFA_iff.mp hA
      obtain ⟨r1, r2, r3, r4⟩ := RX_iff.mp hX.2.2.1
      obtain ⟨m1, m2, m3, m4⟩ := RM_iff.mp hM.2.2.1
      unfold fX1_forget
      simp only [bindv, Option.bind_some]
      refine ⟨_, _, _, rfl, rfl, N, aup (aup A 5 0 x) 5 1 y, ?_⟩
      have hrow : ∀ a, a ≠ 5 → aup (aup A 5 0 x) 5 1 y a = A a := fun a h => by rw [au_row _ h, au_row _ h]
      have e0 : aup (aup A 5 0 x) 5 1 y 5 0 = x := by rw [au_idx _ (by decide), au_at]
      have e1 : aup (aup A 5 0 x) 5 1 y 5 1 = y := au_at _ _ _ _
      generalize aup (aup A 5 0 x) 5 1 y = A' at hrow e0 e1
      have hW : WFA N A' := WFA_iff.mpr ⟨w1.of (fun a ha => hrow a (by omega)), w2.of (fun a ha => hrow a (by omega)), ⟨by omega, by omega, by omega, by omega⟩, w4.of (fun a ha => hrow a (by omega))⟩
      have hFX : Fr (fun a b => a = 3 ∧ b ≤ 1) (stR σX 3 12 none) (stI (stI (stR σX 3 12 none) 3 0 (nI x)) 3 1 (nI y)) := (Fr.rf.st ⟨rfl, by decide⟩).st ⟨rfl, by decide⟩
      have hFM : Fr (fun a b => a = 0 ∧ (b = 16 ∨ b = 17)) σM (stI (stI σM 0 16 (nI x)) 0 17 (nI y)) := (Fr.rf.st ⟨rfl, Or.inl rfl⟩).st ⟨rfl, Or.inr rfl⟩
      refine ⟨hW, hX.nc (fun a b z => hFX.1 a b (by omega)) (sr_at _ _ _ _) (RX_iff.mpr ⟨r1.of (fun a b z => hFX.1 a b (by omega)) (fun a ha => hrow a (by omega)), r2.of (fun a b z => hFX.1 a b (by omega)) (fun j => sr_ne _ _ (by omega)) rfl (fun a ha => hrow a (by omega)), ⟨by rw [e0, st_idx _ _ (by decide)]; exact st_at _ _ _ _, by rw [e1]; exact st_at _ _ _ _⟩, r4.of (fun a b z => hFX.1 a b (by omega)) (fun a ha => hrow a (by omega))⟩), hM.up hFM (fun a b z => by omega) (RM_iff.mpr ⟨m1.of (fun a b z => hFM.1 a b (by omega)) (fun a ha => hrow a (by omega)), m2.of (fun a b z => hFM.1 a b (by omega)) (fun a ha => hrow a (by omega)), ⟨by rw [e0, st_idx _ _ (by decide)]; exact st_at _ _ _ _, by rw [e1]; exact st_at _ _ _ _⟩, m4.of (fun a b z => hFM.1 a b (by omega)) (fun a ha => hrow a (by omega))⟩)⟩
    · rw [if_neg h2, if_neg h2]
      exact ⟨_, _, _, rfl, rfl, hI⟩
  · rw [if_neg h1, if_neg h1]
    exact ⟨_, _, _, rfl, rfl, hI⟩
theorem st_drop (a : Int32) : Step InvW (fX4_drop a) (fX5_drop a) := by
  rintro σX σM ⟨N, A, hA, hX, hM⟩
  have hI : InvW σX σM := ⟨N, A, hA, hX, hM⟩
  obtain ⟨w1, w2, w3, w4⟩ := WFA_iff.mp hA
  obtain ⟨r1, r2, r3, r4⟩ := RX_iff.mp hX.2.2.1
  obtain ⟨m1, m2, m3, m4⟩ := RM_iff.mp hM.2.2.1
  have h6 := w2.1
  unfold fX4_drop fX5_drop
  rcases drive_cases hA hX.2.2.1 hM.2.2.1 a with ⟨d, hd, e, h1, h2⟩ | ⟨h1, h2⟩
  · subst e
    have D := isDr_of hX.2.2.1 hd
    have h20 := (w2.2 d hd).1
    have i1 : ib (nI d) 6 = true := ib_nI (by omega) (by decide)
    have c1 : (nI d).toNatClampNeg = d := cl_nI (by omega)
    have x0 := (r2.2.2.2 d hd).1
    have y0 := m2.2.1 d (by omega)
    rw [if_pos hd] at y0
    rw [h1, h2]
    simp only [cb, Option.bind_some, Option.elim, D, i1, c1, ↓reduceIte, x0, y0]
    rw [if_neg (show ¬ (1 : Int32) = 0 by decide)]
    by_cases hn : A 4 d = 0
    · rw [hn, if_pos (show nI 0 = 0 from rfl), if_pos (show nI 0 = 0 from rfl)]
      exact ⟨_, _, _, rfl, rfl, hI⟩
    · obtain ⟨n, hn'⟩ : ∃ n, A 4 d = n + 1 := ⟨A 4 d - 1, by omega⟩
      have ne : ¬ nI (n + 1) = 0 := by rw [show (0 : Int32) = nI 0 from rfl, eq_nI (by omega) (by omega)]; omega
      rw [hn', if_neg ne, if_neg ne]
      unfold fX1_forget
      simp only [bindv, Option.bind_some, isDr_sr, isDr_st, D, ↓reduceIte, st_at, sr_1, x0, hn', nI_pred]
      refine ⟨_, _, _, rfl, rfl, N, aup A 4 d n, ?_⟩
      have hrow : ∀ a, a ≠ 4 → aup A 4 d n a = A a := fun a h => au_row _ h
      have e4 : ∀ i, aup A 4 d n 4 i = if i = d then n else A 4 i := fun i => by
        by_cases h : i = d
        · subst h; rw [if_pos rfl, au_at]
        · rw [if_neg h, au_idx _ h]
      generalize aup A 4 d n = A' at hrow e4
      have e3 : A' 3 0 = A 3 0 := by rw [hrow 3 (by decide)]
      have hW : WFA N A' := by
        refine WFA_iff.mpr ⟨w1.of (fun a ha => hrow a (by omega)), ⟨by omega, fun d' hd' => ?_⟩, w3.of (hrow 5 (by omega)), w4.of (fun a ha => hrow a (by omega))⟩
        rw [e3] at hd'
        obtain ⟨z1, z2, z3⟩ := w2.2 d' hd'
        have hle : A' 4 d' ≤ A 4 d' := by
          rw [e4]
          by_cases h : d' = d
          · rw [if_pos h, h]; omega
          · rw [if_neg h]; omega
        rw [hrow (10 + d') (by omega), hrow (20 + d') (by omega), hrow (30 + d') (by omega), hrow (40 + d') (by omega)]
        exact ⟨by omega, fun i hi => z2 i (by omega), fun i j hij hj => z3 i j hij (by omega)⟩
      have hFX : Fr (fun a b => a = 26 + 5 * d ∧ b = 0) (stR σX 3 12 none) (stI (stR σX 3 12 none) (26 + 5 * d) 0 (nI n)) := Fr.rf.st ⟨rfl, rfl⟩
      have hFM : Fr (fun a b => a = 13 ∧ b = d) σM (stI σM 13 d (nI n)) := Fr.rf.st ⟨rfl, rfl⟩
      refine ⟨hW, hX.nc (fun a b z => hFX.1 a b (by omega)) (sr_at _ _ _ _) (RX_iff.mpr ⟨r1.of (fun a b z => hFX.1 a b (by omega)) (fun a ha => hrow a (by omega)), ⟨by rw [e3]; exact (hFX.1 0 4 (by omega)).trans r2.1, by rw [e3]; exact r2.2.1, fun j => by rw [e3]; exact (sr_ne _ _ (by omega)).trans (r2.2.2.1 j), fun d' hd' => ?_⟩, r3.of (fun b hb => hFX.1 3 b (by omega)) (hrow 5 (by omega)), r4.of (fun a b z => hFX.1 a b (by omega)) (fun a ha => hrow a (by omega))⟩), hM.up hFM (fun a b z => by omega) (RM_iff.mpr ⟨m1.of (fun a b z => hFM.1 a b (by omega)) (fun a ha => hrow a (by omega)), ⟨by rw [e3, hFM.1 0 15 (by omega)]; exact m2.1, fun d' hd' => ?_, fun d' hd' i hi => ?_⟩, m3.of (fun b hb => hFM.1 0 b (by omega)) (hrow 5 (by omega)), m4.of (fun a b z => hFM.1 a b (by omega)) (fun a ha => hrow a (by omega))⟩)⟩
      · rw [e3] at hd'
        obtain ⟨z1, z2⟩ := r2.2.2.2 d' hd'
        rw [hrow (10 + d') (by omega), hrow (20 + d') (by omega), hrow (30 + d') (by omega), hrow (40 + d') (by omega), e4]
        have fr4 : ∀ j i, (j = 27 ∨ j = 28 ∨ j = 29 ∨ j = 30) → (stI (stR σX 3 12 none) (26 + 5 * d) 0 (nI n)).1 (j + 5 * d') i = σX.1 (j + 5 * d') i := fun j i hj => hFX.1 _ _ (by omega)
        by_cases h : d' = d
        · subst h
          rw [if_pos rfl]
          refine ⟨st_at _ _ _ _, fun i hi => ?_⟩
          rw [fr4 27 i (by omega), fr4 28 i (by omega), fr4 29 i (by omega), fr4 30 i (by omega)]
          exact z2 i (by omega)
        · rw [if_neg h]
          refine ⟨(hFX.1 _ _ (by omega)).trans z1, fun i hi => ?_⟩
          rw [fr4 27 i (by omega), fr4 28 i (by omega), fr4 29 i (by omega), fr4 30 i (by omega)]
          exact z2 i (by omega)
      · rw [e3, e4]
        by_cases h : d' = d
        · subst h
          rw [if_pos hd, if_pos rfl]; exact st_at _ _ _ _
        · rw [if_neg h, hFM.1 13 d' (by omega)]; exact m2.2.1 d' hd'
      · rw [e3] at hd'
        have hle : A' 4 d' ≤ A 4 d' := by
          rw [e4]
          by_cases h : d' = d
          · rw [if_pos h, h]; omega
          · rw [if_neg h]; omega
        rw [hFM.1 9 _ (by omega), hFM.1 10 _ (by omega), hFM.1 11 _ (by omega), hFM.1 12 _ (by omega), hrow (10 + d') (by omega), hrow (20 + d') (by omega), hrow (30 + d') (by omega), hrow (40 + d') (by omega)]
        exact m2.2.2 d' hd' i (by omega)
  · rw [h1, h2]
    simp only [cb, Option.bind_some, Option.elim, ↓reduceIte]
    exact ⟨_, _, _, rfl, rfl, hI⟩
theorem X_lastTick (hA : WFA N A) {σ : ST} (hR : RX σ A) (hd : d < A 3 0) : fX0_lastTick (26 + 5 * d) σ = some (if A 4 d = 0 then -1 else nI (A (30 + d) (A 4 d - 1)), σ) := by
  have h20 := (hA.2.1.2 d hd).1
  unfold fX0_lastTick
  simp only [isDr_of hR hd, (hR.2.1.2.2.2 d hd).1, isRw_of hR hd (j := 3) (by omega), ↓reduceIte]
  by_cases hn : A 4 d = 0
  · rw [hn, if_pos rfl, if_pos (by decide)]
  · obtain ⟨n, hn'⟩ : ∃ n, A 4 d = n + 1 := ⟨A 4 d - 1, by omega⟩
    have z := ((hR.2.1.2.2.2 d hd).2 n (by omega)).2.2.1
    have z' : σ.1 (26 + 5 * d + 3) n = nI (A (30 + d) n) := by rw [show 26 + 5 * d + 3 = 29 + 5 * d by omega]; exact z
    rw [if_neg hn, hn', if_neg (by rw [show (0 : Int32) = nI 0 from rfl, le_nI (by omega) (by omega)]; omega)]
    simp only [nI_pred, ib_nI (show n < 20 by omega) (by decide), cl_nI (show n < 2147483648 by omega), Bool.and_self, ↓reduceIte, z', Nat.add_sub_cancel]
theorem st_sight (a w t b : Int32) : Step InvW (fX4_sight a w t b) (fX5_sight a w t b) := by
  rintro σX σM ⟨N, A, hA, hX, hM⟩
  have hI : InvW σX σM := ⟨N, A, hA, hX, hM⟩
  obtain ⟨w1, w2, w3, w4⟩ := WFA_iff.mp hA
  obtain ⟨r1, r2, r3, r4⟩ := RX_iff.mp hX.2.2.1
  obtain ⟨m1, m2, m3, m4⟩ := RM_iff.mp hM.2.2.1
  have h6 := w2.1
  unfold fX4_sight fX5_sight
  rcases drive_cases hA hX.2.2.1 hM.2.2.1 a with ⟨d, hd, e, h1, h2⟩ | ⟨h1, h2⟩
  · subst e
    have D := isDr_of hX.2.2.1 hd
    have h20 := (w2.2 d hd).1
    have i1 : ib (nI d) 6 = true := ib_nI (by omega) (by decide)
    have c1 : (nI d).toNatClampNeg = d := cl_nI (by omega)
    have x0 := (r2.2.2.2 d hd).1
    have y0 := m2.2.1 d (by omega)
    rw [if_pos hd] at y0
    rw [h1, h2]
    simp only [X_within, M_within, cb, Option.bind_some, Option.elim, bif0]
    rw [if_neg (show ¬ (1 : Int32) = 0 by decide)]
    by_cases k1 : (0 : Int32) ≤ w ∧ w ≤ 9999
    · obtain ⟨u, -, hu, e⟩ := num_of (l := 0) (m := 9999) (by decide) (by decide) k1
      subst e
      have q1 : nI u / 100 = nI (u / 100) := div_nI (d := 100) (by omega) (by decide) (by decide)
      have q2 : nI u - nI (u / 100) * 100 = nI (u % 100) := by rw [← q1]; exact rem_nI (d := 100) (by omega) (by decide) (by decide)
      have k1' : (0 : Int32) ≤ nI (u / 100) ∧ nI (u / 100) ≤ 99 := by
        rw [show (0 : Int32) = nI 0 from rfl, show (99 : Int32) = nI 99 from rfl, le_nI (by omega) (by omega), le_nI (by omega) (by omega)]; omega
      rw [if_pos k1, if_neg (nI_nn (by omega))]
      simp only [q1, q2]
      rw [if_pos k1']
      by_cases k2 : (0 : Int32) ≤ t ∧ t ≤ 10000
      · by_cases k3 : (0 : Int32) ≤ b ∧ b ≤ 60
        · rw [if_pos k3, if_pos k2, if_pos k2, if_pos k3]
          obtain ⟨v, -, hv, e⟩ := num_of (l := 0) (m := 10000) (by decide) (by decide) k2
          subst e
          obtain ⟨z, -, hz, e⟩ := num_of (l := 0) (m := 60) (by decide) (by decide) k3
          subst e
          rw [X_lastTick hA hX.2.2.1 hd]
          simp only [Option.bind_some, D, i1, c1, ↓reduceIte, y0, bindv]
          have go : (∀ i, i < A 4 d → A (30 + d) i < v) → ∃ r σX' σM', ((fX1_forget σX).bind fun q => if isDr q.2 (26 + 5 * d) = true then (fX0_addSight (26 + 5 * d) (nI (u / 100)) (nI (u % 100)) (nI v) (nI z) q.2).bind fun q => some (q.1, q.2) else none) = some (r, σX') ∧ fX5_sight_J82 (nI d) (nI u) (nI v) (nI z) (nI (A 4 d)) σM = some (r, σM') ∧ InvW σX' σM' := by
            intro hlt
            unfold fX1_forget fX5_sight_J82 fX0_addSight
            simp only [bindv, Option.bind_some, isDr_sr, D, ↓reduceIte, sr_1, x0, q1, q2]
            by_cases hn : A 4 d < 20
            · generalize hm : A 4 d = n at *
              have l20 : nI n < 20 := by rw [show (20 : Int32) = nI 20 from rfl, lt_nI (by omega) (by omega)]; exact hn
              have l21 : ¬ nI n = 20 := by rw [show (20 : Int32) = nI 20 from rfl, eq_nI (by omega) (by omega)]; omega
              have W1 := isRw_of hX.2.2.1 hd (j := 1) (by omega)
              have W2 := isRw_of hX.2.2.1 hd (j := 2) (by omega)
              have W3 := isRw_of hX.2.2.1 hd (j := 3) (by omega)
              have W4 := isRw_of hX.2.2.1 hd (j := 4) (by omega)
              have cK1 : ∀ (σ : ST) i x, (stI σ (26 + 5 * d + 1) i x).1 (26 + 5 * d) 0 = σ.1 (26 + 5 * d) 0 := fun σ i x => st_cell _ _ _ (by omega)
              have cK2 : ∀ (σ : ST) i x, (stI σ (26 + 5 * d + 2) i x).1 (26 + 5 * d) 0 = σ.1 (26 + 5 * d) 0 := fun σ i x => st_cell _ _ _ (by omega)
              have cK3 : ∀ (σ : ST) i x, (stI σ (26 + 5 * d + 3) i x).1 (26 + 5 * d) 0 = σ.1 (26 + 5 * d) 0 := fun σ i x => st_cell _ _ _ (by omega)
              have cK4 : ∀ (σ : ST) i x, (stI σ (26 + 5 * d + 4) i x).1 (26 + 5 * d) 0 = σ.1 (26 + 5 * d) 0 := fun σ i x => st_cell _ _ _ (by omega)
              have cM : ∀ (σ : ST) a i x, a ≠ 13 → (stI σ a i x).1 13 d = σ.1 13 d := fun σ a i x h => st_cell _ _ _ (fun e => h e.symm)
              have hx : (20 : Int32) * nI d + nI n = nI (20 * d + n) := by rw [show (20 : Int32) * nI d = nI (20 * d) from pk_mul 20 d, nI_add]
              simp only [l20, l21, W1, W2, W3, W4, isRw_st, isRw_sr, isDr_st, isDr_sr, D, ib_nI (show n < 20 by omega) (by decide), cl_nI (show n < 2147483648 by omega), Bool.and_self, ↓reduceIte, cK1, cK2, cK3, cK4, sr_1, x0, hx, ib_nI (show 20 * d + n < 120 by omega) (by decide), cl_nI (show 20 * d + n < 2147483648 by omega), i1, c1, cM _ 9 _ _ (by decide), cM _ 10 _ _ (by decide), cM _ 11 _ _ (by decide), cM _ 12 _ _ (by decide), y0, st_at, nI_1, nI_pred, Option.bind_some]
              refine ⟨_, _, _, rfl, rfl, N, aup (aup (aup (aup (aup A (10 + d) n (u / 100)) (20 + d) n (u % 100)) (30 + d) n v) (40 + d) n z) 4 d (n + 1), ?_⟩
              have hrow : ∀ a, a ≠ 4 → a ≠ 10 + d → a ≠ 20 + d → a ≠ 30 + d → a ≠ 40 + d → aup (aup (aup (aup (aup A (10 + d) n (u / 100)) (20 + d) n (u % 100)) (30 + d) n v) (40 + d) n z) 4 d (n + 1) a = A a := fun a h1 h2 h3 h4 h5 => by rw [au_row _ h1, au_row _ h5, au_row _ h4, au_row _ h3, au_row _ h2]
              have e4 : ∀ i, aup (aup (aup (aup (aup A (10 + d) n (u / 100)) (20 + d) n (u % 100)) (30 + d) n v) (40 + d) n z) 4 d (n + 1) 4 i = if i = d then n + 1 else A 4 i := fun i => by
                by_cases h : i = d
                · subst h; rw [if_pos rfl, au_at]
                · rw [if_neg h, au_idx _ h, au_row _ (by omega), au_row _ (by omega), au_row _ (by omega), au_row _ (by omega)]
              have e10 : ∀ i, aup (aup (aup (aup (aup A (10 + d) n (u / 100)) (20 + d) n (u % 100)) (30 + d) n v) (40 + d) n z) 4 d (n + 1) (10 + d) i = if i = n then u / 100 else A (10 + d) i := fun i => by
                rw [au_row _ (by omega), au_row _ (by omega), au_row _ (by omega), au_row _ (by omega)]
                by_cases h : i = n
                · subst h; rw [if_pos rfl, au_at]
                · rw [if_neg h, au_idx _ h]
              have e20 : ∀ i, aup (aup (aup (aup (aup A (10 + d) n (u / 100)) (20 + d) n (u % 100)) (30 + d) n v) (40 + d) n z) 4 d (n + 1) (20 + d) i = if i = n then u % 100 else A (20 + d) i := fun i => by
                rw [au_row _ (by omega), au_row _ (by omega), au_row _ (by omega)]
                by_cases h : i = n
                · subst h; rw [if_pos rfl, au_at]
                · rw [if_neg h, au_idx _ h, au_row _ (by omega)]
              have e30 : ∀ i, aup (aup (aup (aup (aup A (10 + d) n (u / 100)) (20 + d) n (u % 100)) (30 + d) n v) (40 + d) n z) 4 d (n + 1) (30 + d) i = if i = n then v else A (30 + d) i := fun i => by
                rw [au_row _ (by omega), au_row _ (by omega)]
                by_cases h : i = n
                · subst h; rw [if_pos rfl, au_at]
                · rw [if_neg h, au_idx _ h, au_row _ (by omega), au_row _ (by omega)]
              have e40 : ∀ i, aup (aup (aup (aup (aup A (10 + d) n (u / 100)) (20 + d) n (u % 100)) (30 + d) n v) (40 + d) n z) 4 d (n + 1) (40 + d) i = if i = n then z else A (40 + d) i := fun i => by
                rw [au_row _ (by omega)]
                by_cases h : i = n
                · subst h; rw [if_pos rfl, au_at]
                · rw [if_neg h, au_idx _ h, au_row _ (by omega), au_row _ (by omega), au_row _ (by omega)]
              generalize aup (aup (aup (aup (aup A (10 + d) n (u / 100)) (20 + d) n (u % 100)) (30 + d) n v) (40 + d) n z) 4 d (n + 1) = A' at hrow e4 e10 e20 e30 e40
              have e3 : A' 3 0 = A 3 0 := by rw [hrow 3 (by omega) (by omega) (by omega) (by omega) (by omega)]
              have hlo : ∀ a, a < 10 → a ≠ 4 → A' a = A a := fun a h1 h2 => hrow a h2 (by omega) (by omega) (by omega) (by omega)
              obtain ⟨z1, z2, z3⟩ := w2.2 d hd
              rw [hm] at z1 z2 z3
              have hW : WFA N A' := by
                refine WFA_iff.mpr ⟨w1.of (fun a ha => hlo a (by omega) (by omega)), ⟨by omega, fun d' hd' => ?_⟩, w3.of (hlo 5 (by omega) (by omega)), w4.of (fun a ha => hlo a (by omega) (by omega))⟩
                rw [e3] at hd'
                rw [e4]
                by_cases h : d' = d
                · subst h
                  rw [if_pos rfl]
                  refine ⟨by omega, fun i hi => ?_, fun i j hij hj => ?_⟩
                  · rw [e10, e20, e30, e40]
                    by_cases h : i = n
                    · rw [if_pos h, if_pos h, if_pos h, if_pos h]; omega
                    · rw [if_neg h, if_neg h, if_neg h, if_neg h]; exact z2 i (by omega)
                  · rw [e30, e30, if_neg (show ¬ i = n by omega)]
                    by_cases h : j = n
                    · rw [if_pos h]; exact hlt i (by omega)
                    · rw [if_neg h]; exact z3 i j hij (by omega)
                · rw [if_neg h, hrow (10 + d') (by omega) (by omega) (by omega) (by omega) (by omega), hrow (20 + d') (by omega) (by omega) (by omega) (by omega) (by omega), hrow (30 + d') (by omega) (by omega) (by omega) (by omega) (by omega), hrow (40 + d') (by omega) (by omega) (by omega) (by omega) (by omega)]
                  exact w2.2 d' hd'
              have hFX : Fr (fun a b => 26 + 5 * d ≤ a ∧ a ≤ 30 + 5 * d) (stR σX 3 12 none) (stI (stI (stI (stI (stI (stR σX 3 12 none) (26 + 5 * d + 1) n (nI (u / 100))) (26 + 5 * d + 2) n (nI (u % 100))) (26 + 5 * d + 3) n (nI v)) (26 + 5 * d + 4) n (nI z)) (26 + 5 * d) 0 (nI (n + 1))) := ((((Fr.rf.st (by omega)).st (by omega)).st (by omega)).st (by omega)).st (by omega)
              have hFM : Fr (fun a b => (9 ≤ a ∧ a ≤ 12 ∧ b = 20 * d + n) ∨ (a = 13 ∧ b = d)) σM (stI (stI (stI (stI (stI σM 9 (20 * d + n) (nI (u / 100))) 10 (20 * d + n) (nI (u % 100))) 11 (20 * d + n) (nI v)) 12 (20 * d + n) (nI z)) 13 d (nI (n + 1))) := ((((Fr.rf.st (by omega)).st (by omega)).st (by omega)).st (by omega)).st (by omega)
              refine ⟨hW, hX.nc (fun a b z => hFX.1 a b (by omega)) (sr_at _ _ _ _) (RX_iff.mpr ⟨r1.of (fun a b z => hFX.1 a b (by omega)) (fun a ha => hlo a (by omega) (by omega)), ⟨by rw [e3]; exact (hFX.1 0 4 (by omega)).trans r2.1, by rw [e3]; exact r2.2.1, fun j => by rw [e3]; exact (sr_ne _ _ (by omega)).trans (r2.2.2.1 j), fun d' hd' => ?_⟩, r3.of (fun b hb => hFX.1 3 b (by omega)) (hlo 5 (by omega) (by omega)), r4.of (fun a b z => hFX.1 a b (by omega)) (fun a ha => hlo a (by omega) (by omega))⟩), hM.up hFM (fun a b z => by omega) (RM_iff.mpr ⟨m1.of (fun a b z => hFM.1 a b (by omega)) (fun a ha => hlo a (by omega) (by omega)), ⟨by rw [e3, hFM.1 0 15 (by omega)]; exact m2.1, fun d' hd' => ?_, fun d' hd' i hi => ?_⟩, m3.of (fun b hb => hFM.1 0 b (by omega)) (hlo 5 (by omega) (by omega)), m4.of (fun a b z => hFM.1 a b (by omega)) (fun a ha => hlo a (by omega) (by omega))⟩)⟩
              · rw [e3] at hd'
                obtain ⟨y1, y2⟩ := r2.2.2.2 d' hd'
                rw [e4]
                by_cases h : d' = d
                · subst h
                  rw [if_pos rfl]
                  refine ⟨st_at _ _ _ _, fun i hi => ?_⟩
                  rw [e10, e20, e30, e40]
                  by_cases h : i = n
                  · rw [if_pos h, if_pos h, if_pos h, if_pos h, h]
                    refine ⟨?_, ?_, ?_, ?_⟩
                    · rw [st_ne _ _ (by omega), st_ne _ _ (by omega), st_ne _ _ (by omega), st_ne _ _ (by omega)]; exact if_pos (by omega)
                    · rw [st_ne _ _ (by omega), st_ne _ _ (by omega), st_ne _ _ (by omega)]; exact if_pos (by omega)
                    · rw [st_ne _ _ (by omega), st_ne _ _ (by omega)]; exact if_pos (by omega)
                    · rw [st_ne _ _ (by omega)]; exact if_pos (by omega)
                  · rw [if_neg h, if_neg h, if_neg h, if_neg h]
                    have yy := y2 i (by omega)
                    refine ⟨Eq.trans ?_ yy.1, Eq.trans ?_ yy.2.1, Eq.trans ?_ yy.2.2.1, Eq.trans ?_ yy.2.2.2⟩
                    · rw [st_ne _ _ (by omega), st_ne _ _ (by omega), st_ne _ _ (by omega), st_ne _ _ (by omega), st_ne _ _ (by omega)]; rfl
                    · rw [st_ne _ _ (by omega), st_ne _ _ (by omega), st_ne _ _ (by omega), st_ne _ _ (by omega), st_ne _ _ (by omega)]; rfl
                    · rw [st_ne _ _ (by omega), st_ne _ _ (by omega), st_ne _ _ (by omega), st_ne _ _ (by omega), st_ne _ _ (by omega)]; rfl
                    · rw [st_ne _ _ (by omega), st_ne _ _ (by omega), st_ne _ _ (by omega), st_ne _ _ (by omega), st_ne _ _ (by omega)]; rfl
                · rw [if_neg h, hrow (10 + d') (by omega) (by omega) (by omega) (by omega) (by omega), hrow (20 + d') (by omega) (by omega) (by omega) (by omega) (by omega), hrow (30 + d') (by omega) (by omega) (by omega) (by omega) (by omega), hrow (40 + d') (by omega) (by omega) (by omega) (by omega) (by omega)]
                  refine ⟨(hFX.1 _ _ (by omega)).trans y1, fun i hi => ?_⟩
                  rw [hFX.1 (27 + 5 * d') _ (by omega), hFX.1 (28 + 5 * d') _ (by omega), hFX.1 (29 + 5 * d') _ (by omega), hFX.1 (30 + 5 * d') _ (by omega)]
                  exact y2 i hi
              · rw [e3, e4]
                by_cases h : d' = d
                · subst h
                  rw [if_pos hd, if_pos rfl]; exact st_at _ _ _ _
                · rw [if_neg h, hFM.1 13 d' (by omega)]; exact m2.2.1 d' hd'
              · rw [e3] at hd'
                rw [e4] at hi
                by_cases h : d' = d
                · subst h
                  rw [if_pos rfl] at hi
                  rw [e10, e20, e30, e40]
                  by_cases h : i = n
                  · rw [if_pos h, if_pos h, if_pos h, if_pos h, h]
                    refine ⟨?_, ?_, ?_, ?_⟩
                    · rw [st_ne _ _ (by omega), st_ne _ _ (by omega), st_ne _ _ (by omega), st_ne _ _ (by omega)]; exact st_at _ _ _ _
                    · rw [st_ne _ _ (by omega), st_ne _ _ (by omega), st_ne _ _ (by omega)]; exact st_at _ _ _ _
                    · rw [st_ne _ _ (by omega), st_ne _ _ (by omega)]; exact st_at _ _ _ _
                    · rw [st_ne _ _ (by omega)]; exact st_at _ _ _ _
                  · rw [if_neg h, if_neg h, if_neg h, if_neg h, hFM.1 9 _ (by omega), hFM.1 10 _ (by omega), hFM.1 11 _ (by omega), hFM.1 12 _ (by omega)]
                    exact m2.2.2 d' hd' i (by omega)
                · rw [if_neg h] at hi
                  have hi20 := (w2.2 d' hd').1
                  rw [hFM.1 9 _ (by omega), hFM.1 10 _ (by omega), hFM.1 11 _ (by omega), hFM.1 12 _ (by omega), hrow (10 + d') (by omega) (by omega) (by omega) (by omega) (by omega), hrow (20 + d') (by omega) (by omega) (by omega) (by omega) (by omega), hrow (30 + d') (by omega) (by omega) (by omega) (by omega) (by omega), hrow (40 + d') (by omega) (by omega) (by omega) (by omega) (by omega)]
                  exact m2.2.2 d' hd' i hi
            · have hm : A 4 d = 20 := by omega
              rw [hm]
              simp only [show ¬ nI 20 < 20 by decide, show nI 20 = 20 from rfl, ↓reduceIte, Option.bind_some, show ¬ (20 : Int32) < 20 by decide]
              exact ⟨_, _, _, rfl, rfl, N, A, hA, hX.nc (fun a b z => rfl) (sr_at _ _ _ _) (RX_iff.mpr ⟨r1, r2.of (fun a b z => rfl) (fun j => sr_ne _ _ (by omega)) rfl (fun a ha => rfl), r3, r4⟩), hM⟩
          by_cases hn : A 4 d = 0
          · rw [if_pos hn, if_pos (show (-1 : Int32) < nI v by rw [Int32.lt_iff_toInt_lt, nI_toInt (by omega)]; have : (-1 : Int32).toInt = -1 := rfl; omega), if_pos (show nI (A 4 d) ≤ 0 by rw [hn]; decide)]
            exact go (fun i hi => by omega)
          · obtain ⟨n, hn'⟩ : ∃ n, A 4 d = n + 1 := ⟨A 4 d - 1, by omega⟩
            have hx : (20 : Int32) * nI d + nI (n + 1) - 1 = nI (20 * d + n) := by rw [show (20 : Int32) * nI d = nI (20 * d) from pk_mul 20 d, nI_add, ← Nat.add_assoc, nI_pred]
            have yt := (m2.2.2 d hd n (by omega)).2.2.1
            obtain ⟨z1, z2, z3⟩ := w2.2 d hd
            have z4 := (z2 n (by omega)).2.2.1
            rw [if_neg hn, if_neg (show ¬ nI (A 4 d) ≤ 0 by rw [show (0 : Int32) = nI 0 from rfl, le_nI (by omega) (by omega)]; omega)]
            rw [show A 4 d - 1 = n by omega]
            have hx' : (20 : Int32) * nI d + nI (A 4 d) - 1 = nI (20 * d + n) := by rw [hn']; exact hx
            rw [hx', if_pos (ib_nI (show 20 * d + n < 120 by omega) (by decide)), cl_nI (show 20 * d + n < 2147483648 by omega), yt]
            by_cases hl : A (30 + d) n < v
            · have hl' : nI (A (30 + d) n) < nI v := by rw [lt_nI (by omega) (by omega)]; exact hl
              rw [if_pos hl', if_pos hl']
              refine go (fun i hi => ?_)
              by_cases h : i = n
              · rw [h]; exact hl
              · have := z3 i n (by omega) (by omega); omega
            · have hl' : ¬ nI (A (30 + d) n) < nI v := by rw [lt_nI (by omega) (by omega)]; exact hl
              rw [if_neg hl', if_neg hl']
              exact ⟨_, _, _, rfl, rfl, hI⟩
        · rw [if_neg k3, if_pos k2, if_neg k3]
          exact ⟨_, _, _, rfl, rfl, hI⟩
      · by_cases k3 : (0 : Int32) ≤ b ∧ b ≤ 60
        · rw [if_pos k3, if_neg k2, if_neg k2]
          exact ⟨_, _, _, rfl, rfl, hI⟩
        · rw [if_neg k3, if_neg k2]
          exact ⟨_, _, _, rfl, rfl, hI⟩
    · rw [if_neg k1]
      by_cases k0 : w < 0
      · rw [if_pos k0]
        exact ⟨_, _, _, rfl, rfl, hI⟩
      · obtain ⟨u, hu, e⟩ := nn_of k0
        subst e
        have q1 : nI u / 100 = nI (u / 100) := div_nI (d := 100) hu (by decide) (by decide)
        rw [if_neg k0, if_neg (show ¬ ((0 : Int32) ≤ nI u / 100 ∧ nI u / 100 ≤ 99) from ?_)]
        · exact ⟨_, _, _, rfl, rfl, hI⟩
        · rw [q1]
          rintro ⟨-, z⟩
          apply k1
          rw [show (99 : Int32) = nI 99 from rfl, le_nI (by omega) (by omega)] at z
          rw [show (0 : Int32) = nI 0 from rfl, show (9999 : Int32) = nI 9999 from rfl, le_nI (by omega) (by omega), le_nI (by omega) (by omega)]
          omega
  · rw [h1, h2]
    simp only [cb, Option.bind_some, Option.elim, ↓reduceIte]
    exact ⟨_, _, _, rfl, rfl, hI⟩
end Ops3
