-- pure: knot, list, drive, prices, drop (own work)
section Ops2
theorem st_knot (a b : Int32) : Step InvW (fX4_knot a b) (fX5_knot a b) := by
  rintro σX σM ⟨N, A, hA, hX, hM⟩
  unfold fX4_knot fX5_knot
  simp only [X_within, M_within, cb, Option.bind_some, bif0]
  by_cases h1 : (0 : Int32) ≤ a ∧ a ≤ 99
  · rw [if_pos h1, if_pos h1]
    by_cases h2 : (0 : Int32) ≤ b ∧ b ≤ 99
    · rw [if_pos h2, if_pos h2]
      obtain ⟨x, -, hx, e1⟩ := num_of (l := 0) (m := 99) (by decide) (by decide) h1
      obtain ⟨y, -, hy, e2⟩ := num_of (l := 0) (m := 99) (by decide) (by decide) h2
      subst e1; subst e2
      obtain ⟨w1, w2, w3, w4⟩ := WFA_iff.mp hA
      obtain ⟨r1, r2, r3, r4⟩ := RX_iff.mp hX.2.2.1
      obtain ⟨m1, m2, m3, m4⟩ := RM_iff.mp hM.2.2.1
      have h16 := w1.1
      unfold fX2_addKnot
      rw [r1.1, m1.1]
      by_cases hn : A 0 0 < 16
      · rw [if_pos (by rw [show (16 : Int32) = nI 16 from rfl, lt_nI (by omega) (by omega)]; exact hn), if_neg (show ¬ nI (A 0 0) = 16 by rw [show (16 : Int32) = nI 16 from rfl, eq_nI (by omega) (by omega)]; omega)]
        have i1 : ib (nI (A 0 0)) 16 = true := ib_nI (by omega) (by decide)
        have c1 : (nI (A 0 0)).toNatClampNeg = A 0 0 := cl_nI (by omega)
        have q1 : (stI σX 7 (A 0 0) (nI x)).1 1 0 = nI (A 0 0) := (st_cell _ _ _ (by decide)).trans r1.1
        have q2 : (stI (stI σX 7 (A 0 0) (nI x)) 8 (A 0 0) (nI y)).1 1 0 = nI (A 0 0) := (st_cell _ _ _ (by decide)).trans q1
        have q3 : (stI σM 1 (A 0 0) (nI x)).1 0 2 = nI (A 0 0) := (st_cell _ _ _ (by decide)).trans m1.1
        have q4 : (stI (stI σM 1 (A 0 0) (nI x)) 2 (A 0 0) (nI y)).1 0 2 = nI (A 0 0) := (st_cell _ _ _ (by decide)).trans q3
        simp only [i1, c1, ↓reduceIte, bindv, q1, q2, q3, q4, st_at, nI_1, nI_pred, Option.bind_some]
        refine ⟨_, _, _, rfl, rfl, N, aup (aup (aup A 1 (A 0 0) x) 2 (A 0 0) y) 0 0 (A 0 0 + 1), ?_⟩
        have hrow : ∀ a, 3 ≤ a → aup (aup (aup A 1 (A 0 0) x) 2 (A 0 0) y) 0 0 (A 0 0 + 1) a = A a := fun a ha => by rw [au_row _ (by omega), au_row _ (by omega), au_row _ (by omega)]
        have e0 : aup (aup (aup A 1 (A 0 0) x) 2 (A 0 0) y) 0 0 (A 0 0 + 1) 0 0 = A 0 0 + 1 := au_at _ _ _ _
        have e1 : ∀ i, aup (aup (aup A 1 (A 0 0) x) 2 (A 0 0) y) 0 0 (A 0 0 + 1) 1 i = if i = A 0 0 then x else A 1 i := fun i => by
          rw [au_row _ (by decide), au_row _ (by decide)]
          by_cases h : i = A 0 0
          · subst h; rw [if_pos rfl, au_at]
          · rw [if_neg h, au_idx _ h]
        have e2 : ∀ i, aup (aup (aup A 1 (A 0 0) x) 2 (A 0 0) y) 0 0 (A 0 0 + 1) 2 i = if i = A 0 0 then y else A 2 i := fun i => by
          rw [au_row _ (by decide)]
          by_cases h : i = A 0 0
          · subst h; rw [if_pos rfl, au_at]
          · rw [if_neg h, au_idx _ h, au_row _ (by decide)]
        generalize aup (aup (aup A 1 (A 0 0) x) 2 (A 0 0) y) 0 0 (A 0 0 + 1) = A' at hrow e0 e1 e2
        have hW : WFA N A' := by
          refine WFA_iff.mpr ⟨⟨by omega, fun i hi => ?_, fun r hr => by rw [e0]; have := w1.2.2 r hr; omega⟩, w2.of (fun a ha => hrow a (by omega)), w3.of (hrow 5 (by omega)), w4.of (fun a ha => hrow a (by omega))⟩
          rw [e1, e2]
          by_cases h : i = A 0 0
          · rw [if_pos h, if_pos h]; omega
          · rw [if_neg h, if_neg h]; exact w1.2.1 i (by omega)
        have hFX : Fr (fun a b => a = 7 ∨ a = 8 ∨ (a = 1 ∧ b = 0)) σX (stI (stI (stI σX 7 (A 0 0) (nI x)) 8 (A 0 0) (nI y)) 1 0 (nI (A 0 0 + 1))) := ((Fr.rf.st (Or.inl rfl)).st (Or.inr (Or.inl rfl))).st (Or.inr (Or.inr ⟨rfl, rfl⟩))
        have hFM : Fr (fun a b => a = 1 ∨ a = 2 ∨ (a = 0 ∧ b = 2)) σM (stI (stI (stI σM 1 (A 0 0) (nI x)) 2 (A 0 0) (nI y)) 0 2 (nI (A 0 0 + 1))) := ((Fr.rf.st (Or.inl rfl)).st (Or.inr (Or.inl rfl))).st (Or.inr (Or.inr ⟨rfl, rfl⟩))
        refine ⟨hW, hX.up hW hFX.1 (fun a b z => by omega) rfl (RX_iff.mpr ⟨⟨by rw [e0]; exact st_at _ _ _ _, fun i hi => ?_⟩, r2.of (fun a b z => hFX.1 a b (by omega)) (fun _ => rfl) rfl (fun a ha => hrow a (by omega)), r3.of (fun b hb => hFX.1 3 b (by omega)) (hrow 5 (by omega)), r4.of (fun a b z => hFX.1 a b (by omega)) (fun a ha => hrow a (by omega))⟩) (by rw [hrow 3 (by omega)]; omega) (fun d hd => ⟨fun r hr => ?_, by rw [hrow 4 (by omega)], fun a ha => hrow a (by omega), hrow 5 (by omega)⟩), hM.up hFM (fun a b z => by omega) (RM_iff.mpr ⟨⟨by rw [e0]; exact st_at _ _ _ _, fun i hi => ?_⟩, m2.of (fun a b z => hFM.1 a b (by omega)) (fun a ha => hrow a (by omega)), m3.of (fun b hb => hFM.1 0 b (by omega)) (hrow 5 (by omega)), m4.of (fun a b z => hFM.1 a b (by omega)) (fun a ha => hrow a (by omega))⟩)⟩
        · rw [e1, e2]
          by_cases h : i = A 0 0
          · subst h; rw [if_pos rfl, if_pos rfl]; exact ⟨by simp [stI], by simp [stI]⟩
          · rw [if_neg h, if_neg h]
            obtain ⟨z1, z2⟩ := r1.2 i (by omega)
            exact ⟨by simp [stI, h, z1], by simp [stI, h, z2]⟩
        · have := w1.2.2 r hr
          rw [e1, e1, e2, e2, if_neg (by omega), if_neg (by omega), if_neg (by omega), if_neg (by omega)]
          exact ⟨rfl, rfl, rfl, rfl⟩
        · rw [e1, e2]
          by_cases h : i = A 0 0
          · subst h; rw [if_pos rfl, if_pos rfl]; exact ⟨by simp [stI], by simp [stI]⟩
          · rw [if_neg h, if_neg h]
            obtain ⟨z1, z2⟩ := m1.2 i (by omega)
            exact ⟨by simp [stI, h, z1], by simp [stI, h, z2]⟩
      · rw [if_neg (by rw [show (16 : Int32) = nI 16 from rfl, lt_nI (by omega) (by omega)]; exact hn), if_pos (by rw [show (16 : Int32) = nI 16 from rfl, eq_nI (by omega) (by omega)]; omega)]
        simp only [Option.bind_some]
        exact ⟨_, _, _, rfl, rfl, N, A, hA, hX, hM⟩
    · rw [if_neg h2, if_neg h2]
      exact ⟨_, _, _, rfl, rfl, N, A, hA, hX, hM⟩
  · rw [if_neg h1, if_neg h1]
    exact ⟨_, _, _, rfl, rfl, N, A, hA, hX, hM⟩
theorem st_list (a : Int32) : Step InvW (fX4_list a) (fX5_list a) := by
  rintro σX σM ⟨N, A, hA, hX, hM⟩
  obtain ⟨w1, w2, w3, w4⟩ := WFA_iff.mp hA
  obtain ⟨r1, r2, r3, r4⟩ := RX_iff.mp hX.2.2.1
  obtain ⟨m1, m2, m3, m4⟩ := RM_iff.mp hM.2.2.1
  have hRb := hX.1.1.1
  have h20 := w4.1
  have go : ∀ v, (v < 5 * nR N ∨ v = 1000) → ∃ r σX' σM', fX4_list_J19 (lcode v) σX = some (r, σX') ∧ fX5_list_J16 (lcode v) σM = some (r, σM') ∧ InvW σX' σM' := by
    intro v hv
    unfold fX4_list_J19 fX5_list_J16
    rw [r4.1, m4.1]
    by_cases hn : A 6 0 < 20
    · rw [if_pos (by rw [show (20 : Int32) = nI 20 from rfl, lt_nI (by omega) (by omega)]; exact hn), if_neg (show ¬ nI (A 6 0) = 20 by rw [show (20 : Int32) = nI 20 from rfl, eq_nI (by omega) (by omega)]; omega)]
      have i1 : ib (nI (A 6 0)) 20 = true := ib_nI (by omega) (by decide)
      have c1 : (nI (A 6 0)).toNatClampNeg = A 6 0 := cl_nI (by omega)
      have q1 : (stI σX 5 (A 6 0) (lcode v)).1 0 6 = nI (A 6 0) := (st_cell _ _ _ (by decide)).trans r4.1
      have q3 : (stI σM 14 (A 6 0) (lcode v)).1 0 19 = nI (A 6 0) := (st_cell _ _ _ (by decide)).trans m4.1
      simp only [i1, c1, ↓reduceIte, bindv, q1, q3, st_at, nI_1]
      refine ⟨_, _, _, rfl, rfl, N, aup (aup A 7 (A 6 0) v) 6 0 (A 6 0 + 1), ?_⟩
      have hrow : ∀ a, a ≠ 6 → a ≠ 7 → aup (aup A 7 (A 6 0) v) 6 0 (A 6 0 + 1) a = A a := fun a h1 h2 => by rw [au_row _ h1, au_row _ h2]
      have e0 : aup (aup A 7 (A 6 0) v) 6 0 (A 6 0 + 1) 6 0 = A 6 0 + 1 := au_at _ _ _ _
      have e1 : ∀ i, aup (aup A 7 (A 6 0) v) 6 0 (A 6 0 + 1) 7 i = if i = A 6 0 then v else A 7 i := fun i => by
        rw [au_row _ (by decide)]
        by_cases h : i = A 6 0
        · subst h; rw [if_pos rfl, au_at]
        · rw [if_neg h, au_idx _ h]
      generalize aup (aup A 7 (A 6 0) v) 6 0 (A 6 0 + 1) = A' at hrow e0 e1
      have hW : WFA N A' := by
        refine WFA_iff.mpr ⟨w1.of (fun a ha => hrow a (by omega) (by omega)), w2.of (fun a ha => hrow a (by omega) (by omega)), w3.of (hrow 5 (by omega) (by omega)), by omega, fun i hi => ?_⟩
        rw [e1]
        by_cases h : i = A 6 0
        · rw [if_pos h]; exact hv
        · rw [if_neg h]; exact w4.2 i (by omega)
      have hFX : Fr (fun a b => a = 5 ∨ (a = 0 ∧ b = 6)) σX (stI (stI σX 5 (A 6 0) (lcode v)) 0 6 (nI (A 6 0 + 1))) := (Fr.rf.st (Or.inl rfl)).st (Or.inr ⟨rfl, rfl⟩)
      have hFM : Fr (fun a b => a = 14 ∨ (a = 0 ∧ b = 19)) σM (stI (stI σM 14 (A 6 0) (lcode v)) 0 19 (nI (A 6 0 + 1))) := (Fr.rf.st (Or.inl rfl)).st (Or.inr ⟨rfl, rfl⟩)
      refine ⟨hW, hX.up hW hFX.1 (fun a b z => by omega) rfl (RX_iff.mpr ⟨r1.of (fun a b z => hFX.1 a b (by omega)) (fun a ha => hrow a (by omega) (by omega)), r2.of (fun a b z => hFX.1 a b (by omega)) (fun _ => rfl) rfl (fun a ha => hrow a (by omega) (by omega)), r3.of (fun b hb => hFX.1 3 b (by omega)) (hrow 5 (by omega) (by omega)), by rw [e0]; exact st_at _ _ _ _, fun i hi => ?_⟩) (by rw [hrow 3 (by omega) (by omega)]; omega) (fun d hd => ⟨fun r hr => ?_, by rw [hrow 4 (by omega) (by omega)], fun a ha => hrow a (by omega) (by omega), hrow 5 (by omega) (by omega)⟩), hM.up hFM (fun a b z => by omega) (RM_iff.mpr ⟨m1.of (fun a b z => hFM.1 a b (by omega)) (fun a ha => hrow a (by omega) (by omega)), m2.of (fun a b z => hFM.1 a b (by omega)) (fun a ha => hrow a (by omega) (by omega)), m3.of (fun b hb => hFM.1 0 b (by omega)) (hrow 5 (by omega) (by omega)), by rw [e0]; exact st_at _ _ _ _, fun i hi => ?_⟩)⟩
      · rw [e1]
        by_cases h : i = A 6 0
        · subst h; rw [if_pos rfl]; simp [stI]
        · rw [if_neg h]; simp [stI, h, r4.2 i (by omega)]
      · rw [hrow 1 (by omega) (by omega), hrow 2 (by omega) (by omega)]; exact ⟨rfl, rfl, rfl, rfl⟩
      · rw [e1]
        by_cases h : i = A 6 0
        · subst h; rw [if_pos rfl]; simp [stI]
        · rw [if_neg h]; simp [stI, h, m4.2 i (by omega)]
    · rw [if_neg (by rw [show (20 : Int32) = nI 20 from rfl, lt_nI (by omega) (by omega)]; exact hn), if_pos (by rw [show (20 : Int32) = nI 20 from rfl, eq_nI (by omega) (by omega)]; omega)]
      exact ⟨_, _, _, rfl, rfl, N, A, hA, hX, hM⟩
  unfold fX4_list fX5_list
  by_cases h5 : a = -5
  · rw [if_pos h5, if_pos h5]
    have := go 1000 (Or.inr rfl)
    rw [show a = lcode 1000 from h5]
    exact this
  · rw [if_neg h5, if_neg h5]
    rcases point_cases hX.1 hM.1 a with ⟨p, hp, e, g1, g2⟩ | ⟨-, g1, g2⟩
    · rw [g1, g2]
      simp only [cb, Option.bind_some]
      rw [if_neg (by decide), if_neg (by decide)]
      have := go p (Or.inl hp)
      rw [lcode_n (by omega), ← e] at this
      exact this
    · rw [g1, g2]
      simp only [cb, Option.bind_some]
      rw [if_pos trivial, if_pos trivial]
      exact ⟨_, _, _, rfl, rfl, N, A, hA, hX, hM⟩
theorem st_drive : Step InvW fX4_drive fX5_drive := by
  rintro σX σM ⟨N, A, hA, hX, hM⟩
  obtain ⟨w1, w2, w3, w4⟩ := WFA_iff.mp hA
  obtain ⟨r1, r2, r3, r4⟩ := RX_iff.mp hX.2.2.1
  obtain ⟨m1, m2, m3, m4⟩ := RM_iff.mp hM.2.2.1
  have h6 := w2.1
  unfold fX4_drive fX5_drive
  rw [r2.1, m2.1]
  by_cases hn : A 3 0 < 6
  · rw [if_pos (by rw [show (6 : Int32) = nI 6 from rfl, lt_nI (by omega) (by omega)]; exact hn), if_neg (show ¬ nI (A 3 0) = 6 by rw [show (6 : Int32) = nI 6 from rfl, eq_nI (by omega) (by omega)]; omega), if_pos (ib_nI (show A 3 0 < 6 by omega) (by decide)), cl_nI (by omega), r2.2.1]
    have q1 : (stR (newD σX) 4 (A 3 0) (some (26 + 5 * A 3 0))).1 0 4 = nI (A 3 0) := by
      show (if 26 + 5 * σX.2.2 ≤ 0 then (0 : Int32) else σX.1 0 4) = _
      rw [if_neg (by omega)]; exact r2.1
    simp only [bindv, q1, st_at, nI_1, nI_pred]
    refine ⟨_, _, _, rfl, rfl, N, aup (aup A 4 (A 3 0) 0) 3 0 (A 3 0 + 1), ?_⟩
    have hrow : ∀ a, a ≠ 3 → a ≠ 4 → aup (aup A 4 (A 3 0) 0) 3 0 (A 3 0 + 1) a = A a := fun a h1 h2 => by rw [au_row _ h1, au_row _ h2]
    have e0 : aup (aup A 4 (A 3 0) 0) 3 0 (A 3 0 + 1) 3 0 = A 3 0 + 1 := au_at _ _ _ _
    have e1 : ∀ i, aup (aup A 4 (A 3 0) 0) 3 0 (A 3 0 + 1) 4 i = if i = A 3 0 then 0 else A 4 i := fun i => by
      rw [au_row _ (by decide)]
      by_cases h : i = A 3 0
      · subst h; rw [if_pos rfl, au_at]
      · rw [if_neg h, au_idx _ h]
    generalize aup (aup A 4 (A 3 0) 0) 3 0 (A 3 0 + 1) = A' at hrow e0 e1
    have hrd : ∀ d k, 10 ≤ k → A' k d = A k d := fun d k hk => by rw [hrow k (by omega) (by omega)]
    have hW : WFA N A' := by
      refine WFA_iff.mpr ⟨w1.of (fun a ha => hrow a (by omega) (by omega)), ⟨by omega, fun d hd => ?_⟩, w3.of (hrow 5 (by omega) (by omega)), w4.of (fun a ha => hrow a (by omega) (by omega))⟩
      rw [e1]
      by_cases h : d = A 3 0
      · rw [if_pos h]; exact ⟨by omega, fun i hi => by omega, fun i j _ hj => by omega⟩
      · rw [if_neg h, hrow (10 + d) (by omega) (by omega), hrow (20 + d) (by omega) (by omega), hrow (30 + d) (by omega) (by omega), hrow (40 + d) (by omega) (by omega)]
        exact w2.2 d (by omega)
    have hFX : ∀ a b, ¬ ((a = 0 ∧ b = 4) ∨ 26 + 5 * A 3 0 ≤ a) → (stI (stR (newD σX) 4 (A 3 0) (some (26 + 5 * A 3 0))) 0 4 (nI (A 3 0 + 1))).1 a b = σX.1 a b := fun a b h => by
      rw [st_ne _ _ (by omega)]
      show (if 26 + 5 * σX.2.2 ≤ a then (0 : Int32) else σX.1 a b) = _
      rw [r2.2.1, if_neg (by omega)]
    have hFM : Fr (fun a b => a = 0 ∧ b = 15) σM (stI σM 0 15 (nI (A 3 0 + 1))) := Fr.rf.st ⟨rfl, rfl⟩
    refine ⟨hW, hX.up hW hFX (fun a b z => by omega) (sr_ne _ _ (by omega)) (RX_iff.mpr ⟨r1.of (fun a b z => hFX a b (by omega)) (fun a ha => hrow a (by omega) (by omega)), ⟨by rw [e0]; exact st_at _ _ _ _, ?_, fun d => ?_, fun d hd => ?_⟩, r3.of (fun b hb => hFX 3 b (by omega)) (hrow 5 (by omega) (by omega)), r4.of (fun a b z => hFX a b (by omega)) (fun a ha => hrow a (by omega) (by omega))⟩) (by omega) (fun d hd => ⟨fun r hr => ?_, by rw [e1, if_neg (by omega)], fun a ha => hrow a (by omega) (by omega), hrow 5 (by omega) (by omega)⟩), hM.up hFM (fun a b z => by omega) (RM_iff.mpr ⟨m1.of (fun a b z => hFM.1 a b (by omega)) (fun a ha => hrow a (by omega) (by omega)), ⟨by rw [e0]; exact st_at _ _ _ _, fun d hd => ?_, fun d hd i hi => ?_⟩, m3.of (fun b hb => hFM.1 0 b (by omega)) (hrow 5 (by omega) (by omega)), m4.of (fun a b z => hFM.1 a b (by omega)) (fun a ha => hrow a (by omega) (by omega))⟩)⟩
    · show σX.2.2 + 1 = _
      rw [r2.2.1, e0]
    · rw [e0]
      by_cases h : d = A 3 0
      · subst h
        rw [if_pos (by omega)]
        exact sr_at _ _ _ _
      · have : (stI (stR (newD σX) 4 (A 3 0) (some (26 + 5 * A 3 0))) 0 4 (nI (A 3 0 + 1))).2.1 4 d = σX.2.1 4 d := sr_ne _ _ (by omega)
        rw [this, r2.2.2.1 d]
        by_cases h2 : d < A 3 0
        · rw [if_pos h2, if_pos (by omega)]
        · rw [if_neg h2, if_neg (by omega)]
    · rw [e1]
      by_cases h : d = A 3 0
      · subst h
        rw [if_pos rfl]
        refine ⟨?_, fun i hi => by omega⟩
        rw [st_cell _ _ _ (by omega)]
        show (if 26 + 5 * σX.2.2 ≤ 26 + 5 * A 3 0 then (0 : Int32) else σX.1 _ 0) = _
        rw [r2.2.1, if_pos (Nat.le_refl _)]; rfl
      · rw [if_neg h, hrow (10 + d) (by omega) (by omega), hrow (20 + d) (by omega) (by omega), hrow (30 + d) (by omega) (by omega), hrow (40 + d) (by omega) (by omega), hFX _ _ (by omega)]
        refine ⟨(r2.2.2.2 d (by omega)).1, fun i hi => ?_⟩
        rw [hFX _ _ (by omega), hFX _ _ (by omega), hFX _ _ (by omega), hFX _ _ (by omega)]
        exact (r2.2.2.2 d (by omega)).2 i hi
    · rw [hrow 1 (by omega) (by omega), hrow 2 (by omega) (by omega)]; exact ⟨rfl, rfl, rfl, rfl⟩
    · rw [hFM.1 13 d (by omega), m2.2.1 d hd, e0, e1]
      by_cases h : d = A 3 0
      · rw [if_neg (by omega), if_pos (by omega), if_pos h]
      · by_cases h2 : d < A 3 0
        · rw [if_pos h2, if_pos (by omega), if_neg h]
        · rw [if_neg h2, if_neg (by omega)]
    · rw [e1] at hi
      by_cases h : d = A 3 0
      · rw [if_pos h] at hi; omega
      · rw [if_neg h] at hi
        rw [hFM.1 9 _ (by omega), hFM.1 10 _ (by omega), hFM.1 11 _ (by omega), hFM.1 12 _ (by omega), hrow (10 + d) (by omega) (by omega), hrow (20 + d) (by omega) (by omega), hrow (30 + d) (by omega) (by omega), hrow (40 + d) (by omega) (by omega)]
        exact m2.2.2 d (by omega) i hi
  · rw [if_neg (by rw [show (6 : Int32) = nI 6 from rfl, lt_nI (by omega) (by omega)]; exact hn), if_pos (by rw [show (6 : Int32) = nI 6 from rfl, eq_nI (by omega) (by omega)]; omega)]
    exact ⟨_, _, _, rfl, rfl, N, A, hA, hX, hM⟩
end Ops2
