-- pure: bar (own work)
section Ops5
variable {N N' : NET} {A : AS} {r s : Nat}
theorem WFN.lo (h : WFN N) (h0 : N' 0 = N 0) (h3 : N' 3 = N 3) (h5 : N' 5 = N 5) : WFN N' := by
  unfold WFN nR nln nfe; rw [h0, h3, h5]; exact h
theorem WFA.lo (h : WFA N A) (h0 : N' 0 = N 0) (h1 : N' 1 = N 1) (h2 : N' 2 = N 2) : WFA N' A := by
  unfold WFA nR nfr nto; rw [h0, h1, h2]; exact h
theorem bx_01 (x : Int32) {t : Nat} (ht : t < 32) : bx x t = 0 ∨ bx x t = 1 := by
  rw [bx_bt x ht]
  by_cases h : bt x t = true
  · rw [if_pos h]; exact Or.inr rfl
  · rw [if_neg h]; exact Or.inl rfl
theorem GM.bar {σ : ST} (h : GM σ N A) (hlo : ∀ a, a < 6 → N' a = N a) {v : Prop} (hb : ∀ r' s', nba N' r' s' ↔ if r' = r ∧ s' = s then v else nba N r' s') (hr : r < nR N) (hs : s < nR N) {x : Int32} (hx : x = 0 ↔ ¬ v) : GM (stI (stI σ 8 (30 * r + s) x) 0 20 0) N' A := by
  obtain ⟨⟨a1, a2, a3, a4⟩, h2, h3, h4⟩ := h
  have hR := a1.1
  have e0 : nR N' = nR N := by show N' 0 0 = N 0 0; rw [hlo 0 (by omega)]
  have hF : Fr (fun a b => (a = 0 ∧ b = 20) ∨ (a = 8 ∧ b = 30 * r + s)) σ (stI (stI σ 8 (30 * r + s) x) 0 20 0) := (Fr.rf.st (by omega)).st (by omega)
  refine ⟨⟨a1.lo (hlo 0 (by omega)) (hlo 3 (by omega)) (hlo 5 (by omega)), ?_, fun r' hr' => ?_, fun r' s' hr' hs' => ?_⟩, Or.inl (st_at _ _ _ _), h3.ff (fun a b z => hF.1 a b (by omega)), fun r' s' hr' hs' hno => ?_⟩
  · rw [e0, hF.1 0 8 (by omega)]; exact a2
  · rw [e0] at hr'
    have := a3 r' hr'
    unfold nfr nto nln nkd nfe
    rw [hlo 1 (by omega), hlo 2 (by omega), hlo 3 (by omega), hlo 4 (by omega), hlo 5 (by omega), hF.1 3 _ (by omega), hF.1 4 _ (by omega), hF.1 5 _ (by omega), hF.1 6 _ (by omega), hF.1 7 _ (by omega)]
    exact this
  · rw [e0] at hr' hs'
    rw [hb]
    by_cases e : r' = r ∧ s' = s
    · rw [if_pos e, e.1, e.2, st_cell _ _ _ (by decide), st_at]
      exact hx
    · rw [if_neg e, hF.1 8 _ (by omega)]
      exact a4 r' s' hr' hs'
  · rw [e0] at hno
    rw [hF.1 8 _ (by omega)]
    exact h4 r' s' hr' hs' hno
theorem GX.bar {σ : ST} (h : GX σ N A) (hc : σ.2.1 3 12 = none) (hz : ∀ g, g < 60 → σ.1 16 g = 0) (hlo : ∀ a, a < 6 → N' a = N a) {v : Int32} (hb : ∀ r' s', nba N' r' s' ↔ if r' = r ∧ s' = s then v ≠ 0 else nba N r' s') (hr : r < nR N) (hs : s < nR N) {x : Int32} (hx : ∀ t, t < 32 → bx x t = if t = s then v else bx (σ.1 12 r) t) : GX (stI σ 12 r x) N' A := by
  obtain ⟨⟨a1, a2, a3, a4⟩, h2, h3, h4, -⟩ := h
  have hR := a1.1
  have e0 : nR N' = nR N := by show N' 0 0 = N 0 0; rw [hlo 0 (by omega)]
  have hF : Fr (fun a b => a = 12 ∧ b = r) σ (stI σ 12 r x) := Fr.rf.st (by omega)
  refine ⟨⟨a1.lo (hlo 0 (by omega)) (hlo 3 (by omega)) (hlo 5 (by omega)), ?_, fun r' hr' => ?_, fun r' s' hr' hs' => ?_⟩, fun g hg => Or.inl ?_, h3.ff (fun a b z => hF.1 a b (by omega)) (fun _ => rfl) rfl, fun r' s' hr' hs' hno => ?_, Or.inl hc⟩
  · rw [e0, hF.1 1 3 (by omega)]; exact a2
  · rw [e0] at hr'
    have := a3 r' hr'
    unfold nfr nto nln nkd nfe
    rw [hlo 1 (by omega), hlo 2 (by omega), hlo 3 (by omega), hlo 4 (by omega), hlo 5 (by omega), hF.1 9 _ (by omega), hF.1 10 _ (by omega), hF.1 11 _ (by omega), hF.1 13 _ (by omega), hF.1 13 _ (by omega), hF.1 14 _ (by omega), hF.1 14 _ (by omega)]
    exact this
  · rw [e0] at hr' hs'
    rw [hb]
    by_cases e : r' = r
    · subst e
      rw [st_at, hx s' (by omega)]
      by_cases e' : s' = s
      · rw [if_pos e', if_pos ⟨rfl, e'⟩]
        exact Classical.not_not.symm
      · rw [if_neg e', if_neg (fun z => e' z.2)]
        exact a4 r' s' hr' hs'
    · rw [if_neg (fun z => e z.1), st_idx _ _ e]
      exact a4 r' s' hr' hs'
  · rw [e0] at hg
    rw [hF.1 16 _ (by omega)]; exact hz g (by omega)
  · rw [e0] at hno
    by_cases e : r' = r
    · subst e
      rw [st_at, hx s' (by omega), if_neg (by omega)]
      exact h4 r' s' hr' hs' hno
    · rw [st_idx _ _ e]
      exact h4 r' s' hr' hs' hno
theorem X_isAt {σ : ST} (hN : NX σ N) (hs : s < nR N) {k : Nat} (hk : k < 16) : fX2_isAtKnot (nI s) (nI k) σ = some (if nfr N s = k ∨ nto N s = k then 1 else 0, σ) := by
  have hR := hN.1.1
  obtain ⟨-, -, -, e1, e2, -, -, b1, b2, -⟩ := hN.2.2.1 s hs
  have hx : (2 : Int32) * nI s = nI (2 * s) := pk_mul 2 s
  unfold fX2_isAtKnot
  simp only [hx, nI_1, ib_nI (show 2 * s < 60 by omega) (by decide), ib_nI (show 2 * s + 1 < 60 by omega) (by decide), cl_nI (show 2 * s < 2147483648 by omega), cl_nI (show 2 * s + 1 < 2147483648 by omega), ↓reduceIte, e1, e2, eq_nI (show nfr N s < 2147483648 by omega) (show k < 2147483648 by omega), eq_nI (show nto N s < 2147483648 by omega) (show k < 2147483648 by omega)]
  by_cases h1 : nfr N s = k
  · rw [if_pos h1, if_pos (Or.inl h1)]
  · rw [if_neg h1]
    by_cases h2 : nto N s = k
    · rw [if_pos h2, if_pos (Or.inr h2)]
    · rw [if_neg h2, if_neg (fun z => z.elim h1 h2)]
theorem X_common {σ : ST} (hN : NX σ N) (hr : r < nR N) (hs : s < nR N) : fX2_haveCommonKnot (nI r) (nI s) σ = some (if (nfr N s = nfr N r ∨ nto N s = nfr N r) ∨ (nfr N s = nto N r ∨ nto N s = nto N r) then 1 else 0, σ) := by
  have hR := hN.1.1
  obtain ⟨-, -, -, e1, e2, -, -, b1, b2, -⟩ := hN.2.2.1 r hr
  have hx : (2 : Int32) * nI r = nI (2 * r) := pk_mul 2 r
  unfold fX2_haveCommonKnot
  simp only [hx, nI_1, ib_nI (show 2 * r < 60 by omega) (by decide), ib_nI (show 2 * r + 1 < 60 by omega) (by decide), cl_nI (show 2 * r < 2147483648 by omega), cl_nI (show 2 * r + 1 < 2147483648 by omega), ↓reduceIte, e1, e2, X_isAt hN hs b1, X_isAt hN hs b2, cb, Option.bind_some, bif0]
  by_cases h1 : nfr N s = nfr N r ∨ nto N s = nfr N r
  · rw [if_pos h1, if_pos (Or.inl h1)]
  · rw [if_neg h1]
    by_cases h2 : nfr N s = nto N r ∨ nto N s = nto N r
    · rw [if_pos h2, if_pos (Or.inr h2)]
    · rw [if_neg h2, if_neg (fun z => z.elim h1 h2)]
theorem M_common {σ : ST} (hN : NM σ N) (hr : r < nR N) (hs : s < nR N) (i : Int32) : (if ib (nI r) 30 = true then if ib (nI s) 30 = true then if (σ.1 3 (nI r).toNatClampNeg) = (σ.1 3 (nI s).toNatClampNeg) then (fX5_bar_J89 (nI r) (nI s) i σ) else (if ib (nI r) 30 = true then if ib (nI s) 30 = true then if (σ.1 3 (nI r).toNatClampNeg) = (σ.1 4 (nI s).toNatClampNeg) then (fX5_bar_J89 (nI r) (nI s) i σ) else (if ib (nI r) 30 = true then if ib (nI s) 30 = true then if (σ.1 4 (nI r).toNatClampNeg) = (σ.1 3 (nI s).toNatClampNeg) then (fX5_bar_J89 (nI r) (nI s) i σ) else (if ib (nI r) 30 = true then if ib (nI s) 30 = true then if (σ.1 4 (nI r).toNatClampNeg) = (σ.1 4 (nI s).toNatClampNeg) then (fX5_bar_J89 (nI r) (nI s) i σ) else (some ((-1), σ)) else none else none) else none else none) else none else none) else none else none) = if (nfr N s = nfr N r ∨ nto N s = nfr N r) ∨ (nfr N s = nto N r ∨ nto N s = nto N r) then fX5_bar_J89 (nI r) (nI s) i σ else some (-1, σ) := by
  have hR := hN.1.1
  obtain ⟨e1, e2, -, -, -, b1, b2, -⟩ := hN.2.2.1 r hr
  obtain ⟨f1, f2, -, -, -, c1, c2, -⟩ := hN.2.2.1 s hs
  simp only [ib_nI (show r < 30 by omega) (by decide), ib_nI (show s < 30 by omega) (by decide), cl_nI (show r < 2147483648 by omega), cl_nI (show s < 2147483648 by omega), ↓reduceIte, e1, e2, f1, f2]
  simp only [eq_nI (show nfr N r < 2147483648 by omega) (show nfr N s < 2147483648 by omega), eq_nI (show nfr N r < 2147483648 by omega) (show nto N s < 2147483648 by omega), eq_nI (show nto N r < 2147483648 by omega) (show nfr N s < 2147483648 by omega), eq_nI (show nto N r < 2147483648 by omega) (show nto N s < 2147483648 by omega)]
  by_cases h1 : nfr N r = nfr N s
  · rw [if_pos h1, if_pos (by omega)]
  · rw [if_neg h1]
    by_cases h2 : nfr N r = nto N s
    · rw [if_pos h2, if_pos (by omega)]
    · rw [if_neg h2]
      by_cases h3 : nto N r = nfr N s
      · rw [if_pos h3, if_pos (by omega)]
      · rw [if_neg h3]
        by_cases h4 : nto N r = nto N s
        · rw [if_pos h4, if_pos (by omega)]
        · rw [if_neg h4, if_neg (by omega)]
theorem st_bar (a b i : Int32) : Step InvW (fX4_bar a b i) (fX5_bar a b i) := by
  rintro σX σM ⟨N, A, hA, hX, hM⟩
  have hI : InvW σX σM := ⟨N, A, hA, hX, hM⟩
  have hR := hX.1.1.1
  unfold fX4_bar fX5_bar
  rcases road_cases hX.1 hM.1 a with ⟨r, hr, e, g1, g1'⟩ | ⟨g1, g1'⟩
  · subst e
    rw [g1, g1']
    simp only [cb, Option.bind_some]
    rw [if_neg (show ¬ (1 : Int32) = 0 by decide), if_neg (show ¬ (1 : Int32) = 0 by decide)]
    rcases road_cases hX.1 hM.1 b with ⟨s, hs, e, g2, g2'⟩ | ⟨g2, g2'⟩
    · subst e
      rw [g2, g2']
      simp only [Option.bind_some]
      rw [if_neg (show ¬ (1 : Int32) = 0 by decide), if_neg (show ¬ (1 : Int32) = 0 by decide)]
      simp only [X_within, M_within, Option.bind_some, bif0, M_common hM.1 hr hs, X_common hX.1 hr hs]
      by_cases k1 : (0 : Int32) ≤ i ∧ i ≤ 1
      · rw [if_pos k1, if_pos k1]
        by_cases k2 : (nfr N s = nfr N r ∨ nto N s = nfr N r) ∨ (nfr N s = nto N r ∨ nto N s = nto N r)
        · rw [if_pos k2, if_pos k2]
          have hx : (30 : Int32) * nI r + nI s = nI (30 * r + s) := by rw [show (30 : Int32) * nI r = nI (30 * r) from pk_mul 30 r, nI_add]
          have hbx : (σX.1 12 r >>> (nI s &&& 31)) &&& 1 = bx (σX.1 12 r) s := rfl
          have hbi := hX.1.2.2.2 r s hr hs
          have hmi := hM.1.2.2.2 r s hr hs
          unfold fX2_isBarred fX5_bar_J89 fX5_bar_J108 fX5_bar_J130 fX4_bar_J62 fX4_bar_J93 fX4_bar_J90
          simp only [hx, ib_nI (show r < 30 by omega) (by decide), ib_nI (show 30 * r + s < 900 by omega) (by decide), cl_nI (show r < 2147483648 by omega), cl_nI (show 30 * r + s < 2147483648 by omega), ↓reduceIte, hbx, bindv, nar0, nar1, cb]
          have up : ∀ j, (aup N (6 + r) s j) 0 = N 0 := fun j => au_row _ (by omega)
          have hlo : ∀ j a, a < 6 → (aup N (6 + r) s j) a = N a := fun j a ha => au_row _ (by omega)
          have hb : ∀ j r' s', nba (aup N (6 + r) s j) r' s' ↔ if r' = r ∧ s' = s then j ≠ 0 else nba N r' s' := fun j r' s' => by
            show aup N (6 + r) s j (6 + r') s' ≠ 0 ↔ _
            rw [aup_eq]
            by_cases e : r' = r ∧ s' = s
            · rw [if_pos e, if_pos (by omega)]
            · rw [if_neg e, if_neg (by omega)]
          obtain ⟨σ1, f1, f2⟩ := X_forgetWays σX
          have hX1 := f2.gx hX
          have e12 : σX.1 12 r = σ1.1 12 r := (f2.2.2.1 12 r (by decide)).symm
          obtain ⟨j, -, hj, e⟩ := num_of (l := 0) (m := 1) (by decide) (by decide) k1
          subst e
          by_cases hn : nba N r s
          · have hm0 : ¬ σM.1 8 (30 * r + s) = 0 := fun z => hmi.mp z hn
            have hx1 : bx (σX.1 12 r) s = 1 := (bx_01 _ (by omega)).resolve_left (fun z => hbi.mp z hn)
            rw [hx1, if_pos (show (1 : Int32) = 1 from rfl), if_neg hm0]
            simp only [Option.bind_some]
            rw [if_neg (show ¬ (1 : Int32) = 0 by decide)]
            rcases (show j = 0 ∨ j = 1 by omega) with e | e
            · subst e
              rw [if_neg (show ¬ (1 : Int32) = nI 0 by decide), if_neg (show ¬ nI 0 = (1 : Int32) by decide), f1]
              simp only [Option.bind_some]
              rw [if_neg (show ¬ nI 0 = (1 : Int32) by decide)]
              unfold fX2_setBarred fX2_setBarred_J37
              simp only [bindv, ↓reduceIte, ib_nI (show r < 30 by omega) (by decide), cl_nI (show r < 2147483648 by omega), Option.bind_some]
              exact ⟨_, _, _, rfl, rfl, aup N (6 + r) s 0, A, hA.lo (hlo 0 0 (by omega)) (hlo 0 1 (by omega)) (hlo 0 2 (by omega)), hX1.bar (v := 0) f2.1 f2.2.1 (hlo 0) (fun r' s' => (hb 0 r' s').trans (by simp)) hr hs (fun t ht => bx_clr _ (by omega) ht), hM.bar (v := False) (hlo 0) (fun r' s' => (hb 0 r' s').trans (by simp)) hr hs (by simp)⟩
            · subst e
              rw [if_pos (show (1 : Int32) = nI 1 from rfl), if_pos (show nI 1 = (1 : Int32) from rfl)]
              refine ⟨_, _, _, rfl, rfl, N, A, hA, hX, hM.bar (v := True) (fun _ _ => rfl) (fun r' s' => ?_) hr hs (by decide)⟩
              by_cases e : r' = r ∧ s' = s
              · rw [if_pos e, e.1, e.2]; exact iff_true_intro hn
              · rw [if_neg e]
          · have hm0 : σM.1 8 (30 * r + s) = 0 := hmi.mpr hn
            have hx0 : bx (σX.1 12 r) s = 0 := hbi.mpr hn
            rw [hx0, if_neg (show ¬ (0 : Int32) = 1 by decide), if_pos hm0]
            simp only [Option.bind_some, ↓reduceIte]
            rcases (show j = 0 ∨ j = 1 by omega) with e | e
            · subst e
              rw [if_pos (show (0 : Int32) = nI 0 from rfl), if_neg (show ¬ nI 0 = (1 : Int32) by decide)]
              refine ⟨_, _, _, rfl, rfl, N, A, hA, hX, hM.bar (v := False) (fun _ _ => rfl) (fun r' s' => ?_) hr hs (by simp)⟩
              by_cases e : r' = r ∧ s' = s
              · rw [if_pos e, e.1, e.2]; exact iff_false_intro hn
              · rw [if_neg e]
            · subst e
              rw [if_neg (show ¬ (0 : Int32) = nI 1 by decide), if_pos (show nI 1 = (1 : Int32) from rfl), f1]
              simp only [Option.bind_some]
              rw [if_pos (show nI 1 = (1 : Int32) from rfl)]
              unfold fX2_setBarred fX2_setBarred_J37
              simp only [bindv, ↓reduceIte, show ¬ (1 : Int32) = 0 by decide, ib_nI (show r < 30 by omega) (by decide), cl_nI (show r < 2147483648 by omega), Option.bind_some]
              exact ⟨_, _, _, rfl, rfl, aup N (6 + r) s 1, A, hA.lo (hlo 1 0 (by omega)) (hlo 1 1 (by omega)) (hlo 1 2 (by omega)), hX1.bar (v := 1) f2.1 f2.2.1 (hlo 1) (fun r' s' => (hb 1 r' s').trans (by simp)) hr hs (fun t ht => bx_set _ (by omega) ht), hM.bar (v := True) (hlo 1) (fun r' s' => (hb 1 r' s').trans (by simp)) hr hs (by decide)⟩
        · rw [if_neg k2, if_neg k2]; exact ⟨_, _, _, rfl, rfl, hI⟩
      · rw [if_neg k1, if_neg k1]; exact ⟨_, _, _, rfl, rfl, hI⟩
    · rw [g2, g2']
      simp only [Option.bind_some, ↓reduceIte]
      exact ⟨_, _, _, rfl, rfl, hI⟩
  · rw [g1, g1']
    simp only [cb, Option.bind_some, ↓reduceIte]
    exact ⟨_, _, _, rfl, rfl, hI⟩
end Ops5
