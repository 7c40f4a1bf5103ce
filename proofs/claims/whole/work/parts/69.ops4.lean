-- pure: road, bar (own work)
section Ops4
variable {N : NET} {A A' : AS} {d : Nat}
theorem RX.ff {σ σ' : ST} (h : RX σ A) (e : ∀ a b, ((a = 1 ∧ b = 0) ∨ a = 7 ∨ a = 8 ∨ (a = 0 ∧ (b = 4 ∨ b = 6)) ∨ 26 ≤ a ∨ (a = 3 ∧ b ≤ 1) ∨ a = 5) → σ'.1 a b = σ.1 a b) (hr : ∀ j, σ'.2.1 4 j = σ.2.1 4 j) (hn : σ'.2.2 = σ.2.2) : RX σ' A := by
  obtain ⟨r1, r2, r3, r4⟩ := RX_iff.mp h
  exact RX_iff.mpr ⟨r1.of (fun a b z => e a b (by omega)) (fun _ _ => rfl), r2.of (fun a b z => e a b (by omega)) hr hn (fun _ _ => rfl), r3.of (fun b hb => e 3 b (by omega)) rfl, r4.of (fun a b z => e a b (by omega)) (fun _ _ => rfl)⟩
theorem RM.ff {σ σ' : ST} (h : RM σ A) (e : ∀ a b, ((a = 0 ∧ (b = 2 ∨ b = 15 ∨ b = 16 ∨ b = 17 ∨ b = 19)) ∨ a = 1 ∨ a = 2 ∨ (9 ≤ a ∧ a ≤ 14)) → σ'.1 a b = σ.1 a b) : RM σ' A := by
  obtain ⟨r1, r2, r3, r4⟩ := RM_iff.mp h
  exact RM_iff.mpr ⟨r1.of (fun a b z => e a b (by omega)) (fun _ _ => rfl), r2.of (fun a b z => e a b (by omega)) (fun _ _ => rfl), r3.of (fun b hb => e 0 b (by omega)) rfl, r4.of (fun a b z => e a b (by omega)) (fun _ _ => rfl)⟩
/-- after forgetWays -/
def FGT (σ σ' : ST) : Prop := σ'.2.1 3 12 = none ∧ (∀ g, g < 60 → σ'.1 16 g = 0) ∧ (∀ a b, a ≠ 16 → σ'.1 a b = σ.1 a b) ∧ (∀ j, σ'.2.1 4 j = σ.2.1 4 j) ∧ σ'.2.2 = σ.2.2
theorem X_forgetL : ∀ (m i n : Nat) (σ : ST), i + m = 60 → m < n → (∀ g, g < i → σ.1 16 g = 0) → ∃ σ', fX3_forget_L2 n (nI i) σ = some ((), σ') ∧ Fr (fun a _ => a = 16) σ σ' ∧ ∀ g, g < 60 → σ'.1 16 g = 0 := by
  intro m
  induction m with
  | zero =>
    intro i n σ hi hn h
    obtain ⟨n, rfl⟩ : ∃ m, n = m + 1 := ⟨n - 1, by omega⟩
    refine ⟨σ, ?_, Fr.rf, fun g hg => h g (by omega)⟩
    rw [uX3_forget_L2]
    unfold fX3_forget_B2
    rw [if_pos (show (60 : Int32) ≤ nI i by rw [show (60 : Int32) = nI 60 from rfl, le_nI (by omega) (by omega)]; omega)]
  | succ m ih =>
    intro i n σ hi hn h
    obtain ⟨n, rfl⟩ : ∃ m, n = m + 1 := ⟨n - 1, by omega⟩
    obtain ⟨σ', g1, g2, g3⟩ := ih (i + 1) n (stI σ 16 i (vp_nar .boolean 0)) (by omega) (by omega) (fun g hg => by
      by_cases e : g = i
      · subst e; exact st_at _ _ _ _
      · rw [st_idx _ _ e]; exact h g (by omega))
    refine ⟨σ', ?_, Fr.tr (P := fun a _ => a = 16) (Fr.rf.st rfl) g2, g3⟩
    rw [uX3_forget_L2]
    unfold fX3_forget_B2
    rw [if_neg (show ¬ (60 : Int32) ≤ nI i by rw [show (60 : Int32) = nI 60 from rfl, le_nI (by omega) (by omega)]; omega), if_pos (ib_nI (show i < 60 by omega) (by decide)), cl_nI (by omega)]
    simp only [bindv, nI_1]
    exact g1
theorem X_forgetWays (σ : ST) : ∃ σ', fX4_forgetWays σ = some ((), σ') ∧ FGT σ σ' := by
  obtain ⟨f, hf⟩ := FU_add 100 (by decide)
  obtain ⟨σ', g1, g2, g3⟩ := X_forgetL 60 0 FU σ (by omega) (by rw [hf]; omega) (fun g hg => by omega)
  refine ⟨stR σ' 3 12 none, ?_, sr_at _ _ _ _, g3, fun a b h => g2.1 a b h, fun j => (sr_ne _ _ (by omega)).trans (by rw [g2.2]), by show σ'.2.2 = _; rw [g2.2]⟩
  unfold fX4_forgetWays fX3_forget fX1_forget
  rw [show (0 : Int32) = nI 0 from rfl, g1]
  rfl
theorem FGT.gx {σ σ' : ST} (h : FGT σ σ') (hX : GX σ N A) : GX σ' N A := by
  obtain ⟨h1, h2, h3, h4, h5⟩ := h
  have hR := hX.1.1.1
  exact ⟨hX.1.ff (fun a b z => h3 a b (by omega)), fun g hg => Or.inl (h2 g (by omega)), hX.2.2.1.ff (fun a b z => h3 a b (by omega)) h4 h5, fun r s y1 y2 y3 => by rw [h3 12 r (by omega)]; exact hX.2.2.2.1 r s y1 y2 y3, Or.inl h1⟩
theorem knot_cases (hA : WFA N A) {σX σM : ST} (hX : RX σX A) (hM : RM σM A) (a : Int32) : (∃ p, p < A 0 0 ∧ a = nI p ∧ fX2_hasKnot a σX = some (1, σX) ∧ fX5_isKnot a σM = some (1, σM)) ∨ (fX2_hasKnot a σX = some (0, σX) ∧ fX5_isKnot a σM = some (0, σM)) := by
  have h16 := hA.1.1
  have e1 := range_of a hX.1.1 (by omega) σX
  have e2 := range_of a hM.1.1 (by omega) σM
  rcases e1 with ⟨⟨p, h1, h2⟩, h3⟩ | ⟨h1, h2⟩
  · rcases e2 with ⟨_, h⟩ | ⟨hno, _⟩
    · exact Or.inl ⟨p, h1, h2, h3, h⟩
    · exact absurd ⟨p, h1, h2⟩ hno
  · rcases e2 with ⟨h, _⟩ | ⟨_, h⟩
    · exact absurd h h1
    · exact Or.inr ⟨h2, h⟩
theorem X_isFee (f k : Int32) (σ : ST) : fX4_isFeeOfKind f k σ = some (if (if k = 3 then (1 : Int32) ≤ f ∧ f ≤ 99 else f = 0) then 1 else 0, σ) := by
  unfold fX4_isFeeOfKind
  by_cases h : k = 3
  · simp only [h, ↓reduceIte, X_within, cb, Option.bind_some]
    by_cases h2 : (1 : Int32) ≤ f ∧ f ≤ 99
    · simp only [h2, and_self, ↓reduceIte, or_true]
    · simp only [h2, ↓reduceIte, true_or]
  · simp only [h, ↓reduceIte]
    by_cases h2 : f = 0
    · simp only [h2, ↓reduceIte]
    · simp only [h2, ↓reduceIte]
theorem neg_div {a : Int32} (h : a < 0) : a / 100 < 0 ∨ a - a / 100 * 100 < 0 := by
  have h0 : (0 : Int32).toInt = 0 := rfl
  have h100 : (100 : Int32).toInt = 100 := rfl
  by_cases h1 : a / 100 < 0
  · exact Or.inl h1
  · right
    have e : (a / 100).toInt = a.toInt.tdiv (100 : Int32).toInt := Int32.toInt_div_of_ne_right a 100 (by decide)
    rw [Int32.lt_iff_toInt_lt, h0] at h h1
    have h2 : a.toInt.tdiv 100 ≤ 0 := by
      rw [show a.toInt = -(-a.toInt) by omega, Int.neg_tdiv, Int.tdiv_eq_ediv_of_nonneg (by omega)]; omega
    have h3 : a / 100 = 0 := by
      apply Int32.toInt_inj.mp
      rw [h0]; rw [h100] at e; omega
    rw [h3, Int32.zero_mul, Int32.sub_zero, Int32.lt_iff_toInt_lt, h0]
    exact h
/-- the net with one road more -/
def nroad (N : NET) (p q l k f : Nat) : NET := fun a b => if 6 ≤ a then (if a = 6 + nR N ∨ b = nR N then 0 else N a b) else if a = 0 then (if b = 0 then nR N + 1 else N 0 b) else if b = nR N then (if a = 1 then p else if a = 2 then q else if a = 3 then l else if a = 4 then k else f) else N a b
theorem nroad1 (N : NET) (p q l k f r : Nat) : nfr (nroad N p q l k f) r = if r = nR N then p else nfr N r := by simp [nroad, nfr]
theorem nroad2 (N : NET) (p q l k f r : Nat) : nto (nroad N p q l k f) r = if r = nR N then q else nto N r := by simp [nroad, nto]
theorem nroad3 (N : NET) (p q l k f r : Nat) : nln (nroad N p q l k f) r = if r = nR N then l else nln N r := by simp [nroad, nln]
theorem nroad4 (N : NET) (p q l k f r : Nat) : nkd (nroad N p q l k f) r = if r = nR N then k else nkd N r := by simp [nroad, nkd]
theorem nroad5 (N : NET) (p q l k f r : Nat) : nfe (nroad N p q l k f) r = if r = nR N then f else nfe N r := by simp [nroad, nfe]
theorem aup_eq (A : AS) (k i v a b : Nat) : aup A k i v a b = if a = k ∧ b = i then v else A a b := rfl
theorem X_addRoad {σ : ST} {n p q l k f : Nat} (hn : n < 30) (hk : k < 4) (h : σ.1 1 3 = nI n) : fX2_addRoad (nI p) (nI q) (nI l) (nI k) (nI f) σ = some (nI n, stI (stI (stI (stI (stI (stI (stI (stI σ 1 3 (nI (n + 1))) 9 n (nI l)) 11 n (nI f)) 14 (2 * n) (nI p)) 14 (2 * n + 1) (nI q)) 13 (2 * n + 1) (nI p)) 10 n (nI k)) 13 (2 * n) (if k = 1 then -1 else nI q)) := by
  have hx : (2 : Int32) * nI n = nI (2 * n) := pk_mul 2 n
  unfold fX2_addRoad fX2_setKind fX2_setKind_J33
  simp only [h, bindv, nI_1, hx, ib_nI (show n < 30 by omega) (by decide), ib_nI (show 2 * n < 60 by omega) (by decide), ib_nI (show 2 * n + 1 < 60 by omega) (by decide), cl_nI (show n < 2147483648 by omega), cl_nI (show 2 * n < 2147483648 by omega), cl_nI (show 2 * n + 1 < 2147483648 by omega), ↓reduceIte, cb]
  rw [if_pos (show nI n < 30 by rw [show (30 : Int32) = nI 30 from rfl, lt_nI (by omega) (by omega)]; exact hn)]
  by_cases h1 : k = 1
  · rw [if_pos h1, h1, if_pos (show nI 1 = 1 from rfl)]
    rfl
  · rw [if_neg h1, if_neg (show ¬ nI k = 1 by rw [show (1 : Int32) = nI 1 from rfl, eq_nI (by omega) (by omega)]; exact h1), st_cell _ _ _ (by decide), st_cell _ _ _ (by decide), st_at]
    rfl
theorem st_road (a l k f : Int32) : Step InvW (fX4_road a l k f) (fX5_road a l k f) := by
  rintro σX σM ⟨N, A, hA, hX, hM⟩
  have hI : InvW σX σM := ⟨N, A, hA, hX, hM⟩
  obtain ⟨w1, w2, w3, w4⟩ := WFA_iff.mp hA
  have hR := hX.1.1.1
  have h16 := w1.1
  unfold fX4_road fX5_road
  simp only [bindv]
  by_cases hneg : a < 0
  · rw [if_pos hneg]
    rcases knot_cases hA hX.2.2.1 hM.2.2.1 (a / 100) with ⟨p, hp, e1, g1, -⟩ | ⟨g1, -⟩
    · rcases knot_cases hA hX.2.2.1 hM.2.2.1 (a - a / 100 * 100) with ⟨q, hq, e2, -, -⟩ | ⟨g2, -⟩
      · exfalso
        rcases neg_div hneg with z | z
        · rw [e1] at z; exact nI_nn (by omega) z
        · rw [e2] at z; exact nI_nn (by omega) z
      · refine ⟨-1, σX, σM, ?_, rfl, hI⟩
        rw [g1]; simp only [cb, Option.bind_some]
        rw [if_neg (show ¬ (1 : Int32) = 0 by decide), g2]; simp only [Option.bind_some, ↓reduceIte]
    · refine ⟨-1, σX, σM, ?_, rfl, hI⟩
      rw [g1]; simp only [cb, Option.bind_some, ↓reduceIte]
  · rw [if_neg hneg]
    obtain ⟨u, hu, e⟩ := nn_of hneg
    subst e
    have q1 : nI u / 100 = nI (u / 100) := div_nI (d := 100) (by omega) (by decide) (by decide)
    have q2 : nI u - nI (u / 100) * 100 = nI (u % 100) := by rw [← q1]; exact rem_nI (d := 100) (by omega) (by decide) (by decide)
    simp only [q1, q2]
    rcases knot_cases hA hX.2.2.1 hM.2.2.1 (nI (u / 100)) with ⟨p, hp, e1, g1, g1'⟩ | ⟨g1, g1'⟩
    · rcases knot_cases hA hX.2.2.1 hM.2.2.1 (nI (u % 100)) with ⟨q, hq, e2, g2, g2'⟩ | ⟨g2, g2'⟩
      · rw [g1, g1']
        simp only [cb, Option.bind_some]
        rw [if_neg (show ¬ (1 : Int32) = 0 by decide), if_neg (show ¬ (1 : Int32) = 0 by decide), g2, g2']
        simp only [Option.bind_some]
        rw [if_neg (show ¬ (1 : Int32) = 0 by decide), if_neg (show ¬ (1 : Int32) = 0 by decide)]
        by_cases hab : nI (u / 100) = nI (u % 100)
        · rw [if_pos hab, if_pos hab]; exact ⟨_, _, _, rfl, rfl, hI⟩
        · rw [if_neg hab, if_neg hab]
          simp only [X_within, M_within, Option.bind_some, bif0, X_isFee]
          by_cases k1 : (1 : Int32) ≤ l ∧ l ≤ 200
          · rw [if_pos k1, if_pos k1]
            by_cases k2 : (0 : Int32) ≤ k ∧ k ≤ 3
            · rw [if_pos k2, if_pos k2]
              obtain ⟨ln, hl1, hl, e⟩ := num_of (l := 1) (m := 200) (by decide) (by decide) k1
              subst e
              obtain ⟨kd, -, hk, e⟩ := num_of (l := 0) (m := 3) (by decide) (by decide) k2
              subst e
              rw [eq_nI (by omega) (by omega)] at e1 e2
              rw [e1, e2]
              rw [e1] at q1 q2
              rw [e2] at q2
              have go : ∀ fe, fe ≤ 99 → ∃ r σX' σM', ((fX4_forgetWays σX).bind fun s => (fX2_addRoad (nI p) (nI q) (nI ln) (nI kd) (nI fe) s.2).bind fun s => some (s.1, s.2)) = some (r, σX') ∧ fX5_road_J83 (nI u) (nI ln) (nI kd) (nI fe) σM = some (r, σM') ∧ InvW σX' σM' := by
                intro fe hfe
                obtain ⟨σ1, f1, f2⟩ := X_forgetWays σX
                rw [f1]
                have hX1 := f2.gx hX
                unfold fX5_road_J83
                simp only [Option.bind_some, hM.1.2.1]
                by_cases hn : nR N < 30
                · rw [X_addRoad hn (by omega) hX1.1.2.1, if_neg (show ¬ nI (nR N) = 30 by rw [show (30 : Int32) = nI 30 from rfl, eq_nI (by omega) (by omega)]; omega)]
                  have c08 : ∀ (σ : ST) a i x, a ≠ 0 → (stI σ a i x).1 0 8 = σ.1 0 8 := fun σ a i x h => st_cell _ _ _ (fun e => h e.symm)
                  have c0 : ∀ (σ : ST) x, (stI σ 0 20 x).1 0 8 = σ.1 0 8 := fun σ x => st_idx _ _ (by decide)
                  simp only [q1, q2, bindv, ib_nI (show nR N < 30 by omega) (by decide), cl_nI (show nR N < 2147483648 by omega), ↓reduceIte, c08 _ 3 _ _ (by decide), c08 _ 4 _ _ (by decide), c08 _ 5 _ _ (by decide), c08 _ 6 _ _ (by decide), c08 _ 7 _ _ (by decide), c0, hM.1.2.1, st_at, nI_1, nI_pred, Option.bind_some]
                  refine ⟨_, _, _, rfl, rfl, nroad N p q ln kd fe, A, ?_⟩
                  have n0 : nR (nroad N p q ln kd fe) = nR N + 1 := rfl
                  have n1 : ∀ r, nfr (nroad N p q ln kd fe) r = if r = nR N then p else nfr N r := fun r => nroad1 N p q ln kd fe r
                  have n2 : ∀ r, nto (nroad N p q ln kd fe) r = if r = nR N then q else nto N r := fun r => nroad2 N p q ln kd fe r
                  have n3 : ∀ r, nln (nroad N p q ln kd fe) r = if r = nR N then ln else nln N r := fun r => nroad3 N p q ln kd fe r
                  have n4 : ∀ r, nkd (nroad N p q ln kd fe) r = if r = nR N then kd else nkd N r := fun r => nroad4 N p q ln kd fe r
                  have n5 : ∀ r, nfe (nroad N p q ln kd fe) r = if r = nR N then fe else nfe N r := fun r => nroad5 N p q ln kd fe r
                  have n6 : ∀ r s, nroad N p q ln kd fe (6 + r) s = if r = nR N ∨ s = nR N then 0 else N (6 + r) s := fun r s => by
                    show (if 6 ≤ 6 + r then (if 6 + r = 6 + nR N ∨ s = nR N then 0 else N (6 + r) s) else _) = _
                    rw [if_pos (by omega)]
                    by_cases h : r = nR N ∨ s = nR N
                    · rw [if_pos h, if_pos (by omega)]
                    · rw [if_neg h, if_neg (by omega)]
                  generalize nroad N p q ln kd fe = N' at n0 n1 n2 n3 n4 n5 n6
                  have hWN : WFN N' := by
                    refine ⟨by omega, fun r hr => ?_⟩
                    rw [n3, n5]
                    by_cases h : r = nR N
                    · rw [if_pos h, if_pos h]; omega
                    · rw [if_neg h, if_neg h]; exact hX.1.1.2 r (by omega)
                  have hW : WFA N' A := by
                    refine WFA_iff.mpr ⟨⟨w1.1, w1.2.1, fun r hr => ?_⟩, w2, w3, w4.1, fun i hi => ?_⟩
                    · rw [n1, n2]
                      by_cases h : r = nR N
                      · rw [if_pos h, if_pos h]; omega
                      · rw [if_neg h, if_neg h]; exact w1.2.2 r (by omega)
                    · have := w4.2 i hi; omega
                  have ro : ∀ r, r < nR N' → r ≠ nR N → r < nR N := fun r h1 h2 => by omega
                  refine ⟨hW, ⟨⟨hWN, ?_, fun r hr => ?_, fun r s hr hs => ?_⟩, fun g hg => Or.inl ?_, ?_, fun r s hr hs hno => ?_, Or.inl f2.1⟩, ⟨hWN, ?_, fun r hr => ?_, fun r s hr hs => ?_⟩, Or.inl (st_at _ _ _ _), ?_, fun r s hr hs hno => ?_⟩
                  · rw [n0]
                    rw [st_ne _ _ (by omega), st_ne _ _ (by omega), st_ne _ _ (by omega), st_ne _ _ (by omega), st_ne _ _ (by omega), st_ne _ _ (by omega), st_ne _ _ (by omega)]
                    exact st_at _ _ _ _
                  · rw [n1, n2, n3, n4, n5]
                    have hFX : Fr (fun a b => (a = 1 ∧ b = 3) ∨ ((a = 9 ∨ a = 10 ∨ a = 11) ∧ b = nR N) ∨ ((a = 13 ∨ a = 14) ∧ (b = 2 * nR N ∨ b = 2 * nR N + 1))) σ1 (stI (stI (stI (stI (stI (stI (stI (stI σ1 1 3 (nI (nR N + 1))) 9 (nR N) (nI ln)) 11 (nR N) (nI fe)) 14 (2 * nR N) (nI p)) 14 (2 * nR N + 1) (nI q)) 13 (2 * nR N + 1) (nI p)) 10 (nR N) (nI kd)) 13 (2 * nR N) (if kd = 1 then -1 else nI q)) := (((((((Fr.rf.st (by omega)).st (by omega)).st (by omega)).st (by omega)).st (by omega)).st (by omega)).st (by omega)).st (by omega)
                    by_cases h : r = nR N
                    · simp only [if_pos h]
                      rw [h]
                      refine ⟨?_, ?_, ?_, ?_, ?_, ?_, st_at _ _ _ _, by omega, by omega, by omega⟩
                      · rw [st_ne _ _ (by omega), st_ne _ _ (by omega), st_ne _ _ (by omega), st_ne _ _ (by omega), st_ne _ _ (by omega), st_ne _ _ (by omega)]; exact st_at _ _ _ _
                      · rw [st_ne _ _ (by omega)]; exact st_at _ _ _ _
                      · rw [st_ne _ _ (by omega), st_ne _ _ (by omega), st_ne _ _ (by omega), st_ne _ _ (by omega), st_ne _ _ (by omega)]; exact st_at _ _ _ _
                      · rw [st_ne _ _ (by omega), st_ne _ _ (by omega), st_ne _ _ (by omega), st_ne _ _ (by omega)]; exact st_at _ _ _ _
                      · rw [st_ne _ _ (by omega), st_ne _ _ (by omega), st_ne _ _ (by omega)]; exact st_at _ _ _ _
                      · rw [st_ne _ _ (by omega), st_ne _ _ (by omega)]; exact st_at _ _ _ _
                    · simp only [if_neg h]
                      rw [hFX.1 9 _ (by omega), hFX.1 10 _ (by omega), hFX.1 11 _ (by omega), hFX.1 14 _ (by omega), hFX.1 14 _ (by omega), hFX.1 13 _ (by omega), hFX.1 13 _ (by omega)]
                      exact hX1.1.2.2.1 r (ro r hr h)
                  · rw [st_ne _ _ (by omega), st_ne _ _ (by omega), st_ne _ _ (by omega), st_ne _ _ (by omega), st_ne _ _ (by omega), st_ne _ _ (by omega), st_ne _ _ (by omega), st_ne _ _ (by omega)]
                    show _ ↔ ¬ N' (6 + r) s ≠ 0
                    rw [n6]
                    by_cases h : r = nR N ∨ s = nR N
                    · rw [if_pos h]
                      exact ⟨fun _ z => z rfl, fun _ => hX1.2.2.2.1 r s (by omega) (by omega) (by omega)⟩
                    · rw [if_neg h]
                      exact hX1.1.2.2.2 r s (by omega) (by omega)
                  · rw [st_ne _ _ (by omega), st_ne _ _ (by omega), st_ne _ _ (by omega), st_ne _ _ (by omega), st_ne _ _ (by omega), st_ne _ _ (by omega), st_ne _ _ (by omega), st_ne _ _ (by omega)]
                    exact f2.2.1 g (by omega)
                  · refine hX1.2.2.1.ff (fun a b z => ?_) (fun _ => rfl) rfl
                    rw [st_ne _ _ (by omega), st_ne _ _ (by omega), st_ne _ _ (by omega), st_ne _ _ (by omega), st_ne _ _ (by omega), st_ne _ _ (by omega), st_ne _ _ (by omega), st_ne _ _ (by omega)]
                  · rw [st_ne _ _ (by omega), st_ne _ _ (by omega), st_ne _ _ (by omega), st_ne _ _ (by omega), st_ne _ _ (by omega), st_ne _ _ (by omega), st_ne _ _ (by omega), st_ne _ _ (by omega)]
                    exact hX1.2.2.2.1 r s hr hs (by omega)
                  · rw [n0, st_idx _ _ (by decide)]; exact st_at _ _ _ _
                  · rw [n1, n2, n3, n4, n5]
                    by_cases h : r = nR N
                    · simp only [if_pos h]
                      rw [h]
                      refine ⟨?_, ?_, ?_, ?_, ?_, by omega, by omega, by omega⟩
                      · rw [st_ne _ _ (by omega), st_ne _ _ (by omega), st_ne _ _ (by omega), st_ne _ _ (by omega), st_ne _ _ (by omega), st_ne _ _ (by omega)]; exact st_at _ _ _ _
                      · rw [st_ne _ _ (by omega), st_ne _ _ (by omega), st_ne _ _ (by omega), st_ne _ _ (by omega), st_ne _ _ (by omega)]; exact st_at _ _ _ _
                      · rw [st_ne _ _ (by omega), st_ne _ _ (by omega), st_ne _ _ (by omega), st_ne _ _ (by omega)]; exact st_at _ _ _ _
                      · rw [st_ne _ _ (by omega), st_ne _ _ (by omega), st_ne _ _ (by omega)]; exact st_at _ _ _ _
                      · rw [st_ne _ _ (by omega), st_ne _ _ (by omega)]; exact st_at _ _ _ _
                    · simp only [if_neg h]
                      have hFM : Fr (fun a b => (a = 0 ∧ (b = 8 ∨ b = 20)) ∨ (3 ≤ a ∧ a ≤ 7 ∧ b = nR N)) σM (stI (stI (stI (stI (stI (stI (stI σM 3 (nR N) (nI p)) 4 (nR N) (nI q)) 5 (nR N) (nI ln)) 6 (nR N) (nI kd)) 7 (nR N) (nI fe)) 0 8 (nI (nR N + 1))) 0 20 0) := ((((((Fr.rf.st (by omega)).st (by omega)).st (by omega)).st (by omega)).st (by omega)).st (by omega)).st (by omega)
                      rw [hFM.1 3 _ (by omega), hFM.1 4 _ (by omega), hFM.1 5 _ (by omega), hFM.1 6 _ (by omega), hFM.1 7 _ (by omega)]
                      exact hM.1.2.2.1 r (ro r hr h)
                  · rw [st_ne _ _ (by omega), st_ne _ _ (by omega), st_ne _ _ (by omega), st_ne _ _ (by omega), st_ne _ _ (by omega), st_ne _ _ (by omega), st_ne _ _ (by omega)]
                    show _ ↔ ¬ N' (6 + r) s ≠ 0
                    rw [n6]
                    by_cases h : r = nR N ∨ s = nR N
                    · rw [if_pos h]
                      exact ⟨fun _ z => z rfl, fun _ => hM.2.2.2 r s (by omega) (by omega) (by omega)⟩
                    · rw [if_neg h]
                      exact hM.1.2.2.2 r s (by omega) (by omega)
                  · refine hM.2.2.1.ff (fun a b z => ?_)
                    rw [st_ne _ _ (by omega), st_ne _ _ (by omega), st_ne _ _ (by omega), st_ne _ _ (by omega), st_ne _ _ (by omega), st_ne _ _ (by omega), st_ne _ _ (by omega)]
                  · rw [st_ne _ _ (by omega), st_ne _ _ (by omega), st_ne _ _ (by omega), st_ne _ _ (by omega), st_ne _ _ (by omega), st_ne _ _ (by omega), st_ne _ _ (by omega)]
                    exact hM.2.2.2 r s hr hs (by omega)
                · have h30 : nR N = 30 := by omega
                  unfold fX2_addRoad
                  rw [hX1.1.2.1, h30, if_neg (show ¬ nI 30 < 30 by decide), if_pos (show nI 30 = 30 from rfl)]
                  exact ⟨_, _, _, rfl, rfl, N, A, hA, hX1, hM⟩
              by_cases h3 : nI kd = 3
              · simp only [if_pos h3]
                by_cases k3 : (1 : Int32) ≤ f ∧ f ≤ 99
                · rw [if_pos k3, if_pos k3]
                  obtain ⟨fe, -, hf, e⟩ := num_of (l := 1) (m := 99) (by decide) (by decide) k3
                  subst e
                  exact go fe hf
                · rw [if_neg k3, if_neg k3]; exact ⟨_, _, _, rfl, rfl, hI⟩
              · simp only [if_neg h3]
                by_cases k3 : f = 0
                · rw [if_pos k3, if_pos k3, k3]
                  exact go 0 (by omega)
                · rw [if_neg k3, if_neg k3]; exact ⟨_, _, _, rfl, rfl, hI⟩
            · rw [if_neg k2, if_neg k2]; exact ⟨_, _, _, rfl, rfl, hI⟩
          · rw [if_neg k1, if_neg k1]; exact ⟨_, _, _, rfl, rfl, hI⟩
      · rw [g1, g1']
        simp only [cb, Option.bind_some]
        rw [if_neg (show ¬ (1 : Int32) = 0 by decide), if_neg (show ¬ (1 : Int32) = 0 by decide), g2, g2']
        simp only [Option.bind_some, ↓reduceIte]
        exact ⟨_, _, _, rfl, rfl, hI⟩
    · rw [g1, g1']
      simp only [cb, Option.bind_some, ↓reduceIte]
      exact ⟨_, _, _, rfl, rfl, hI⟩
end Ops4
