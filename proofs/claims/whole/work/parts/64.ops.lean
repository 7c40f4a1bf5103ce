-- pure: the calls that only look (own work)
section Ops
variable {N : NET} {A : AS} {d : Nat}
theorem Stl.fr {P : Nat → Nat → Prop} {σ σ' : ST} (h : Stl σ N A d) (hF : Fr P σ σ') (hP : ∀ a b, P a b → a ≠ 22 ∧ a ≠ 23 ∧ a ≠ 20 ∧ ¬ (a = 3 ∧ b = 14)) : Stl σ' N A d := by
  obtain ⟨hD, c, ρ, e1, e2, e3, e4⟩ := h
  refine ⟨hD.fr hF (fun a b z => ⟨(hP a b z).1, (hP a b z).2.1⟩), c, ρ, e1, e2, (hF.1 3 14 (fun z => (hP _ _ z).2.2.2 ⟨rfl, rfl⟩)).trans e3, fun j hj => (hF.1 20 j (fun z => (hP _ _ z).2.2.1 rfl)).trans (e4 j hj)⟩
/-- only ways, and the two rows for comparing, may change -/
abbrev PL : Nat → Nat → Prop := fun a _ => (15 ≤ a ∧ a ≤ 17) ∨ a = 24 ∨ a = 25 ∨ a = 6
theorem GD.fr {σ σ' : ST} (h : GD σ N A d) (hF : Fr PL σ σ') (hK : KX σ' N) : GD σ' N A d := by
  obtain ⟨h1, h2, h3, h4, h5, h6, h7, h8, h9⟩ := h
  refine ⟨h1.fr hF (fun a b z => by omega), hK, h3.fr hF (fun a b z => by omega), fun r s y1 y2 y3 => ?_, h5, by rw [hF.2]; exact h6, (hF.1 3 15 (by omega)).trans h7, h8.fr hF (fun a b z => by omega), ?_⟩
  · rw [hF.1 12 r (by omega)]; exact h4 r s y1 y2 y3
  · rcases h9 with z | ⟨z, z'⟩
    · exact Or.inl ((hF.1 3 13 (by omega)).trans z)
    · exact Or.inr ⟨(hF.1 3 13 (by omega)).trans z, z'.fr hF (fun a b z => by omega)⟩
theorem GX.fr {σ σ' : ST} (h : GX σ N A) (hF : Fr PL σ σ') (hK : KX σ' N) : GX σ' N A := by
  obtain ⟨h1, h2, h3, h4, h5⟩ := h
  refine ⟨h1.fr hF (fun a b z => by omega), hK, h3.fr hF (fun a b z => by omega), fun r s y1 y2 y3 => ?_, ?_⟩
  · rw [hF.1 12 r (by omega)]; exact h4 r s y1 y2 y3
  · rcases h5 with z | ⟨d', z⟩
    · exact Or.inl (by rw [hF.2]; exact z)
    · exact Or.inr ⟨d', z.fr hF hK⟩
def InvW (σX σM : ST) : Prop := ∃ N A, WFA N A ∧ GX σX N A ∧ GM σM N A
theorem InvW.rv {σX σM : ST} (h : InvW σX σM) : RV σX := by
  obtain ⟨N, A, hA, hG, -⟩ := h
  obtain ⟨-, -, hR, -, hc⟩ := hG
  refine ⟨fun j k h => ?_, fun k h => ?_⟩
  · rw [hR.2.1.2.2.1 j] at h
    by_cases hj : j < A 3 0
    · rw [if_pos hj] at h; cases h
      show _ < 26 + 5 * σX.2.2
      rw [hR.2.1.2.1]; omega
    · rw [if_neg hj] at h; cases h
  · rcases hc with z | ⟨d, z⟩
    · rw [z] at h; cases h
    · rw [z.2.2.2.2.2.1] at h; cases h
      have := z.2.2.2.2.1
      show _ < 26 + 5 * σX.2.2
      rw [hR.2.1.2.1]; omega
theorem X_findDrive (hA : WFA N A) {σ : ST} (hR : RX σ A) (a : Int32) : (∃ d, d < A 3 0 ∧ a = nI d ∧ fX4_findDrive a σ = some (some (26 + 5 * d), σ)) ∨ ((¬ ∃ d, d < A 3 0 ∧ a = nI d) ∧ fX4_findDrive a σ = some (none, σ)) := by
  have h6 := hA.2.1.1
  unfold fX4_findDrive fX4_findDrive_J21
  rw [hR.2.1.1]
  by_cases h1 : a < 0
  · rw [if_pos h1]
    exact Or.inr ⟨fun ⟨j, hj, e⟩ => nI_nn (j := j) (by omega) (by rw [← e]; exact h1), rfl⟩
  · rw [if_neg h1]
    by_cases h2 : nI (A 3 0) ≤ a
    · rw [if_pos h2]
      refine Or.inr ⟨fun ⟨j, hj, e⟩ => ?_, rfl⟩
      rw [e, le_nI (by omega) (by omega)] at h2; omega
    · rw [if_neg h2]
      obtain ⟨d, hd, e⟩ := idx_of (by omega) h1 h2
      subst e
      refine Or.inl ⟨d, hd, rfl, ?_⟩
      rw [if_pos (ib_nI (show d < 6 by omega) (by decide)), cl_nI (by omega), hR.2.1.2.2.1 d, if_pos hd]
      rfl
theorem M_isDrive (hA : WFA N A) {σ : ST} (hR : RM σ A) (a : Int32) : ((∃ d, d < A 3 0 ∧ a = nI d) ∧ fX5_isDrive a σ = some (1, σ)) ∨ ((¬ ∃ d, d < A 3 0 ∧ a = nI d) ∧ fX5_isDrive a σ = some (0, σ)) := range_of a hR.2.1.1 (by have := hA.2.1.1; omega) σ
theorem X_hasSight (hA : WFA N A) {σ : ST} (hR : RX σ A) (hd : d < A 3 0) (a : Int32) : ((∃ s, s < A 4 d ∧ a = nI s) ∧ fX0_hasSight (26 + 5 * d) a σ = some (1, σ)) ∨ ((¬ ∃ s, s < A 4 d ∧ a = nI s) ∧ fX0_hasSight (26 + 5 * d) a σ = some (0, σ)) := by
  have h := range_of a (hR.2.1.2.2.2 d hd).1 (by have := (hA.2.1.2 d hd).1; omega) σ
  unfold fX0_hasSight
  rw [if_pos (isDr_of hR hd)]
  exact h
theorem M_isSight (hA : WFA N A) {σ : ST} (hR : RM σ A) (a b : Int32) : ((∃ d s, d < A 3 0 ∧ s < A 4 d ∧ a = nI d ∧ b = nI s) ∧ fX5_isSight a b σ = some (1, σ)) ∨ ((¬ ∃ d s, d < A 3 0 ∧ s < A 4 d ∧ a = nI d ∧ b = nI s) ∧ fX5_isSight a b σ = some (0, σ)) := by
  have h6 := hA.2.1.1
  unfold fX5_isSight
  rcases M_isDrive hA hR a with ⟨⟨d, hd, e⟩, h⟩ | ⟨hno, h⟩
  · subst e
    have e13 := hR.2.1.2.1 d (by omega)
    rw [if_pos hd] at e13
    have h20 := (hA.2.1.2 d hd).1
    have hr := range_of b e13 (by omega) σ
    rw [h]
    simp only [cb, Option.bind_some]
    rw [if_neg (by decide), if_pos (ib_nI (show d < 6 by omega) (by decide)), cl_nI (by omega)]
    rcases hr with ⟨⟨s, hs, e⟩, h'⟩ | ⟨hno, h'⟩
    · exact Or.inl ⟨⟨d, s, hd, hs, rfl, e⟩, h'⟩
    · refine Or.inr ⟨fun ⟨d', s, h1, h2, h3, h4⟩ => hno ⟨s, ?_, h4⟩, h'⟩
      rw [eq_nI (by omega) (by omega)] at h3
      rw [h3]; exact h2
  · rw [h]
    simp only [cb, Option.bind_some]
    rw [if_pos trivial]
    exact Or.inr ⟨fun ⟨d', s, h1, h2, h3, h4⟩ => hno ⟨d', h1, h3⟩, rfl⟩
/-- a sight of a drive, or not: both sides -/
theorem sight_cases (hA : WFA N A) {σX σM : ST} (hX : RX σX A) (hM : RM σM A) (a b : Int32) : (∃ d s, d < A 3 0 ∧ s < A 4 d ∧ a = nI d ∧ b = nI s ∧ fX4_findDrive a σX = some (some (26 + 5 * d), σX) ∧ fX0_hasSight (26 + 5 * d) b σX = some (1, σX) ∧ fX5_isSight a b σM = some (1, σM)) ∨ ((fX4_findDrive a σX = some (none, σX) ∨ ∃ d, d < A 3 0 ∧ fX4_findDrive a σX = some (some (26 + 5 * d), σX) ∧ fX0_hasSight (26 + 5 * d) b σX = some (0, σX)) ∧ fX5_isSight a b σM = some (0, σM)) := by
  have h6 := hA.2.1.1
  rcases M_isSight hA hM a b with ⟨⟨d, s, hd, hs, e1, e2⟩, h⟩ | ⟨hno, h⟩
  · refine Or.inl ⟨d, s, hd, hs, e1, e2, ?_, ?_, h⟩
    · rcases X_findDrive hA hX a with ⟨d', h1, h2, h3⟩ | ⟨h1, _⟩
      · have : d' = d := by rw [e1, eq_nI (by omega) (by omega)] at h2; exact h2.symm
        rw [this] at h3; exact h3
      · exact absurd ⟨d, hd, e1⟩ h1
    · rcases X_hasSight hA hX hd b with ⟨_, h1⟩ | ⟨h1, _⟩
      · exact h1
      · exact absurd ⟨s, hs, e2⟩ h1
  · refine Or.inr ⟨?_, h⟩
    rcases X_findDrive hA hX a with ⟨d', h1, h2, h3⟩ | ⟨h1, h2⟩
    · rcases X_hasSight hA hX h1 b with ⟨⟨s, hs, e⟩, h4⟩ | ⟨h4, h5⟩
      · exact absurd ⟨d', s, h1, hs, h2, e⟩ hno
      · exact Or.inr ⟨d', h1, h3, h5⟩
    · exact Or.inl h2
theorem drive_cases (hA : WFA N A) {σX σM : ST} (hX : RX σX A) (hM : RM σM A) (a : Int32) : (∃ d, d < A 3 0 ∧ a = nI d ∧ fX4_findDrive a σX = some (some (26 + 5 * d), σX) ∧ fX5_isDrive a σM = some (1, σM)) ∨ (fX4_findDrive a σX = some (none, σX) ∧ fX5_isDrive a σM = some (0, σM)) := by
  rcases X_findDrive hA hX a with ⟨d, h1, h2, h3⟩ | ⟨h1, h2⟩
  · rcases M_isDrive hA hM a with ⟨_, h⟩ | ⟨hno, _⟩
    · exact Or.inl ⟨d, h1, h2, h3, h⟩
    · exact absurd ⟨d, h1, h2⟩ hno
  · rcases M_isDrive hA hM a with ⟨h, _⟩ | ⟨_, h⟩
    · exact absurd h h1
    · exact Or.inr ⟨h2, h⟩
theorem point_cases {σX σM : ST} (hX : NX σX N) (hM : NM σM N) (a : Int32) : (∃ p, p < 5 * nR N ∧ a = nI p ∧ fX2_hasPoint a σX = some (1, σX) ∧ fX5_isPoint a σM = some (1, σM)) ∨ ((¬ ∃ p, p < 5 * nR N ∧ a = nI p) ∧ fX2_hasPoint a σX = some (0, σX) ∧ fX5_isPoint a σM = some (0, σM)) := by
  rcases X_hasPoint hX a with ⟨⟨p, h1, h2⟩, h3⟩ | ⟨h1, h2⟩
  · rcases M_isPoint hM a with ⟨_, h⟩ | ⟨hno, _⟩
    · exact Or.inl ⟨p, h1, h2, h3, h⟩
    · exact absurd ⟨p, h1, h2⟩ hno
  · rcases M_isPoint hM a with ⟨h, _⟩ | ⟨_, h⟩
    · exact absurd h h1
    · exact Or.inr ⟨h1, h2, h⟩
theorem road_cases {σX σM : ST} (hX : NX σX N) (hM : NM σM N) (a : Int32) : (∃ p, p < nR N ∧ a = nI p ∧ fX2_hasRoad a σX = some (1, σX) ∧ fX5_isRoad a σM = some (1, σM)) ∨ (fX2_hasRoad a σX = some (0, σX) ∧ fX5_isRoad a σM = some (0, σM)) := by
  rcases X_hasRoad hX a with ⟨⟨p, h1, h2⟩, h3⟩ | ⟨h1, h2⟩
  · rcases M_isRoad hM a with ⟨_, h⟩ | ⟨hno, _⟩
    · exact Or.inl ⟨p, h1, h2, h3, h⟩
    · exact absurd ⟨p, h1, h2⟩ hno
  · rcases M_isRoad hM a with ⟨h, _⟩ | ⟨_, h⟩
    · exact absurd h h1
    · exact Or.inr ⟨h2, h⟩
theorem GM.fw {σ σ' : ST} (h : GM σ N A) (hF : Fr PW σ σ') (hC : CWM σ' N) : GM σ' N A := by
  obtain ⟨h1, h2, h3, h4⟩ := h
  refine ⟨h1.fr hF (fun a b z => by omega), hC, h3.fr hF (fun a b z => by omega), fun r s hr hs hn => ?_⟩
  rw [hF.1 8 _ (by omega)]; exact h4 r s hr hs hn
theorem st_way (a b : Int32) : Step InvW (fX4_way a b) (fX5_way a b) := by
  rintro σX σM ⟨N, A, hA, hX, hM⟩
  obtain ⟨σX', k1, k2, k3⟩ := X_way hX.1 hX.2.1 a b
  obtain ⟨σM', l1, l2, l3⟩ := M_way hM.1 hM.2.1 a b
  have hI : InvW σX' σM' := ⟨N, A, hA, hX.fr (k2.mono (fun a b z => by omega)) k1, hM.fw l2 l1⟩
  have hRb := hX.1.1.1
  rcases k3 with ⟨p, q, hp, hq, e1, e2, -, w1, -⟩ | ⟨hno, w1, -⟩
  · rcases l3 with ⟨p', q', hp', hq', e1', e2', v1, -⟩ | ⟨hno, -, -⟩
    · rw [e1, eq_nI (by omega) (by omega)] at e1'
      rw [e2, eq_nI (by omega) (by omega)] at e2'
      subst e1'; subst e2'
      exact ⟨_, _, _, w1, v1, hI⟩
    · exact absurd ⟨p, q, hp, hq, e1, e2⟩ hno
  · rcases l3 with ⟨p', q', hp', hq', e1', e2', v1, -⟩ | ⟨-, v1, -⟩
    · exact absurd ⟨p', q', hp', hq', e1', e2'⟩ hno
    · exact ⟨_, _, _, w1, v1, hI⟩
theorem st_fees (a b : Int32) : Step InvW (fX4_fees a b) (fX5_fees a b) := by
  rintro σX σM ⟨N, A, hA, hX, hM⟩
  obtain ⟨σX', k1, k2, k3⟩ := X_way hX.1 hX.2.1 a b
  obtain ⟨σM', l1, l2, l3⟩ := M_way hM.1 hM.2.1 a b
  have hI : InvW σX' σM' := ⟨N, A, hA, hX.fr (k2.mono (fun a b z => by omega)) k1, hM.fw l2 l1⟩
  have hRb := hX.1.1.1
  rcases k3 with ⟨p, q, hp, hq, e1, e2, -, -, w1⟩ | ⟨hno, -, w1⟩
  · rcases l3 with ⟨p', q', hp', hq', e1', e2', -, v1⟩ | ⟨hno, -, -⟩
    · rw [e1, eq_nI (by omega) (by omega)] at e1'
      rw [e2, eq_nI (by omega) (by omega)] at e2'
      subst e1'; subst e2'
      exact ⟨_, _, _, w1, v1, hI⟩
    · exact absurd ⟨p, q, hp, hq, e1, e2⟩ hno
  · rcases l3 with ⟨p', q', hp', hq', e1', e2', -, v1⟩ | ⟨-, -, v1⟩
    · exact absurd ⟨p', q', hp', hq', e1', e2'⟩ hno
    · exact ⟨_, _, _, w1, v1, hI⟩
theorem st_cost (a : Int32) : Step InvW (fX4_cost a) (fX5_cost a) := by
  rintro σX σM ⟨N, A, hA, hX, hM⟩
  unfold fX4_cost fX5_cost
  rcases drive_cases hA hX.2.2.1 hM.2.2.1 a with ⟨d, hd, e, h1, h2⟩ | ⟨h1, h2⟩
  · subst e
    obtain ⟨σX', c, ρ, p1, p2, p3, -, -, -, p4, -⟩ := X_settle hA hd hX
    obtain ⟨σM', c', ρ', q1, q2, q3, q4, -, -, q5, -⟩ := M_lay hA hM hd
    obtain ⟨e1, -⟩ := endR_uniq p2 q2
    subst e1
    refine ⟨nI c, σX', σM', ?_, ?_, N, A, hA, p4.gx, q5⟩
    · rw [h1]; simp only [cb, Option.bind_some, p1]
    · rw [h2]; simp only [cb, Option.bind_some]
      rw [if_neg (by decide), q1]; simp only [Option.bind_some, q4]
  · refine ⟨-1, σX, σM, ?_, ?_, N, A, hA, hX, hM⟩
    · rw [h1]; simp only [cb, Option.bind_some]
      unfold fX1_settle
      simp only [Option.elim, Option.bind_some]
    · rw [h2]; simp only [cb, Option.bind_some]
      rw [if_pos trivial]
theorem st_laid (a b : Int32) : Step InvW (fX4_laid a b) (fX5_laid a b) := by
  rintro σX σM ⟨N, A, hA, hX, hM⟩
  unfold fX4_laid fX5_laid
  rcases sight_cases hA hX.2.2.1 hM.2.2.1 a b with ⟨d, s, hd, hs, e1, e2, h1, h2, h3⟩ | ⟨h1, h3⟩
  · subst e1; subst e2
    have h20 := (hA.2.1.2 d hd).1
    obtain ⟨σX', c, ρ, p1, p2, p3, -, p5, -, p4, -⟩ := X_settle hA hd hX
    obtain ⟨σM', c', ρ', q1, q2, q3, -, q4, -, q5, -⟩ := M_lay hA hM hd
    obtain ⟨-, e1⟩ := endR_uniq p2 q2
    have i1 : ib (nI s) 20 = true := ib_nI (by omega) (by decide)
    have c1 : (nI s).toNatClampNeg = s := cl_nI (by omega)
    refine ⟨lcode (ρ s), σX', σM', ?_, ?_, N, A, hA, p4.gx, q5⟩
    · rw [h1]; simp only [cb, Option.bind_some, Option.elim, isDr_of hX.2.2.1 hd, ↓reduceIte, h2]
      rw [if_neg (by decide), p1]; simp only [Option.bind_some, i1, c1, ↓reduceIte, p5 s hs]
    · rw [h3]; simp only [cb, Option.bind_some]
      rw [if_neg (by decide), q1]; simp only [Option.bind_some, i1, c1, ↓reduceIte, q4 s hs, e1 s hs]
  · refine ⟨-1, σX, σM, ?_, ?_, N, A, hA, hX, hM⟩
    · rcases h1 with h1 | ⟨d, hd, h1, h2⟩
      · rw [h1]; simp only [cb, Option.bind_some, Option.elim]
      · rw [h1]; simp only [cb, Option.bind_some, Option.elim, isDr_of hX.2.2.1 hd, ↓reduceIte, h2]
    · rw [h3]; simp only [cb, Option.bind_some]
      rw [if_pos trivial]
theorem st_off (a b x : Int32) : Step InvW (fX4_off a b x) (fX5_off a b x) := by
  rintro σX σM ⟨N, A, hA, hX, hM⟩
  have hI : InvW σX σM := ⟨N, A, hA, hX, hM⟩
  unfold fX4_off fX5_off
  rcases sight_cases hA hX.2.2.1 hM.2.2.1 a b with ⟨d, s, hd, hs, e1, e2, h1, h2, h3⟩ | ⟨h1, h3⟩
  · subst e1; subst e2
    obtain ⟨h20, hdx, -⟩ := hA.2.1.2 d hd
    obtain ⟨x1, x2, -⟩ := hdx s hs
    have i1 : ib (nI s) 20 = true := ib_nI (by omega) (by decide)
    have c1 : (nI s).toNatClampNeg = s := cl_nI (by omega)
    obtain ⟨y1, y2, -⟩ := (hX.2.2.1.2.1.2.2.2 d hd).2 s hs
    have z1 : σX.1 (26 + 5 * d + 1) s = nI (A (10 + d) s) := by rw [show 26 + 5 * d + 1 = 27 + 5 * d by omega]; exact y1
    have z2 : σX.1 (26 + 5 * d + 2) s = nI (A (20 + d) s) := by rw [show 26 + 5 * d + 2 = 28 + 5 * d by omega]; exact y2
    rcases point_cases hX.1 hM.1 x with ⟨p, hp, e, g1, g2⟩ | ⟨-, g1, g2⟩
    · subst e
      refine ⟨nI (ofD N A d s p), σX, σM, ?_, ?_, hI⟩
      · rw [h1]; simp only [cb, Option.bind_some, Option.elim, isDr_of hX.2.2.1 hd, ↓reduceIte, h2]
        rw [if_neg (by decide), g1]; simp only [Option.bind_some]
        rw [if_neg (by decide)]
        simp only [isDr_of hX.2.2.1 hd, isRw_of hX.2.2.1 hd (j := 1) (by omega), isRw_of hX.2.2.1 hd (j := 2) (by omega), i1, c1, Bool.and_self, ↓reduceIte, z1, z2, X_offFrom hX.1 hA hX.2.2.1 x1 x2 hp, Option.bind_some]
        rfl
      · rw [h3]; simp only [cb, Option.bind_some]
        rw [if_neg (by decide), g2]; simp only [Option.bind_some]
        rw [if_neg (by decide), M_offOf hM.1 hA hM.2.2.1 hd hs hp]; simp only [Option.bind_some]
    · refine ⟨-1, σX, σM, ?_, ?_, hI⟩
      · rw [h1]; simp only [cb, Option.bind_some, Option.elim, isDr_of hX.2.2.1 hd, ↓reduceIte, h2]
        rw [if_neg (by decide), g1]; simp only [Option.bind_some]
        rw [if_pos trivial]
      · rw [h3]; simp only [cb, Option.bind_some]
        rw [if_neg (by decide), g2]; simp only [Option.bind_some]
        rw [if_pos trivial]
  · refine ⟨-1, σX, σM, ?_, ?_, hI⟩
    · rcases h1 with h1 | ⟨d, hd, h1, h2⟩
      · rw [h1]; simp only [cb, Option.bind_some, Option.elim]
      · rw [h1]; simp only [cb, Option.bind_some, Option.elim, isDr_of hX.2.2.1 hd, ↓reduceIte, h2]
    · rw [h3]; simp only [cb, Option.bind_some]
      rw [if_pos trivial]
theorem st_spot (a b x : Int32) : Step InvW (fX4_spot a b x) (fX5_spot a b x) := by
  rintro σX σM ⟨N, A, hA, hX, hM⟩
  unfold fX4_spot fX5_spot
  rcases sight_cases hA hX.2.2.1 hM.2.2.1 a b with ⟨d, s, hd, hs, e1, e2, h1, h2, h3⟩ | ⟨h1, h3⟩
  · subst e1; subst e2
    obtain ⟨h20, hdx, -⟩ := hA.2.1.2 d hd
    have i1 : ib (nI s) 20 = true := ib_nI (by omega) (by decide)
    have c1 : (nI s).toNatClampNeg = s := cl_nI (by omega)
    obtain ⟨σX', p1, p2, -⟩ := X_gather hA hd hX
    have hF0 := M_findSpots hA hM.1 hM.2.2.1 hd
    obtain ⟨σM', q1, q2, q3, q4⟩ := hF0
    have hM' : GM σM' N A := hM.fr (P := PS) q4 (fun a b z => by omega)
    have hI : InvW σX' σM' := ⟨N, A, hA, p2.gx, hM'⟩
    obtain ⟨u1, u2⟩ := p2.2.2.2.2.2.2.2.1 s hs
    obtain ⟨v1, v2⟩ := q2 s hs
    have hlen := spL_len N A d s
    have key : ∃ r, (if x = -1 then some (nI (spL N A d s).length, σX') else if x < 0 then some (-1, σX') else if nI (spL N A d s).length ≤ x then some (-1, σX') else if ib (nI s * 10 + x) 200 = true then some (σX'.1 19 (nI s * 10 + x).toNatClampNeg, σX') else none) = some (r, σX') ∧ (if x = -1 then some (nI (spL N A d s).length, σM') else if x < 0 then some (-1, σM') else if nI (spL N A d s).length ≤ x then some (-1, σM') else if ib (10 * nI s + x) 200 = true then some (σM'.1 19 (10 * nI s + x).toNatClampNeg, σM') else none) = some (r, σM') := by
      by_cases w1 : x = -1
      · rw [if_pos w1, if_pos w1]; exact ⟨_, rfl, rfl⟩
      · rw [if_neg w1, if_neg w1]
        by_cases w2 : x < 0
        · rw [if_pos w2, if_pos w2]; exact ⟨_, rfl, rfl⟩
        · rw [if_neg w2, if_neg w2]
          by_cases w3 : nI (spL N A d s).length ≤ x
          · rw [if_pos w3, if_pos w3]; exact ⟨_, rfl, rfl⟩
          · rw [if_neg w3, if_neg w3]
            obtain ⟨i, hi, e⟩ := idx_of (by omega) w2 w3
            subst e
            obtain ⟨q, hq⟩ : ∃ q, (spL N A d s)[i]? = some q := ⟨_, List.getElem?_eq_some_iff.mpr ⟨by omega, rfl⟩⟩
            have t1 : nI s * 10 + nI i = nI (10 * s + i) := by rw [show (nI s : Int32) * 10 = nI (10 * s) from by rw [show (10 : Int32) = nI 10 from rfl, pk_mul, Nat.mul_comm], nI_add]
            have t2 : (10 : Int32) * nI s + nI i = nI (10 * s + i) := by rw [show (10 : Int32) * nI s = nI (10 * s) from pk_mul 10 _, nI_add]
            rw [t1, t2, if_pos (ib_nI (show 10 * s + i < 200 by omega) (by decide)), if_pos (ib_nI (show 10 * s + i < 200 by omega) (by decide)), cl_nI (by omega), (u2 i q hq).1, v2 i q hq]
            exact ⟨_, rfl, rfl⟩
    obtain ⟨r, r1, r2⟩ := key
    refine ⟨r, σX', σM', ?_, ?_, hI⟩
    · rw [h1]; simp only [cb, Option.bind_some, Option.elim, isDr_of hX.2.2.1 hd, ↓reduceIte, h2]
      rw [if_neg (by decide), p1]; simp only [Option.bind_some, i1, c1, ↓reduceIte, bindv, u1]
      exact r1
    · rw [h3]; simp only [cb, Option.bind_some]
      rw [if_neg (by decide), q1]; simp only [Option.bind_some, i1, c1, ↓reduceIte, v1]
      exact r2
  · refine ⟨-1, σX, σM, ?_, ?_, N, A, hA, hX, hM⟩
    · rcases h1 with h1 | ⟨d, hd, h1, h2⟩
      · rw [h1]; simp only [cb, Option.bind_some, Option.elim]
      · rw [h1]; simp only [cb, Option.bind_some, Option.elim, isDr_of hX.2.2.1 hd, ↓reduceIte, h2]
    · rw [h3]; simp only [cb, Option.bind_some]
      rw [if_pos trivial]
/-- how many sights there are in the first m drives -/
def allS (A : AS) : Nat → Nat
  | 0 => 0
  | m + 1 => allS A m + A 4 m
theorem X_countSights (hA : WFA N A) {σ : ST} (hR : RX σ A) : ∀ (m i n : Nat), i + m = A 3 0 → m < n → fX4_countSights_L4 n (nI (allS A i)) (nI i) σ = some (nI (allS A (A 3 0)), σ) := by
  have h6 := hA.2.1.1
  intro m
  induction m with
  | zero =>
    intro i n hi hn
    obtain ⟨n, rfl⟩ : ∃ m, n = m + 1 := ⟨n - 1, by omega⟩
    have : i = A 3 0 := by omega
    subst this
    rw [uX4_countSights_L4]
    unfold fX4_countSights_B4
    rw [hR.2.1.1, if_pos (by rw [le_nI (by omega) (by omega)]; omega)]
  | succ m ih =>
    intro i n hi hn
    obtain ⟨n, rfl⟩ : ∃ m, n = m + 1 := ⟨n - 1, by omega⟩
    have hd : i < A 3 0 := by omega
    rw [uX4_countSights_L4]
    unfold fX4_countSights_B4 fX4_countSights_J29
    rw [hR.2.1.1, if_neg (by rw [le_nI (by omega) (by omega)]; omega)]
    rcases X_findDrive hA hR (nI i) with ⟨d, h1, h2, h3⟩ | ⟨h1, _⟩
    · rw [eq_nI (by omega) (by omega)] at h2
      subst h2
      rw [h3]; simp only [cb, Option.bind_some, Option.elim, isDr_of hR hd, ↓reduceIte, (hR.2.1.2.2.2 i hd).1, nI_add, bindv, nI_1]
      exact ih (i + 1) n (by omega) (by omega)
    · exact absurd ⟨i, hd, rfl⟩ h1
theorem M_count (hA : WFA N A) {σ : ST} (hR : RM σ A) (a : Int32) : ∀ (m i n : Nat), i + m = A 3 0 → m < n → ∃ n', fX5_count_L4 n a (nI (allS A i)) (nI i) σ = fX5_count_B4 (fun l1 l2 l3 σ => fX5_count_L4 n' l1 l2 l3 σ) a (nI (allS A (A 3 0))) (nI (A 3 0)) σ := by
  have h6 := hA.2.1.1
  intro m
  induction m with
  | zero =>
    intro i n hi hn
    obtain ⟨n, rfl⟩ : ∃ m, n = m + 1 := ⟨n - 1, by omega⟩
    have : i = A 3 0 := by omega
    subst this
    exact ⟨n, uX5_count_L4 n _ _ _ _⟩
  | succ m ih =>
    intro i n hi hn
    obtain ⟨n, rfl⟩ : ∃ m, n = m + 1 := ⟨n - 1, by omega⟩
    have hd : i < A 3 0 := by omega
    have e13 := hR.2.1.2.1 i (by omega)
    rw [if_pos hd] at e13
    obtain ⟨n', e⟩ := ih (i + 1) n (by omega) (by omega)
    refine ⟨n', ?_⟩
    rw [← e, uX5_count_L4]
    unfold fX5_count_B4
    rw [hR.2.1.1, if_neg (by rw [le_nI (by omega) (by omega)]; omega), if_pos (ib_nI (show i < 6 by omega) (by decide)), cl_nI (by omega), e13, nI_add]
    simp only [bindv, nI_1]
    rfl
theorem st_count (a : Int32) : Step InvW (fX4_count a) (fX5_count a) := by
  rintro σX σM ⟨N, A, hA, hX, hM⟩
  have hI : InvW σX σM := ⟨N, A, hA, hX, hM⟩
  obtain ⟨f20, hf20⟩ := FU_add 20 (by decide)
  have h6 := hA.2.1.1
  obtain ⟨n', e⟩ := M_count hA hM.2.2.1 a (A 3 0) 0 FU (by omega) (by rw [hf20]; omega)
  have e' : fX5_count a σM = _ := e
  have ex := X_countSights hA hX.2.2.1 (A 3 0) 0 FU (by omega) (by rw [hf20]; omega)
  have ex' : fX4_countSights σX = some (nI (allS A (A 3 0)), σX) := ex
  have key : ∃ r, fX4_count a σX = some (r, σX) ∧ fX5_count a σM = some (r, σM) := by
    rw [e']
    unfold fX4_count fX5_count_B4
    rw [hM.2.2.1.2.1.1, if_pos (show nI (A 3 0) ≤ nI (A 3 0) by rw [le_nI (by omega) (by omega)]; omega), hM.2.2.1.1.1, hM.1.2.1, hM.2.2.1.2.2.2.1, hX.2.2.1.1.1, hX.1.2.1, hX.2.2.1.2.1.1, hX.2.2.1.2.2.2.1, ex']
    simp only [cb, Option.bind_some]
    by_cases w0 : a = 0
    · rw [if_pos w0, if_pos w0]; exact ⟨_, rfl, rfl⟩
    · rw [if_neg w0, if_neg w0]
      by_cases w1 : a = 1
      · rw [if_pos w1, if_pos w1]; exact ⟨_, rfl, rfl⟩
      · rw [if_neg w1, if_neg w1]
        by_cases w2 : a = 2
        · rw [if_pos w2, if_pos w2]; exact ⟨_, rfl, rfl⟩
        · rw [if_neg w2, if_neg w2]
          by_cases w3 : a = 3
          · rw [if_pos w3, if_pos w3]; exact ⟨_, rfl, rfl⟩
          · rw [if_neg w3, if_neg w3]
            by_cases w4 : a = 4
            · rw [if_pos w4, if_pos w4]; exact ⟨_, rfl, rfl⟩
            · rw [if_neg w4, if_neg w4]; exact ⟨_, rfl, rfl⟩
  obtain ⟨r, r1, r2⟩ := key
  exact ⟨r, σX, σM, r1, r2, hI⟩
end Ops
