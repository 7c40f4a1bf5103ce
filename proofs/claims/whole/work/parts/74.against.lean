-- pure: against (own work)
section AgainstP
variable {N N' : NET} {A : AS} {d r : Nat}
noncomputable def coD (N : NET) (A : AS) (d : Nat) : Nat := @dite _ (∃ c ρ, EndR (spL N A d) (ofD N A d) (lgD N A d) (A 5 1) (A 4 d) none c ρ) (Classical.propDecidable _) (fun h => Classical.choose h) (fun _ => 0)
theorem coD_eq {c : Nat} {ρ : Nat → Nat} (h : EndR (spL N A d) (ofD N A d) (lgD N A d) (A 5 1) (A 4 d) none c ρ) : coD N A d = c := by
  have hex : ∃ c ρ, EndR (spL N A d) (ofD N A d) (lgD N A d) (A 5 1) (A 4 d) none c ρ := ⟨c, ρ, h⟩
  have e : coD N A d = Classical.choose hex := dif_pos hex
  obtain ⟨ρ', h'⟩ := Classical.choose_spec hex
  rw [e]; exact (endR_uniq h' h).1
theorem X_cost1 (hA : WFA N A) (hd : d < A 3 0) {σ : ST} (hX : GX σ N A) : ∃ σ', fX1_settle (some (26 + 5 * d)) σ = some (nI (coD N A d), σ') ∧ coD N A d ≤ 24000000 ∧ GX σ' N A ∧ ∀ b, σ'.1 6 b = σ.1 6 b := by
  obtain ⟨σ', c, ρ, p1, p2, p3, -, -, -, p4, p5⟩ := X_settle hA hd hX
  have := coD_eq p2
  subst this
  exact ⟨σ', p1, p3, p4.gx, fun b => p5 6 b (Or.inr rfl)⟩
theorem M_cost1 (hA : WFA N A) (hd : d < A 3 0) {σ : ST} (hM : GM σ N A) : ∃ σ', fX5_lay (nI d) σ = some ((), σ') ∧ coD N A d ≤ 23000000 ∧ σ'.1 0 30 = nI (coD N A d) ∧ GM σ' N A := by
  obtain ⟨σ', c, ρ, q1, q2, q3, q4, -, -, q5, -⟩ := M_lay hA hM hd
  have := coD_eq q2
  subst this
  exact ⟨σ', q1, q3, q4, q5⟩
/-- two nets that differ in the kind of one road alone -/
def Akin (r : Nat) (N N' : NET) : Prop := (∀ a, a ≠ 4 → N' a = N a) ∧ ∀ i, i ≠ r → N' 4 i = N 4 i
theorem Akin.sy (h : Akin r N N') : Akin r N' N := ⟨fun a ha => (h.1 a ha).symm, fun i hi => (h.2 i hi).symm⟩
theorem Akin.rf : Akin r N N := ⟨fun _ _ => rfl, fun _ _ => rfl⟩
theorem Akin.up (k : Nat) : Akin r N (aup N 4 r k) := ⟨fun a ha => au_row _ ha, fun i hi => au_idx _ hi⟩
theorem Akin.wfa (h : Akin r N N') (hA : WFA N A) : WFA N' A := hA.lo (h.1 0 (by decide)) (h.1 1 (by decide)) (h.1 2 (by decide))
theorem GM.kind {σ : ST} (h : GM σ N A) (hk : Akin r N N') {k : Nat} (hkd : N' 4 r = k) (hk4 : k < 4) : GM (stI (stI σ 6 r (nI k)) 0 20 0) N' A := by
  obtain ⟨⟨a1, a2, a3, a4⟩, h2, h3, h4⟩ := h
  have e0 : nR N' = nR N := by show N' 0 0 = N 0 0; rw [hk.1 0 (by omega)]
  have hF : Fr (fun a b => (a = 0 ∧ b = 20) ∨ (a = 6 ∧ b = r)) σ (stI (stI σ 6 r (nI k)) 0 20 0) := (Fr.rf.st (by omega)).st (by omega)
  refine ⟨⟨a1.lo (hk.1 0 (by omega)) (hk.1 3 (by omega)) (hk.1 5 (by omega)), ?_, fun r' hr' => ?_, fun r' s' hr' hs' => ?_⟩, Or.inl (st_at _ _ _ _), h3.ff (fun a b z => hF.1 a b (by omega)), fun r' s' hr' hs' hno => ?_⟩
  · rw [e0, hF.1 0 8 (by omega)]; exact a2
  · rw [e0] at hr'
    obtain ⟨b1, b2, b3, b4, b5, b6, b7, b8⟩ := a3 r' hr'
    unfold nfr nto nln nfe
    rw [hk.1 1 (by omega), hk.1 2 (by omega), hk.1 3 (by omega), hk.1 5 (by omega), hF.1 3 _ (by omega), hF.1 4 _ (by omega), hF.1 5 _ (by omega), hF.1 7 _ (by omega)]
    refine ⟨b1, b2, b3, ?_, b5, b6, b7, ?_⟩
    · by_cases e : r' = r
      · subst e
        rw [st_cell _ _ _ (by decide), st_at]
        show nI k = nI (N' 4 r')
        rw [hkd]
      · rw [hF.1 6 _ (by omega)]
        show _ = nI (N' 4 r')
        rw [hk.2 r' e]; exact b4
    · by_cases e : r' = r
      · subst e
        show N' 4 r' < 4
        rw [hkd]; exact hk4
      · show N' 4 r' < 4
        rw [hk.2 r' e]; exact b8
  · rw [e0] at hr' hs'
    rw [hF.1 8 _ (by omega)]
    show _ ↔ ¬ N' (6 + r') s' ≠ 0
    rw [hk.1 (6 + r') (by omega)]
    exact a4 r' s' hr' hs'
  · rw [e0] at hno
    rw [hF.1 8 _ (by omega)]
    exact h4 r' s' hr' hs' hno
theorem X_changeKind {σ : ST} (h : GX σ N A) (hr : r < nR N) (hk : Akin r N N') {k : Nat} (hkd : N' 4 r = k) (hk4 : k < 4) : ∃ σ', fX4_changeKind (nI r) (nI k) σ = some ((), σ') ∧ GX σ' N' A ∧ ∀ b, σ'.1 6 b = σ.1 6 b := by
  have hR := h.1.1.1
  obtain ⟨σ1, f1, f2⟩ := X_forgetWays σ
  obtain ⟨⟨a1, a2, a3, a4⟩, -, h3, h4, -⟩ := f2.gx h
  have e0 : nR N' = nR N := by show N' 0 0 = N 0 0; rw [hk.1 0 (by omega)]
  have hx : (2 : Int32) * nI r = nI (2 * r) := pk_mul 2 r
  have hto := (a3 r hr).2.2.2.2.1
  have hF : Fr (fun a b => (a = 10 ∧ b = r) ∨ (a = 13 ∧ b = 2 * r)) σ1 (stI (stI σ1 10 r (nI k)) 13 (2 * r) (if k = 1 then -1 else nI (nto N r))) := (Fr.rf.st (by omega)).st (by omega)
  refine ⟨stI (stI σ1 10 r (nI k)) 13 (2 * r) (if k = 1 then -1 else nI (nto N r)), ?_, ⟨⟨a1.lo (hk.1 0 (by omega)) (hk.1 3 (by omega)) (hk.1 5 (by omega)), ?_, fun r' hr' => ?_, fun r' s' hr' hs' => ?_⟩, fun g hg => Or.inl ?_, h3.ff (fun a b z => hF.1 a b (by omega)) (fun _ => rfl) rfl, fun r' s' hr' hs' hno => ?_, Or.inl f2.1⟩, fun b => (hF.1 6 b (by omega)).trans (f2.2.2.1 6 b (by decide))⟩
  · unfold fX4_changeKind fX2_setKind fX2_setKind_J33
    rw [f1]
    simp only [cb, Option.bind_some, bindv, hx, nI_1, ib_nI (show r < 30 by omega) (by decide), ib_nI (show 2 * r < 60 by omega) (by decide), ib_nI (show 2 * r + 1 < 60 by omega) (by decide), cl_nI (show r < 2147483648 by omega), cl_nI (show 2 * r < 2147483648 by omega), cl_nI (show 2 * r + 1 < 2147483648 by omega), ↓reduceIte]
    by_cases h1 : k = 1
    · rw [if_pos h1, h1, if_pos (show nI 1 = 1 from rfl)]
      rfl
    · rw [if_neg h1, if_neg (show ¬ nI k = 1 by rw [show (1 : Int32) = nI 1 from rfl, eq_nI (by omega) (by omega)]; exact h1), st_cell _ _ _ (by decide), hto]
      rfl
  · rw [e0, hF.1 1 3 (by omega)]; exact a2
  · rw [e0] at hr'
    obtain ⟨b1, b2, b3, b4, b5, b6, b7, b8, b9, b10⟩ := a3 r' hr'
    unfold nfr nto nln nfe
    rw [hk.1 1 (by omega), hk.1 2 (by omega), hk.1 3 (by omega), hk.1 5 (by omega), hF.1 9 _ (by omega), hF.1 11 _ (by omega), hF.1 14 _ (by omega), hF.1 14 _ (by omega), hF.1 13 (2 * r' + 1) (by omega)]
    refine ⟨b1, ?_, b3, b4, b5, b6, ?_, b8, b9, ?_⟩
    · by_cases e : r' = r
      · subst e
        rw [st_cell _ _ _ (by decide), st_at]
        show nI k = nI (N' 4 r')
        rw [hkd]
      · rw [hF.1 10 _ (by omega)]
        show _ = nI (N' 4 r')
        rw [hk.2 r' e]; exact b2
    · by_cases e : r' = r
      · subst e
        rw [st_at]
        show _ = if N' 4 r' = 1 then (-1 : Int32) else nI (N 2 r')
        rw [hkd]
      · rw [hF.1 13 _ (by omega)]
        show _ = if N' 4 r' = 1 then (-1 : Int32) else nI (N 2 r')
        rw [hk.2 r' e]; exact b7
    · by_cases e : r' = r
      · subst e
        show N' 4 r' < 4
        rw [hkd]; exact hk4
      · show N' 4 r' < 4
        rw [hk.2 r' e]; exact b10
  · rw [e0] at hr' hs'
    rw [hF.1 12 _ (by omega)]
    show _ ↔ ¬ N' (6 + r') s' ≠ 0
    rw [hk.1 (6 + r') (by omega)]
    exact a4 r' s' hr' hs'
  · rw [e0] at hg
    rw [hF.1 16 _ (by omega)]; exact f2.2.1 g (by omega)
  · rw [e0] at hno
    rw [hF.1 12 _ (by omega)]
    exact h4 r' s' hr' hs' hno
/-- how many of the first i drives are cheaper without the sign -/
noncomputable def agC (N N' : NET) (A : AS) : Nat → Nat
  | 0 => 0
  | i + 1 => agC N N' A i + if coD N' A i < coD N A i then 1 else 0
theorem X_ag31 (hA : WFA N A) : ∀ (m i n : Nat) (σ : ST), i + m = A 3 0 → m < n → GX σ N A → (∀ j, j < i → σ.1 6 j = nI (coD N A j) ∧ coD N A j ≤ 24000000) → ∃ σ', fX4_against_L31 n (nI r) (nI i) σ = cb (fX4_changeKind (nI r) 0 σ') (fun _ σ4 => fX4_against_L74 FU (nI r) 0 0 σ4) ∧ GX σ' N A ∧ ∀ j, j < A 3 0 → σ'.1 6 j = nI (coD N A j) ∧ coD N A j ≤ 24000000 := by
  have h6 := hA.2.1.1
  intro m
  induction m with
  | zero =>
    intro i n σ hi hn hX hc
    obtain ⟨n, rfl⟩ : ∃ m, n = m + 1 := ⟨n - 1, by omega⟩
    refine ⟨σ, ?_, hX, fun j hj => hc j (by omega)⟩
    rw [uX4_against_L31]
    unfold fX4_against_B31
    rw [hX.2.2.1.2.1.1, if_pos (show nI (A 3 0) ≤ nI i by rw [le_nI (by omega) (by omega)]; omega)]
  | succ m ih =>
    intro i n σ hi hn hX hc
    obtain ⟨n, rfl⟩ : ∃ m, n = m + 1 := ⟨n - 1, by omega⟩
    have hd : i < A 3 0 := by omega
    obtain ⟨σ1, p1, p2, p3, p4⟩ := X_cost1 hA hd hX
    have hF : Fr (fun a b => a = 6 ∧ b = i) σ1 (stI σ1 6 i (nI (coD N A i))) := Fr.rf.st ⟨rfl, rfl⟩
    have hX2 : GX (stI σ1 6 i (nI (coD N A i))) N A := p3.fr (hF.mono (fun a b z => by omega)) (p3.2.1.fr hF (fun a b z => by omega))
    obtain ⟨σ', q1, q2, q3⟩ := ih (i + 1) n (stI σ1 6 i (nI (coD N A i))) (by omega) (by omega) hX2 (fun j hj => by
      by_cases e : j = i
      · subst e; exact ⟨st_at _ _ _ _, p2⟩
      · rw [st_idx _ _ e, p4]; exact hc j (by omega))
    refine ⟨σ', ?_, q2, q3⟩
    have hrf := hX.2.2.1.2.1.2.2.1 i
    rw [if_pos hd] at hrf
    rw [uX4_against_L31]
    unfold fX4_against_B31
    rw [hX.2.2.1.2.1.1, if_neg (show ¬ nI (A 3 0) ≤ nI i by rw [le_nI (by omega) (by omega)]; omega)]
    simp only [ib_nI (show i < 6 by omega) (by decide), cl_nI (show i < 2147483648 by omega), ↓reduceIte, bindv, hrf, p1, cb, Option.bind_some, nI_1]
    exact q1
theorem X_ag74 (hA : WFA N' A) : ∀ (m i n : Nat) (σ : ST), i + m = A 3 0 → m < n → GX σ N' A → (∀ j, j < A 3 0 → σ.1 6 j = nI (coD N A j) ∧ coD N A j ≤ 24000000) → ∃ σ', fX4_against_L74 n (nI r) (nI (agC N N' A i)) (nI i) σ = cb (fX4_changeKind (nI r) 1 σ') (fun _ σ6 => some (nI (agC N N' A (A 3 0)), σ6)) ∧ GX σ' N' A := by
  have h6 := hA.2.1.1
  intro m
  induction m with
  | zero =>
    intro i n σ hi hn hX hc
    obtain ⟨n, rfl⟩ : ∃ m, n = m + 1 := ⟨n - 1, by omega⟩
    have : i = A 3 0 := by omega
    subst this
    refine ⟨σ, ?_, hX⟩
    rw [uX4_against_L74]
    unfold fX4_against_B74
    rw [hX.2.2.1.2.1.1, if_pos (show nI (A 3 0) ≤ nI (A 3 0) by rw [le_nI (by omega) (by omega)]; omega)]
  | succ m ih =>
    intro i n σ hi hn hX hc
    obtain ⟨n, rfl⟩ : ∃ m, n = m + 1 := ⟨n - 1, by omega⟩
    have hd : i < A 3 0 := by omega
    obtain ⟨σ1, p1, p2, p3, p4⟩ := X_cost1 hA hd hX
    obtain ⟨c1, c2⟩ := hc i hd
    obtain ⟨σ', q1, q2⟩ := ih (i + 1) n σ1 (by omega) (by omega) p3 (fun j hj => by rw [p4]; exact hc j hj)
    refine ⟨σ', ?_, q2⟩
    have hrf := hX.2.2.1.2.1.2.2.1 i
    rw [if_pos hd] at hrf
    rw [uX4_against_L74]
    unfold fX4_against_B74 fX4_against_J107
    rw [hX.2.2.1.2.1.1, if_neg (show ¬ nI (A 3 0) ≤ nI i by rw [le_nI (by omega) (by omega)]; omega)]
    simp only [ib_nI (show i < 6 by omega) (by decide), cl_nI (show i < 2147483648 by omega), ↓reduceIte, bindv, hrf, p1, cb, Option.bind_some, nI_1, p4, c1]
    by_cases hle : coD N A i ≤ coD N' A i
    · rw [if_pos (by rw [le_nI (by omega) (by omega)]; exact hle)]
      have : agC N N' A (i + 1) = agC N N' A i := by
        show agC N N' A i + _ = _
        rw [if_neg (by omega)]; rfl
      rw [this] at q1
      exact q1
    · rw [if_neg (by rw [le_nI (by omega) (by omega)]; exact hle)]
      have : agC N N' A (i + 1) = agC N N' A i + 1 := by
        show agC N N' A i + _ = _
        rw [if_pos (by omega)]
      rw [this] at q1
      exact q1
theorem M_ag27 (hA : WFA N A) (hA' : WFA N' A) (hr : r < 30) (hk : Akin r N N') (h1 : N 4 r = 1) (h0 : N' 4 r = 0) : ∀ (m i n : Nat) (σ : ST) (N1 : NET), i + m = A 3 0 → m < n → GM σ N1 A → Akin r N1 N → ∃ σ', fX5_against_L27 n (nI r) (nI (agC N N' A i)) (nI i) σ = some (nI (agC N N' A (A 3 0)), σ') ∧ GM σ' N A := by
  have h6 := hA.2.1.1
  have i1 : ib (nI r) 30 = true := ib_nI (by omega) (by decide)
  have c1 : (nI r).toNatClampNeg = r := cl_nI (by omega)
  intro m
  induction m with
  | zero =>
    intro i n σ N1 hi hn hM hk1
    obtain ⟨n, rfl⟩ : ∃ m, n = m + 1 := ⟨n - 1, by omega⟩
    have : i = A 3 0 := by omega
    subst this
    refine ⟨stI (stI σ 6 r 1) 0 20 0, ?_, hM.kind hk1 h1 (by decide)⟩
    rw [uX5_against_L27]
    unfold fX5_against_B27
    rw [hM.2.2.1.2.1.1, if_pos (show nI (A 3 0) ≤ nI (A 3 0) by rw [le_nI (by omega) (by omega)]; omega)]
    simp only [i1, c1, ↓reduceIte, bindv]
  | succ m ih =>
    intro i n σ N1 hi hn hM hk1
    obtain ⟨n, rfl⟩ : ∃ m, n = m + 1 := ⟨n - 1, by omega⟩
    have hd : i < A 3 0 := by omega
    have hM1 : GM (stI (stI σ 6 r 1) 0 20 0) N A := hM.kind hk1 h1 (by decide)
    obtain ⟨σ1, p1, p2, p3, p4⟩ := M_cost1 hA hd hM1
    have hM2 : GM (stI (stI σ1 6 r 0) 0 20 0) N' A := p4.kind hk h0 (by decide)
    obtain ⟨σ2, q1, q2, q3, q4⟩ := M_cost1 hA' hd hM2
    obtain ⟨σ', r1, r2⟩ := ih (i + 1) n σ2 N' (by omega) (by omega) q4 hk.sy
    refine ⟨σ', ?_, r2⟩
    rw [uX5_against_L27]
    unfold fX5_against_B27 fX5_against_J90
    rw [hM.2.2.1.2.1.1, if_neg (show ¬ nI (A 3 0) ≤ nI i by rw [le_nI (by omega) (by omega)]; omega)]
    simp only [i1, c1, ↓reduceIte, bindv, p1, p3, q1, q3, cb, Option.bind_some, nI_1]
    by_cases hle : coD N A i ≤ coD N' A i
    · rw [if_pos (by rw [le_nI (by omega) (by omega)]; exact hle), zl0, nI_add]
      have : agC N N' A (i + 1) = agC N N' A i + 0 := by
        show agC N N' A i + _ = _
        rw [if_neg (by omega)]
      rw [this] at r1
      exact r1
    · rw [if_neg (by rw [le_nI (by omega) (by omega)]; exact hle)]
      have : agC N N' A (i + 1) = agC N N' A i + 1 := by
        show agC N N' A i + _ = _
        rw [if_pos (by omega)]
      rw [this] at r1
      exact r1
theorem st_against (a : Int32) : Step InvW (fX4_against a) (fX5_against a) := by
  rintro σX σM ⟨N, A, hA, hX, hM⟩
  have hI : InvW σX σM := ⟨N, A, hA, hX, hM⟩
  have hR := hX.1.1.1
  unfold fX4_against fX5_against
  rcases road_cases hX.1 hM.1 a with ⟨r, hr, e, g1, g1'⟩ | ⟨g1, g1'⟩
  · subst e
    rw [g1, g1']
    have ex := (hX.1.2.2.1 r hr).2.1
    have em := (hM.1.2.2.1 r hr).2.2.2.1
    have h4 := (hX.1.2.2.1 r hr).2.2.2.2.2.2.2.2.2
    simp only [cb, Option.bind_some, ib_nI (show r < 30 by omega) (by decide), cl_nI (show r < 2147483648 by omega), ↓reduceIte, ex, em]
    rw [if_neg (show ¬ (1 : Int32) = 0 by decide), if_neg (show ¬ (1 : Int32) = 0 by decide)]
    by_cases hk : nkd N r = 1
    · rw [hk, if_pos (show nI 1 = 1 from rfl), if_pos (show nI 1 = 1 from rfl)]
      have h6 := hA.2.1.1
      obtain ⟨f40, hf40⟩ := FU_add 40 (by decide)
      have hA0 : WFA (aup N 4 r 0) A := (Akin.up 0).wfa hA
      obtain ⟨σ1, p1, p2, p3⟩ := X_ag31 (r := r) hA (A 3 0) 0 FU σX (by omega) (by rw [hf40]; omega) hX (fun j hj => by omega)
      obtain ⟨σ2, q1, q2, q3⟩ := X_changeKind p2 hr (Akin.up 0) (k := 0) (au_at _ _ _ _) (by decide)
      obtain ⟨σ3, r1, r2⟩ := X_ag74 (N := N) (r := r) hA0 (A 3 0) 0 FU σ2 (by omega) (by rw [hf40]; omega) q2 (fun j hj => by rw [q3]; exact p3 j hj)
      obtain ⟨σ4, s1, s2, -⟩ := X_changeKind (N' := N) r2 (by show r < aup N 4 r 0 0 0; rw [au_row _ (by decide)]; exact hr) (Akin.up 0).sy (k := 1) hk (by decide)
      obtain ⟨σM', t1, t2⟩ := M_ag27 (N' := aup N 4 r 0) hA hA0 (show r < 30 by omega) (Akin.up 0) hk (au_at _ _ _ _) (A 3 0) 0 FU σM N (by omega) (by rw [hf40]; omega) hM Akin.rf
      refine ⟨_, σ4, σM', ?_, t1, N, A, hA, s2, t2⟩
      have p1' : fX4_against_L31 FU (nI r) 0 σX = _ := p1
      have q1' : fX4_changeKind (nI r) 0 σ1 = some ((), σ2) := q1
      have r1' : fX4_against_L74 FU (nI r) 0 0 σ2 = _ := r1
      have s1' : fX4_changeKind (nI r) 1 σ3 = some ((), σ4) := s1
      rw [p1', q1']
      simp only [cb, Option.bind_some]
      rw [r1', s1']
      rfl
    · have hne : ¬ nI (nkd N r) = 1 := by rw [show (1 : Int32) = nI 1 from rfl, eq_nI (by omega) (by omega)]; exact hk
      rw [if_neg hne, if_neg hne]
      exact ⟨_, _, _, rfl, rfl, hI⟩
  · rw [g1, g1']
    simp only [cb, Option.bind_some, ↓reduceIte]
    exact ⟨_, _, _, rfl, rfl, hI⟩
end AgainstP
