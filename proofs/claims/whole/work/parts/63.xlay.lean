-- pure: the class's choice, gather and settle (own work)
section XLay
variable {N : NET} {A : AS} {d : Nat}
noncomputable def ec (N : NET) (A : AS) (d : Nat) (e : Option (Nat × Nat × Nat)) : Nat := match e with
  | none => A 5 1 * A 4 d
  | some q => bcD N A d q.1 q.2.2 + A 5 1 * (A 4 d - q.1 - 1)
theorem ec_bd (hA : WFA N A) (hd : d < A 3 0) {σ : ST} (hD : DPA σ N A d (A 4 d)) {e : Option (Nat × Nat × Nat)} (he : okS N A d (A 4 d) e) : ec N A d e ≤ 24000000 := by
  obtain ⟨-, ⟨hd6, hdd⟩, ⟨g1, g2, g3, g4⟩, -⟩ := id hA
  have h20 := (hdd d hd).1
  cases e with
  | none =>
    have : A 5 1 * A 4 d ≤ 9999 * 20 := Nat.mul_le_mul g4 (by omega)
    show A 5 1 * A 4 d ≤ _
    omega
  | some q =>
    obtain ⟨z1, z2⟩ := he q rfl
    have := bc_bd hA hd hD (Nat.le_refl _) z1 z2
    have : A 5 1 * (A 4 d - q.1 - 1) ≤ 9999 * 20 := Nat.mul_le_mul g4 (by omega)
    show bcD N A d q.1 q.2.2 + A 5 1 * (A 4 d - q.1 - 1) ≤ _
    omega
theorem X_costOfEnd (hA : WFA N A) (hd : d < A 3 0) {σ : ST} (hX : XR σ N A d (A 4 d)) {e : Option (Nat × Nat × Nat)} (he : okS N A d (A 4 d) e) : fX1_costOfEnd (es e) σ = some (nI (ec N A d e), σ) := by
  obtain ⟨hN, hK, hR, hS, h15, hD⟩ := hX
  obtain ⟨-, ⟨hd6, hdd⟩, ⟨g1, g2, g3, g4⟩, -⟩ := id hA
  have h20 := (hdd d hd).1
  unfold fX1_costOfEnd
  cases e with
  | none =>
    rw [if_pos (show es none = -1 from rfl), hR.2.2.1.2, h15, pk_mul]
    rfl
  | some q =>
    obtain ⟨z1, z2⟩ := he q rfl
    have hil := (List.getElem?_eq_some_iff.mp z2).1
    have hlen := spL_len N A d q.1
    have h22 := (hD q.1 q.2.1 q.2.2 z1 z2).1
    have hne1 : ¬ nI (10 * q.1 + q.2.1) = -1 := fun e => by
      have := nI_nn (j := 10 * q.1 + q.2.1) (by omega)
      rw [e] at this; exact this (by decide)
    rw [if_neg (show ¬ es (some q) = -1 from hne1)]
    show (if ib (nI (10 * q.1 + q.2.1)) 200 = true then some ((σ.1 22 (nI (10 * q.1 + q.2.1)).toNatClampNeg + σ.1 3 1 * (σ.1 3 15 - 1 - nI (10 * q.1 + q.2.1) / 10)), σ) else none) = _
    rw [if_pos (ib_nI (show 10 * q.1 + q.2.1 < 200 by omega) (by decide)), cl_nI (by omega), h22, hR.2.2.1.2, h15, show nI (10 * q.1 + q.2.1) / 10 = nI q.1 from by rw [show (10 : Int32) = nI 10 from rfl, div_nI (by omega) (by decide) (by decide)]; congr 1; omega, show nI (A 4 d) - 1 = nI (A 4 d - 1) from sub_nI (show 1 ≤ A 4 d by omega), sub_nI (show q.1 ≤ A 4 d - 1 by omega), pk_mul, nI_add, show A 4 d - 1 - q.1 = A 4 d - q.1 - 1 by omega]
    rfl
def Tr2 (N : NET) (A : AS) (d k t : Nat) (cand : Option (Nat × Nat × Nat)) : Prop := okS N A d (A 4 d) cand ∧ ahead (A 4 d) (ec N A d cand) (er N A d cand) (ec N A d none) (er N A d none) ∧ ∀ k' i' q', k' < A 4 d → (k' < k ∨ (k' = k ∧ i' < t)) → (spL N A d k')[i']? = some q' → ahead (A 4 d) (ec N A d cand) (er N A d cand) (ec N A d (some (k', i', q'))) (er N A d (some (k', i', q')))
abbrev PC : Nat → Nat → Prop := fun a b => a = 24 ∨ a = 25 ∨ (a = 3 ∧ b = 14)
theorem chl23 (hA : WFA N A) (hd : d < A 3 0) (k13 : Int32 → Int32 → ST → Option (Unit × ST)) {k : Nat} (hk : k < A 4 d) : ∀ (m t n : Nat) (σ : ST) (cand : Option (Nat × Nat × Nat)), t + m = (spL N A d k).length → m < n → XR σ N A d (A 4 d) → Tr2 N A d k t cand → σ.1 3 14 = nI (ec N A d cand) → ∃ σ' cand', fX1_chooseLeast_L23 k13 n (es cand) (nI k) (nI t) σ = k13 (es cand') (nI (k + 1)) σ' ∧ XR σ' N A d (A 4 d) ∧ Tr2 N A d (k + 1) 0 cand' ∧ σ'.1 3 14 = nI (ec N A d cand') ∧ Fr PC σ σ' := by
  obtain ⟨-, ⟨hd6, hdd⟩, ⟨g1, g2, g3, g4⟩, -⟩ := id hA
  have h20 := (hdd d hd).1
  have hlen := spL_len N A d k
  intro m
  induction m with
  | zero =>
    intro t n σ cand ht hn hX hT h14
    obtain ⟨n, rfl⟩ : ∃ m, n = m + 1 := ⟨n - 1, by omega⟩
    refine ⟨σ, cand, ?_, hX, ⟨hT.1, hT.2.1, fun k' i' q' h1 h2 h3 => hT.2.2 k' i' q' h1 ?_ h3⟩, h14, Fr.rf⟩
    · rw [uX1_chooseLeast_L23]
      unfold fX1_chooseLeast_B23
      rw [if_pos (ib_nI (show k < 20 by omega) (by decide)), cl_nI (by omega), (hX.2.2.2.1 k hk).1, if_pos (by rw [le_nI (by omega) (by omega)]; omega)]
      simp only [bindv, nI_1]
    · by_cases z : k' = k
      · subst z
        have := (List.getElem?_eq_some_iff.mp h3).1
        exact Or.inr ⟨rfl, by omega⟩
      · exact Or.inl (by omega)
  | succ m ih =>
    intro t n σ cand ht hn hX hT h14
    obtain ⟨n, rfl⟩ : ∃ m, n = m + 1 := ⟨n - 1, by omega⟩
    obtain ⟨t1, t2, t3⟩ := id hT
    obtain ⟨q, hq⟩ : ∃ q, (spL N A d k)[t]? = some q := ⟨_, List.getElem?_eq_some_iff.mpr ⟨by omega, rfl⟩⟩
    have okc : okS N A d (A 4 d) (some (k, t, q)) := fun r hr => by cases hr; exact ⟨hk, hq⟩
    have b1 := ec_bd hA hd hX.2.2.2.2.2 t1
    have b2 := ec_bd hA hd hX.2.2.2.2.2 okc
    have hce := X_costOfEnd hA hd hX okc
    have hce' : fX1_costOfEnd (nI (10 * k + t)) σ = some (nI (ec N A d (some (k, t, q))), σ) := hce
    have t10 : nI k * 10 + nI t = nI (10 * k + t) := by rw [show (nI k : Int32) * 10 = nI (10 * k) from by rw [show (10 : Int32) = nI 10 from rfl, pk_mul, Nat.mul_comm], nI_add]
    have ne : ∀ k' i', ((k' < k ∨ (k' = k ∧ i' < t + 1)) ↔ (k' < k ∨ (k' = k ∧ i' < t)) ∨ (k' = k ∧ i' = t)) := fun k' i' => by omega
    have keep : ∀ σ1, XR σ1 N A d (A 4 d) → Fr PC σ σ1 → σ1.1 3 14 = nI (ec N A d cand) → ahead (A 4 d) (ec N A d cand) (er N A d cand) (ec N A d (some (k, t, q))) (er N A d (some (k, t, q))) → ∃ σ' cand', fX1_chooseLeast_J86 k13 (fun l1 l2 l3 σ => fX1_chooseLeast_L23 k13 n l1 l2 l3 σ) (es cand) (nI k) (nI t) σ1 = k13 (es cand') (nI (k + 1)) σ' ∧ XR σ' N A d (A 4 d) ∧ Tr2 N A d (k + 1) 0 cand' ∧ σ'.1 3 14 = nI (ec N A d cand') ∧ Fr PC σ σ' := by
      intro σ1 hX1 hF1 h h2
      obtain ⟨σ', cand', p1, p2, p3, p4, p5⟩ := ih (t + 1) n σ1 cand (by omega) (by omega) hX1 ⟨t1, t2, fun k' i' q' h1 h2' h3 => by
        rcases (ne k' i').mp h2' with z | ⟨z1, z2⟩
        · exact t3 k' i' q' h1 z h3
        · subst z1; subst z2; rw [hq] at h3; cases h3; exact h2⟩ h
      refine ⟨σ', cand', ?_, p2, p3, p4, hF1.tr p5⟩
      unfold fX1_chooseLeast_J86
      simp only [bindv, nI_1]
      exact p1
    have take : ∀ σ1, XR σ1 N A d (A 4 d) → Fr PC σ σ1 → ahead (A 4 d) (ec N A d (some (k, t, q))) (er N A d (some (k, t, q))) (ec N A d cand) (er N A d cand) → ∃ σ' cand', fX1_chooseLeast_J77 k13 (fun l1 l2 l3 σ => fX1_chooseLeast_L23 k13 n l1 l2 l3 σ) (nI k) (nI t) (nI (10 * k + t)) (nI (ec N A d (some (k, t, q)))) σ1 = k13 (es cand') (nI (k + 1)) σ' ∧ XR σ' N A d (A 4 d) ∧ Tr2 N A d (k + 1) 0 cand' ∧ σ'.1 3 14 = nI (ec N A d cand') ∧ Fr PC σ σ' := by
      intro σ1 hX1 hF1 h2
      have hF2 : Fr (fun a b => a = 3 ∧ b = 14) σ1 (stI σ1 3 14 (nI (ec N A d (some (k, t, q))))) := Fr.rf.st ⟨rfl, rfl⟩
      obtain ⟨σ', cand', p1, p2, p3, p4, p5⟩ := ih (t + 1) n (stI σ1 3 14 (nI (ec N A d (some (k, t, q))))) (some (k, t, q)) (by omega) (by omega) (hX1.fr hF2 (fun a b z => by omega)) ⟨okc, h2.tr t2, fun k' i' q' h1 h2' h3 => by
        rcases (ne k' i').mp h2' with z | ⟨z1, z2⟩
        · exact h2.tr (t3 k' i' q' h1 z h3)
        · subst z1; subst z2; rw [hq] at h3; cases h3; exact Or.inr ⟨rfl, lexle.rf⟩⟩ (st_at _ _ _ _)
      refine ⟨σ', cand', ?_, p2, p3, p4, (hF1.tr (hF2.mono (fun a b z => Or.inr (Or.inr z)))).tr p5⟩
      unfold fX1_chooseLeast_J77 fX1_chooseLeast_J86
      simp only [bindv, nI_1]
      exact p1
    rw [uX1_chooseLeast_L23]
    unfold fX1_chooseLeast_B23
    rw [if_pos (ib_nI (show k < 20 by omega) (by decide)), cl_nI (by omega), (hX.2.2.2.1 k hk).1, if_neg (by rw [le_nI (by omega) (by omega)]; omega), t10]
    simp only [bindv, hce', cb, Option.bind_some, h14]
    by_cases h1 : ec N A d (some (k, t, q)) < ec N A d cand
    · rw [if_pos (by rw [lt_nI (by omega) (by omega)]; exact h1)]
      exact take σ hX Fr.rf (Or.inl h1)
    · rw [if_neg (by rw [lt_nI (by omega) (by omega)]; exact h1)]
      by_cases h2 : ec N A d (some (k, t, q)) = ec N A d cand
      · rw [if_pos (by rw [h2])]
        obtain ⟨σ2, r1, r2⟩ := X_isRowFirst hA hX.1.1 hd hX.2.2.2.1 (Nat.le_refl _) hX.2.2.2.2.2 hX.2.2.2.2.1 okc t1
        have hX2 := hX.fr r2 (fun a b z => by omega)
        have hF2 : Fr PC σ σ2 := r2.mono (fun a b z => by omega)
        have h142 : σ2.1 3 14 = nI (ec N A d cand) := (r2.1 3 14 (by omega)).trans h14
        rcases r1 with ⟨r1, r3⟩ | ⟨r1, r3⟩
        · have r1' : fX1_isRowFirst (nI (10 * k + t)) (es cand) σ = some (1, σ2) := r1
          rw [r1']
          simp only [Option.bind_some]
          rw [if_neg (by decide)]
          exact take σ2 hX2 hF2 (Or.inr ⟨h2, r3⟩)
        · have r1' : fX1_isRowFirst (nI (10 * k + t)) (es cand) σ = some (0, σ2) := r1
          rw [r1']
          simp only [Option.bind_some]
          rw [if_pos trivial]
          exact keep σ2 hX2 hF2 h142 (Or.inr ⟨h2.symm, r3⟩)
      · rw [if_neg (by rw [eq_nI (by omega) (by omega)]; exact h2)]
        exact keep σ hX Fr.rf h14 (Or.inl (by omega))
abbrev PC2 : Nat → Nat → Prop := fun a b => a = 20 ∨ a = 24 ∨ a = 25 ∨ (a = 3 ∧ b = 14)
theorem chl13 (hA : WFA N A) (hd : d < A 3 0) : ∀ (m k n : Nat) (σ : ST) (cand : Option (Nat × Nat × Nat)), k + m = A 4 d → m < n → XR σ N A d (A 4 d) → Tr2 N A d k 0 cand → σ.1 3 14 = nI (ec N A d cand) → ∃ σ' cand', fX1_chooseLeast_L13 n (es cand) (nI k) σ = some ((), σ') ∧ XR σ' N A d (A 4 d) ∧ Tr2 N A d (A 4 d) 0 cand' ∧ σ'.1 3 14 = nI (ec N A d cand') ∧ (∀ j, j < A 4 d → σ'.1 20 j = lcode (er N A d cand' j)) ∧ Fr PC2 σ σ' := by
  obtain ⟨-, ⟨hd6, hdd⟩, ⟨g1, g2, g3, g4⟩, -⟩ := id hA
  have h20 := (hdd d hd).1
  intro m
  induction m with
  | zero =>
    intro k n σ cand hk hn hX hT h14
    obtain ⟨n, rfl⟩ : ∃ m, n = m + 1 := ⟨n - 1, by omega⟩
    have : k = A 4 d := by omega
    subst this
    obtain ⟨σ', q1, q2, q3⟩ := X_writeRow hA hd (c := 20) (by omega) hX.2.2.2.1 (Nat.le_refl _) hX.2.2.2.2.2 hX.2.2.2.2.1 hT.1
    refine ⟨σ', cand, ?_, hX.fr q3 (fun a b z => by omega), hT, (q3.1 3 14 (by omega)).trans h14, q2, q3.mono (fun a b z => Or.inl z)⟩
    rw [uX1_chooseLeast_L13]
    unfold fX1_chooseLeast_B13
    rw [hX.2.2.2.2.1, if_pos (by rw [le_nI (by omega) (by omega)]; omega), q1]
    rfl
  | succ m ih =>
    intro k n σ cand hk hn hX hT h14
    obtain ⟨n, rfl⟩ : ∃ m, n = m + 1 := ⟨n - 1, by omega⟩
    obtain ⟨f20, hf20⟩ := FU_add 20 (by decide)
    have hlen := spL_len N A d k
    obtain ⟨σ1, cand1, q1, q2, q3, q4, q5⟩ := chl23 hA hd (fun l1 l2 σ => fX1_chooseLeast_L13 n l1 l2 σ) (show k < A 4 d by omega) (spL N A d k).length 0 FU σ cand (by omega) (by rw [hf20]; omega) hX hT h14
    obtain ⟨σ', cand', r1, r2, r3, r4, r5, r6⟩ := ih (k + 1) n σ1 cand1 (by omega) (by omega) q2 q3 q4
    refine ⟨σ', cand', ?_, r2, r3, r4, r5, (q5.mono (fun a b z => by omega)).tr r6⟩
    rw [uX1_chooseLeast_L13]
    unfold fX1_chooseLeast_B13
    rw [hX.2.2.2.2.1, if_neg (by rw [le_nI (by omega) (by omega)]; omega), zl0, q1]
    exact r1
/-- what is settled: LAID and its cost -/
def Stl (σ : ST) (N : NET) (A : AS) (d : Nat) : Prop := DPA σ N A d (A 4 d) ∧ ∃ c ρ, EndR (spL N A d) (ofD N A d) (lgD N A d) (A 5 1) (A 4 d) none c ρ ∧ c ≤ 24000000 ∧ σ.1 3 14 = nI c ∧ ∀ j, j < A 4 d → σ.1 20 j = lcode (ρ j)
theorem end_of (hN : WFN N) {σ : ST} (hD : DPA σ N A d (A 4 d)) {k i p : Nat} (hk : k < A 4 d) (hp : (spL N A d k)[i]? = some p) (i' : Nat) : EndR (spL N A d) (ofD N A d) (lgD N A d) (A 5 1) (A 4 d) (some (k, p)) (ec N A d (some (k, i', p))) (er N A d (some (k, i', p))) := by
  obtain ⟨-, hb, -⟩ := hD k i p hk hp
  exact best_end hb hk (fun j hj => if_pos hj) (fun j h1 h2 => if_neg (by omega))
theorem X_chooseLeast (hA : WFA N A) (hd : d < A 3 0) {σ : ST} (hX : XR σ N A d (A 4 d)) : ∃ σ', fX1_chooseLeast σ = some ((), σ') ∧ XR σ' N A d (A 4 d) ∧ Stl σ' N A d ∧ Fr PC2 σ σ' := by
  obtain ⟨-, ⟨hd6, hdd⟩, ⟨g1, g2, g3, g4⟩, -⟩ := id hA
  have h20 := (hdd d hd).1
  obtain ⟨f40, hf40⟩ := FU_add 40 (by decide)
  have h0 := X_costOfEnd hA hd hX (e := none) (fun q hq => by cases hq)
  have h0' : fX1_costOfEnd (-1) σ = some (nI (ec N A d none), σ) := h0
  have hF : Fr (fun a b => a = 3 ∧ b = 14) σ (stI σ 3 14 (nI (ec N A d none))) := Fr.rf.st ⟨rfl, rfl⟩
  obtain ⟨σ', cand, q1, q2, q3, q4, q5, q6⟩ := chl13 hA hd (A 4 d) 0 FU (stI σ 3 14 (nI (ec N A d none))) none (by omega) (by rw [hf40]; omega) (hX.fr hF (fun a b z => by omega)) ⟨fun q hq => (by cases hq), Or.inr ⟨rfl, lexle.rf⟩, fun k' i' q' h1 h2 => by omega⟩ (st_at _ _ _ _)
  obtain ⟨t1, t2, t3⟩ := q3
  refine ⟨σ', ?_, q2, ⟨q2.2.2.2.2.2, ec N A d cand, er N A d cand, ?_, ec_bd hA hd q2.2.2.2.2.2 t1, q4, q5⟩, (hF.mono (fun a b z => Or.inr (Or.inr (Or.inr z)))).tr q6⟩
  · unfold fX1_chooseLeast
    rw [h0']
    simp only [cb, Option.bind_some, bindv]
    exact q1
  · refine laid_of (CE := fun k p => ec N A d (some (k, 0, p))) (RE := fun k p => er N A d (some (k, 0, p))) (fun k p hk hp => ?_) t2 (fun k p hk hp => ?_) ?_
    · obtain ⟨i, hi⟩ := List.getElem?_of_mem hp
      exact end_of hX.1.1 q2.2.2.2.2.2 hk hi 0
    · obtain ⟨i, hi⟩ := List.getElem?_of_mem hp
      exact t3 k i p hk (Or.inl hk) hi
    · cases cand with
      | none => exact Or.inl ⟨rfl, fun j hj => rfl⟩
      | some q =>
        obtain ⟨z1, z2⟩ := t1 q rfl
        exact Or.inr ⟨q.1, q.2.2, z1, List.mem_of_getElem? z2, rfl, fun j hj => rfl⟩
/-- the class's store with drive d gathered -/
def GD (σ : ST) (N : NET) (A : AS) (d : Nat) : Prop := NX σ N ∧ KX σ N ∧ RX σ A ∧ (∀ r s, r < 30 → s < 30 → ¬ (r < nR N ∧ s < nR N) → bx (σ.1 12 r) s = 0) ∧ d < A 3 0 ∧ σ.2.1 3 12 = some (26 + 5 * d) ∧ σ.1 3 15 = nI (A 4 d) ∧ SpX σ N A d (A 4 d) ∧ (σ.1 3 13 = 0 ∨ (σ.1 3 13 = 1 ∧ Stl σ N A d))
/-- the class's store between calls -/
def GX (σ : ST) (N : NET) (A : AS) : Prop := NX σ N ∧ KX σ N ∧ RX σ A ∧ (∀ r s, r < 30 → s < 30 → ¬ (r < nR N ∧ s < nR N) → bx (σ.1 12 r) s = 0) ∧ (σ.2.1 3 12 = none ∨ ∃ d, GD σ N A d)
theorem GD.gx {σ : ST} (h : GD σ N A d) : GX σ N A := ⟨h.1, h.2.1, h.2.2.1, h.2.2.2.1, Or.inr ⟨d, h⟩⟩
theorem refOK_of {σ : ST} {k : Nat} (h : isDr σ k = true) : refOK σ (some k) = true := by
  have h' := of_decide_eq_true h
  exact decide_eq_true h'.2.2
theorem sr_at (σ : ST) (k i : Nat) (x : Option Nat) : (stR σ k i x).2.1 k i = x := if_pos ⟨rfl, rfl⟩
theorem sr_ne (σ : ST) {k i a b : Nat} (x : Option Nat) (h : ¬ (a = k ∧ b = i)) : (stR σ k i x).2.1 a b = σ.2.1 a b := if_neg h
/-- as Fr, with the reference to the gathered drive let go -/
def Fq (P : Nat → Nat → Prop) (σ σ' : ST) : Prop := ∀ a b, ¬ P a b → σ'.1 a b = σ.1 a b
theorem X_gather (hA : WFA N A) (hd : d < A 3 0) {σ : ST} (hG : GX σ N A) : ∃ σ', fX1_gather (26 + 5 * d) σ = some ((), σ') ∧ GD σ' N A d ∧ ∀ a b, (a = 5 ∨ a = 6) → σ'.1 a b = σ.1 a b := by
  obtain ⟨hN, hK, hR, hbx, hc⟩ := id hG
  obtain ⟨-, ⟨hd6, hdd⟩, -⟩ := id hA
  have h20 := (hdd d hd).1
  have hdr := isDr_of hR hd
  have anew : refOK σ (σ.2.1 3 12) = true → σ.2.1 3 12 ≠ some (26 + 5 * d) → ∃ σ', fX1_gather (26 + 5 * d) σ = some ((), σ') ∧ GD σ' N A d ∧ ∀ a b, (a = 5 ∨ a = 6) → σ'.1 a b = σ.1 a b := by
    intro hok hne
    obtain ⟨f40, hf40⟩ := FU_add 40 (by decide)
    -- the store with the reference set
    have hR0 : RX (stR σ 3 12 (some (26 + 5 * d))) A := by
      obtain ⟨a1, ⟨b1, b2, b3, b4⟩, a3⟩ := hR
      refine ⟨a1, ⟨b1, b2, fun x => ?_, b4⟩, a3⟩
      rw [sr_ne _ _ (by omega)]
      exact b3 x
    have hN0 : NX (stR σ 3 12 (some (26 + 5 * d))) N := hN
    have hK0 : KX (stR σ 3 12 (some (26 + 5 * d))) N := hK
    have hF : Fr (fun a b => a = 3 ∧ 13 ≤ b) (stR σ 3 12 (some (26 + 5 * d))) (stI (stI (stR σ 3 12 (some (26 + 5 * d))) 3 13 0) 3 15 (nI (A 4 d))) := (Fr.rf.st ⟨rfl, by omega⟩).st ⟨rfl, by omega⟩
    have hN1 := hN0.fr hF (fun a b z => by omega)
    have hR1 := hR0.fr hF (fun a b z => by omega)
    obtain ⟨σ', q1, q2, q3⟩ := gat_L hA hd (A 4 d) 0 FU _ (by omega) (by rw [hf40]; omega) hN1 hR1 (st_at _ _ _ _) (fun s hs => by omega)
    have hFF := (hF.mono (Q := fun a b => (a = 3 ∧ 13 ≤ b) ∨ a = 18 ∨ a = 19 ∨ a = 21) (fun a b z => Or.inl z)).tr (q3.mono (fun a b z => Or.inr z))
    refine ⟨σ', ?_, ⟨hN0.fr hFF (fun a b z => by omega), hK0.fr hFF (fun a b z => by omega), hR0.fr hFF (fun a b z => by omega), fun r s h1 h2 h3 => ?_, hd, ?_, ?_, q2, Or.inl ?_⟩, fun a b z => hFF.1 a b (by omega)⟩
    · unfold fX1_gather
      simp only [bindv]
      rw [hok, refOK_of hdr, if_pos (by decide), if_neg hne]
      have e1 : isDr (stI (stR σ 3 12 (some (26 + 5 * d))) 3 13 0) (26 + 5 * d) = true := hdr
      have e2 : (stI (stR σ 3 12 (some (26 + 5 * d))) 3 13 0).1 (26 + 5 * d) 0 = nI (A 4 d) := by
        rw [st_cell _ _ _ (by omega)]
        exact (hR.2.1.2.2.2 d hd).1
      rw [if_pos e1, e2]
      exact q1
    · rw [hFF.1 12 r (by omega)]; exact hbx r s h1 h2 h3
    · rw [hFF.2]
      exact sr_at _ _ _ _
    · rw [q3.1 3 15 (by omega)]; exact st_at _ _ _ _
    · rw [q3.1 3 13 (by omega), st_idx _ _ (by omega)]; exact st_at _ _ _ _
  rcases hc with hc | ⟨d', hG'⟩
  · exact anew (by rw [hc]; rfl) (by rw [hc]; exact fun z => by cases z)
  · have h12 := hG'.2.2.2.2.2.1
    have hd' := hG'.2.2.2.2.1
    by_cases e : d' = d
    · subst e
      refine ⟨σ, ?_, hG', fun _ _ _ => rfl⟩
      unfold fX1_gather
      simp only [bindv]
      rw [h12, refOK_of hdr, if_pos (by decide), if_pos rfl]
    · exact anew (by rw [h12]; exact refOK_of (isDr_of hR hd')) (by rw [h12]; intro z; have := Option.some.inj z; omega)
/-- all best rows of drive d -/
theorem stl35 (hA : WFA N A) (hd : d < A 3 0) (k25 : Option Nat → Int32 → ST → Option (Int32 × ST)) {s : Nat} (hs : s < A 4 d) : ∀ (m t n : Nat) (σ : ST), t + m = (spL N A d s).length → m < n → XR σ N A d s → (∀ i v, i < t → (spL N A d s)[i]? = some v → SlotOK σ N A d s i v) → ∃ σ', fX1_settle_L35 k25 n (some (26 + 5 * d)) (nI s) (nI t) σ = k25 (some (26 + 5 * d)) (nI (s + 1)) σ' ∧ XR σ' N A d (s + 1) ∧ Fr (fun a b => (15 ≤ a ∧ a ≤ 17) ∨ (22 ≤ a ∧ a ≤ 25)) σ σ' := by
  obtain ⟨-, ⟨hd6, hdd⟩, -⟩ := id hA
  have h20 := (hdd d hd).1
  have hlen := spL_len N A d s
  intro m
  induction m with
  | zero =>
    intro t n σ ht hn hX hT
    obtain ⟨n, rfl⟩ : ∃ m, n = m + 1 := ⟨n - 1, by omega⟩
    refine ⟨σ, ?_, ⟨hX.1, hX.2.1, hX.2.2.1, hX.2.2.2.1, hX.2.2.2.2.1, fun k i v hk hv => ?_⟩, Fr.rf⟩
    · rw [uX1_settle_L35]
      unfold fX1_settle_B35
      rw [if_pos (ib_nI (show s < 20 by omega) (by decide)), cl_nI (by omega), (hX.2.2.2.1 s hs).1, if_pos (by rw [le_nI (by omega) (by omega)]; omega)]
      simp only [bindv, nI_1]
    · by_cases e : k = s
      · subst e
        exact hT i v (by have := (List.getElem?_eq_some_iff.mp hv).1; omega) hv
      · exact hX.2.2.2.2.2 k i v (by omega) hv
  | succ m ih =>
    intro t n σ ht hn hX hT
    obtain ⟨n, rfl⟩ : ∃ m, n = m + 1 := ⟨n - 1, by omega⟩
    obtain ⟨q, hq⟩ : ∃ q, (spL N A d s)[t]? = some q := ⟨_, List.getElem?_eq_some_iff.mpr ⟨by omega, rfl⟩⟩
    obtain ⟨σ1, q1, q2, q3, q4⟩ := X_findRowTo hA hd hs hq hX
    obtain ⟨hN, hK, hR, hS, h15, hD⟩ := id hX
    have hX1 : XR σ1 N A d s := ⟨hN.fr q4 (fun a b z => by omega), q3, hR.fr q4 (fun a b z => by omega), hS.fr q4 (fun a b z => by omega), (q4.1 3 15 (by omega)).trans h15, fun k i v hk hv => (hD k i v hk hv).fr q4 (by
      have h1 := (List.getElem?_eq_some_iff.mp hv).1
      have h2 := spL_len N A d k
      exact ⟨by omega, by omega⟩)⟩
    obtain ⟨σ', r1, r2, r3⟩ := ih (t + 1) n σ1 (by omega) (by omega) hX1 (fun i v hi hv => by
      by_cases e : i = t
      · subst e; rw [hq] at hv; cases hv; exact q2
      · exact (hT i v (by omega) hv).fr q4 ⟨by omega, by omega⟩)
    refine ⟨σ', ?_, r2, (q4.mono (fun a b z => by omega)).tr r3⟩
    have t10 : nI s * 10 + nI t = nI (10 * s + t) := by rw [show (nI s : Int32) * 10 = nI (10 * s) from by rw [show (10 : Int32) = nI 10 from rfl, pk_mul, Nat.mul_comm], nI_add]
    rw [uX1_settle_L35]
    unfold fX1_settle_B35
    rw [if_pos (ib_nI (show s < 20 by omega) (by decide)), cl_nI (by omega), (hX.2.2.2.1 s hs).1, if_neg (by rw [le_nI (by omega) (by omega)]; omega)]
    simp only [Option.elim, isDr_of hR hd, ↓reduceIte, t10, q1, cb, Option.bind_some, bindv, nI_1]
    exact r1
theorem stl25 (hA : WFA N A) (hd : d < A 3 0) : ∀ (m s n : Nat) (σ : ST), s + m = A 4 d → m < n → XR σ N A d s → ∃ σ' c, fX1_settle_L25 n (some (26 + 5 * d)) (nI s) σ = some (c, σ') ∧ σ'.1 3 14 = c ∧ σ'.1 3 13 = 1 ∧ XR σ' N A d (A 4 d) ∧ Stl σ' N A d ∧ Fr (fun a b => (15 ≤ a ∧ a ≤ 17) ∨ a = 20 ∨ (22 ≤ a ∧ a ≤ 25) ∨ (a = 3 ∧ (b = 13 ∨ b = 14))) σ σ' := by
  obtain ⟨-, ⟨hd6, hdd⟩, -⟩ := id hA
  have h20 := (hdd d hd).1
  intro m
  induction m with
  | zero =>
    intro s n σ hs hn hX
    obtain ⟨n, rfl⟩ : ∃ m, n = m + 1 := ⟨n - 1, by omega⟩
    have : s = A 4 d := by omega
    subst this
    obtain ⟨σ1, q1, q2, q3, q4⟩ := X_chooseLeast hA hd hX
    have hF : Fr (fun a b => a = 3 ∧ b = 13) σ1 (stI σ1 3 13 1) := Fr.rf.st ⟨rfl, rfl⟩
    refine ⟨stI σ1 3 13 1, _, ?_, rfl, st_at _ _ _ _, q2.fr hF (fun a b z => by omega), ⟨q3.1.fr hF (fun a b z => by omega), ?_⟩, (q4.mono (fun a b z => by omega)).tr (hF.mono (fun a b z => by omega))⟩
    · rw [uX1_settle_L25]
      unfold fX1_settle_B25
      rw [hX.2.2.2.2.1, if_pos (by rw [le_nI (by omega) (by omega)]; omega), q1]
      rfl
    · obtain ⟨-, c, ρ, e1, e2, e3, e4⟩ := q3
      exact ⟨c, ρ, e1, e2, (hF.1 3 14 (by omega)).trans e3, fun j hj => (hF.1 20 j (by omega)).trans (e4 j hj)⟩
  | succ m ih =>
    intro s n σ hs hn hX
    obtain ⟨n, rfl⟩ : ∃ m, n = m + 1 := ⟨n - 1, by omega⟩
    obtain ⟨f20, hf20⟩ := FU_add 20 (by decide)
    have hlen := spL_len N A d s
    obtain ⟨σ1, q1, q2, q3⟩ := stl35 hA hd (fun l1 l2 σ => fX1_settle_L25 n l1 l2 σ) (show s < A 4 d by omega) (spL N A d s).length 0 FU σ (by omega) (by rw [hf20]; omega) hX (fun i v hi => by omega)
    obtain ⟨σ', c, r1, r2, r3, r4, r5, r6⟩ := ih (s + 1) n σ1 (by omega) (by omega) q2
    refine ⟨σ', c, ?_, r2, r3, r4, r5, (q3.mono (fun a b z => by omega)).tr r6⟩
    rw [uX1_settle_L25]
    unfold fX1_settle_B25
    rw [hX.2.2.2.2.1, if_neg (by rw [le_nI (by omega) (by omega)]; omega), zl0, q1]
    exact r1
theorem X_settle (hA : WFA N A) (hd : d < A 3 0) {σ : ST} (hG : GX σ N A) : ∃ σ' c ρ, fX1_settle (some (26 + 5 * d)) σ = some (nI c, σ') ∧ EndR (spL N A d) (ofD N A d) (lgD N A d) (A 5 1) (A 4 d) none c ρ ∧ c ≤ 24000000 ∧ σ'.1 3 14 = nI c ∧ (∀ j, j < A 4 d → σ'.1 20 j = lcode (ρ j)) ∧ DPA σ' N A d (A 4 d) ∧ GD σ' N A d ∧ ∀ a b, (a = 5 ∨ a = 6) → σ'.1 a b = σ.1 a b := by
  obtain ⟨σ1, q1, q2, q3⟩ := X_gather hA hd hG
  obtain ⟨-, ⟨hd6, hdd⟩, -⟩ := id hA
  have h20 := (hdd d hd).1
  obtain ⟨h1, h2, h3, h4, h5, h6, h7, h8, h9⟩ := id q2
  unfold fX1_settle
  simp only [Option.elim, q1, cb, Option.bind_some]
  rcases h9 with h0 | ⟨h0, hD, c, ρ, e1, e2, e3, e4⟩
  · obtain ⟨f40, hf40⟩ := FU_add 40 (by decide)
    obtain ⟨σ', x, r1, r2, r3, r4, r5, r6⟩ := stl25 hA hd (A 4 d) 0 FU σ1 (by omega) (by rw [hf40]; omega) ⟨h1, h2, h3, h8, h7, fun k i v hk => by omega⟩
    obtain ⟨hD, c, ρ, e1, e2, e3, e4⟩ := id r5
    refine ⟨σ', c, ρ, ?_, e1, e2, e3, e4, hD, ⟨r4.1, r4.2.1, r4.2.2.1, fun r s y1 y2 y3 => ?_, hd, ?_, r4.2.2.2.2.1, r4.2.2.2.1, Or.inr ⟨r3, r5⟩⟩, fun a b z => (r6.1 a b (by omega)).trans (q3 a b z)⟩
    · rw [if_pos h0, zl0, r1, ← r2, e3]
    · rw [r6.1 12 r (by omega)]; exact h4 r s y1 y2 y3
    · rw [r6.2]; exact h6
  · refine ⟨σ1, c, ρ, ?_, e1, e2, e3, e4, hD, q2, q3⟩
    rw [if_neg (by rw [h0]; decide), e3]
end XLay
