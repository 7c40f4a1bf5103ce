-- pure: the reference's findRow and lay (own work)
section MRows3
variable {N : NET} {A : AS} {d : Nat}
abbrev PF0 : Nat → Nat → Prop := fun a b => a = 21 ∨ a = 22 ∨ (a = 0 ∧ b = 30)
theorem RestC.fr {P : Nat → Nat → Prop} {σ σ' : ST} {rs : Nat → Nat → Nat} {k : Nat} (h : RestC σ N A d rs k) (hF : Fr P σ σ') (hP : ∀ a b, P a b → a ≠ 21) : RestC σ' N A d rs k := fun j i p h1 h2 h3 => by
  rw [hF.1 21 _ (fun z => hP _ _ z rfl)]
  exact h j i p h1 h2 h3
/-- the walk up to sight k -/
def GTo (N : NET) (A : AS) (d : Nat) (en : Option (Nat × Nat)) (K : Nat) (ρ : Nat → Nat) (l : Nat → Option (Nat × Nat)) (due : Nat → Nat) : Prop := ∀ k, k < K →
  (ρ k ∈ spL N A d k ∧ (∃ x, lgo (lgD N A d) (l k) k (ρ k) = some x ∧ rsD N A d en k (ρ k) < MF ∧ x + rsD N A d en k (ρ k) = due k) ∧ (∀ q x, q ∈ spL N A d k → q < ρ k → lgo (lgD N A d) (l k) k q = some x → rsD N A d en k q < MF → x + rsD N A d en k q ≠ due k) ∧ l (k + 1) = some (k, ρ k) ∧ due (k + 1) = rsD N A d en k (ρ k) - ofD N A d k (ρ k)) ∨
  (ρ k = 1000 ∧ (∀ q x, q ∈ spL N A d k → lgo (lgD N A d) (l k) k q = some x → rsD N A d en k q < MF → x + rsD N A d en k q ≠ due k) ∧ l (k + 1) = l k ∧ due (k + 1) = due k - A 5 1)
theorem GTo.up {en : Option (Nat × Nat)} {K : Nat} {ρ : Nat → Nat} {l : Nat → Option (Nat × Nat)} {due : Nat → Nat} (h : GTo N A d en K ρ l due) (r : Nat) (lv : Option (Nat × Nat)) (dv : Nat) (hs : (r ∈ spL N A d K ∧ (∃ x, lgo (lgD N A d) (l K) K r = some x ∧ rsD N A d en K r < MF ∧ x + rsD N A d en K r = due K) ∧ (∀ q x, q ∈ spL N A d K → q < r → lgo (lgD N A d) (l K) K q = some x → rsD N A d en K q < MF → x + rsD N A d en K q ≠ due K) ∧ lv = some (K, r) ∧ dv = rsD N A d en K r - ofD N A d K r) ∨ (r = 1000 ∧ (∀ q x, q ∈ spL N A d K → lgo (lgD N A d) (l K) K q = some x → rsD N A d en K q < MF → x + rsD N A d en K q ≠ due K) ∧ lv = l K ∧ dv = due K - A 5 1)) : GTo N A d en (K + 1) (va_up ρ K r) (va_up l (K + 1) lv) (va_up due (K + 1) dv) := by
  intro k hk
  by_cases e : k = K
  · subst e
    rw [upc_s, upc_s, upc_s, upc_n _ _ (show k ≠ k + 1 by omega), upc_n _ _ (show k ≠ k + 1 by omega)]
    exact hs
  · rw [upc_n _ _ e, upc_n _ _ (show k ≠ K + 1 by omega), upc_n _ _ (show k ≠ K + 1 by omega), upc_n _ _ (show k + 1 ≠ K + 1 by omega), upc_n _ _ (show k + 1 ≠ K + 1 by omega)]
    exact h k (by omega)
theorem lcode_n {q : Nat} (h : q < 1000) : lcode q = nI q := if_neg (by omega)
theorem mfr185 (hA : WFA N A) (hd : d < A 3 0) {en : Option (Nat × Nat)} (hP : RestP N A d en 0) : ∀ (m k n : Nat) (σ : ST) (ρ : Nat → Nat) (l : Nat → Option (Nat × Nat)) (due : Nat → Nat), k + m = A 4 d → m < n → MB σ N A d → RestC σ N A d (rsD N A d en) 0 → okL N k (l k) → due k < MF → Lst MF (sset (spL N A d) (ofD N A d) (lgD N A d) (A 5 1) en (A 4 d - k) k (l k)) (due k) → GTo N A d en k ρ l due → (∀ j, j < k → σ.1 22 j = lcode (ρ j)) → ∃ σ' ρ' l' due', fX5_findRow_L185 n (nI (A 4 d)) (li (l k)) (lp (l k)) (nI (due k)) (nI k) σ = some ((), σ') ∧ GTo N A d en (A 4 d) ρ' l' due' ∧ l' 0 = l 0 ∧ due' 0 = due 0 ∧ (∀ j, j < A 4 d → σ'.1 22 j = lcode (ρ' j)) ∧ Fr (fun a b => a = 22) σ σ' := by
  have hMF : MF = 1000000000 := rfl
  obtain ⟨-, ⟨hd6, hdd⟩, ⟨g1, g2, g3, g4⟩, -⟩ := id hA
  obtain ⟨h20, hdx, hinc⟩ := hdd d hd
  intro m
  induction m with
  | zero =>
    intro k n σ ρ l due hk hn hB hC hl hdue hL hG h22
    obtain ⟨n, rfl⟩ : ∃ m, n = m + 1 := ⟨n - 1, by omega⟩
    have : k = A 4 d := by omega
    subst this
    refine ⟨σ, ρ, l, due, ?_, hG, rfl, rfl, h22, Fr.rf⟩
    rw [uX5_findRow_L185]
    unfold fX5_findRow_B185
    rw [if_pos (by rw [le_nI (by omega) (by omega)]; omega)]
  | succ m ih =>
    intro k n σ ρ l due hk hn hB hC hl hdue hL hG h22
    obtain ⟨n, rfl⟩ : ∃ m, n = m + 1 := ⟨n - 1, by omega⟩
    have hkn : k < A 4 d := by omega
    have hRb := hB.1.1.1
    have i1 : ib (nI k) 20 = true := ib_nI (by omega) (by decide)
    have c1 : (nI k).toNatClampNeg = k := cl_nI (by omega)
    have hF0 : Fr (fun a b => a = 22) σ (stI σ 22 k (-5)) := Fr.rf.st rfl
    have hB0 := hB.fr hF0 (fun a b z => Or.inr (Or.inl z))
    have hC0 := hC.fr hF0 (fun a b z => by omega)
    obtain ⟨f40, hf40⟩ := FU_add 40 (by decide)
    have hlen := spL_len N A d k
    obtain ⟨st1, st2⟩ := greedy_step (h1000_D hB.1.1) (fun j p hj hp => hP j p (by omega) hj hp) hkn hL hdue
    have hs := mfr203 hA hd hP (fun l3 l4 l5 l6 l7 σ => fX5_findRow_L185 n l3 l4 l5 l6 l7 σ) hkn hl hdue (spL N A d k).length 0 FU (stI σ 22 k (-5)) (by omega) (by rw [hf40]; omega) hB0 hC0 (st_at _ _ _ _) (fun i q x hi => by omega)
    have head : ∀ X, fX5_findRow_L203 (fun l3 l4 l5 l6 l7 σ => fX5_findRow_L185 n l3 l4 l5 l6 l7 σ) FU (nI (A 4 d)) (li (l k)) (lp (l k)) (nI (due k)) (nI k) (nI 0) (stI σ 22 k (-5)) = X → fX5_findRow_L185 (n + 1) (nI (A 4 d)) (li (l k)) (lp (l k)) (nI (due k)) (nI k) σ = X := by
      intro X hX
      rw [uX5_findRow_L185]
      unfold fX5_findRow_B185
      rw [if_neg (by rw [le_nI (by omega) (by omega)]; omega), if_pos i1, c1]
      exact hX
    rcases hs with ⟨e1, e2⟩ | ⟨q, e1, ⟨x, e2, e3, e4⟩, e5, e6⟩
    · obtain ⟨t1, t2, t3⟩ := st2 e2
      have hG' := hG.up 1000 (l k) (due k - A 5 1) (Or.inr ⟨rfl, e2, rfl, rfl⟩)
      have u1 : va_up l (k + 1) (l k) (k + 1) = l k := upc_s _ _ _
      have u2 : va_up due (k + 1) (due k - A 5 1) (k + 1) = due k - A 5 1 := upc_s _ _ _
      obtain ⟨σ', ρ', l', due', q1, q2, q3, q4, q5, q6⟩ := ih (k + 1) n (stI σ 22 k (-5)) _ _ _ (by omega) (by omega) hB0 hC0 (by rw [u1]; exact fun q hq => ⟨by have := (hl q hq).1; omega, (hl q hq).2⟩) (by rw [u2]; exact t3) (by rw [u1, u2]; exact t2) hG' (fun j hj => by
        by_cases e : j = k
        · subst e; rw [st_at, upc_s]; rfl
        · rw [st_idx _ _ e, upc_n _ _ e]; exact h22 j (by omega))
      rw [u1, u2] at q1
      refine ⟨σ', ρ', l', due', head _ ?_, q2, by rw [q3, upc_n _ _ (by omega)], by rw [q4, upc_n _ _ (by omega)], q5, hF0.tr q6⟩
      rw [e1]
      unfold fX5_findRow_J354 fX5_findRow_J391
      rw [if_pos i1, c1, st_at, if_pos rfl, st_cell _ _ _ (by decide), hB.2.1.2.2.1.2, sub_nI t1]
      simp only [bindv, nI_1]
      exact q1
    · obtain ⟨t1, t2⟩ := st1 q x e1 e2 e3 e4
      have hq150 := spL_lt e1
      have hG' := hG.up q (some (k, q)) (rsD N A d en k q - ofD N A d k q) (Or.inl ⟨e1, ⟨x, e2, e3, e4⟩, e5, rfl, rfl⟩)
      have u1 : va_up l (k + 1) (some (k, q)) (k + 1) = some (k, q) := upc_s _ _ _
      have u2 : va_up due (k + 1) (rsD N A d en k q - ofD N A d k q) (k + 1) = rsD N A d en k q - ofD N A d k q := upc_s _ _ _
      have hF1 : Fr (fun a b => a = 22) σ (stI (stI σ 22 k (-5)) 22 k (nI q)) := hF0.st rfl
      obtain ⟨σ', ρ', l', due', q1, q2, q3, q4, q5, q6⟩ := ih (k + 1) n (stI (stI σ 22 k (-5)) 22 k (nI q)) _ _ _ (by omega) (by omega) (hB.fr hF1 (fun a b z => Or.inr (Or.inl z))) (hC.fr hF1 (fun a b z => by omega)) (by rw [u1]; intro r hr; cases hr; exact ⟨by omega, hq150⟩) (by rw [u2]; exact t2) (by rw [u1, u2]; exact t1) hG' (fun j hj => by
        by_cases e : j = k
        · subst e; rw [st_at, upc_s, lcode_n (by omega)]
        · rw [st_idx _ _ e, st_idx _ _ e, upc_n _ _ e]; exact h22 j (by omega))
      rw [u1, u2] at q1
      refine ⟨σ', ρ', l', due', head _ ?_, q2, by rw [q3, upc_n _ _ (by omega)], by rw [q4, upc_n _ _ (by omega)], q5, hF1.tr q6⟩
      rw [e6]
      unfold fX5_findRow_J354 fX5_findRow_J391
      rw [if_pos i1, c1, st_at, if_neg (ne_m5 (by omega)), if_pos i1]
      simp only [bindv, nI_1]
      exact q1
/-- the first loop, and what comes behind it -/
theorem mfr15 (hA : WFA N A) (hd : d < A 3 0) {en : Option (Nat × Nat)} (he : okE N A d en) : ∀ (m n : Nat) (σ : ST), m ≤ A 4 d → m < n → MB σ N A d → RestC σ N A d (rsD N A d en) m → RestP N A d en m → ∃ σ' c ρ, fX5_findRow_L15 n (li en) (lp en) (nI (A 4 d)) (nI m - 1) σ = some ((), σ') ∧ EndR (spL N A d) (ofD N A d) (lgD N A d) (A 5 1) (A 4 d) en c ρ ∧ c ≤ 23000000 ∧ σ'.1 0 30 = nI c ∧ (∀ j, j < A 4 d → σ'.1 22 j = lcode (ρ j)) ∧ Fr PF0 σ σ' := by
  have hMF : MF = 1000000000 := rfl
  obtain ⟨-, ⟨hd6, hdd⟩, ⟨g1, g2, g3, g4⟩, -⟩ := id hA
  obtain ⟨h20, hdx, hinc⟩ := hdd d hd
  intro m
  induction m with
  | zero =>
    intro n σ hm hn hB hC hP
    obtain ⟨n, rfl⟩ : ∃ m, n = m + 1 := ⟨n - 1, by omega⟩
    obtain ⟨v, b1, b2⟩ := M_behind hA hd hB (he.bd hA hB.1.1 hd) (k := 0) (by omega) hC (l := none) (fun q hq => by cases hq)
    have b3 := behind_of (of := ofD N A d) (fun k p hp => by have := h1000_D hB.1.1 k p hp; omega) (show 0 ≤ A 4 d by omega) (Nat.le_refl 0) (fun j' p' h1 h2 h3 => hP j' p' h1 h2 h3) b2
    rw [Nat.sub_zero] at b3
    have hex : ∃ ρ c, sx (spL N A d) (ofD N A d) (lgD N A d) (A 5 1) en ρ (A 4 d) 0 none c := by
      cases hen : en with
      | none => exact none_ex
      | some q =>
        obtain ⟨z1, z2⟩ := he q hen
        exact end_ex z1 z2 (by have := h1000_D hB.1.1 _ _ z2; omega)
    have bd : ∀ ρ c, sx (spL N A d) (ofD N A d) (lgD N A d) (A 5 1) en ρ (A 4 d) 0 none c → c ≤ 23000000 := fun ρ c h => by
      have h3 := sx_bd (n := A 4 d) (fun e q k p x hk hx => lgD_bd hA hd hk hx) (hof_D hA hd) g4 (A 4 d) 0 _ c (by omega) h
      have h5 : 1100000 * A 4 d ≤ 1100000 * 20 := Nat.mul_le_mul_left _ h20
      omega
    have hv : v ≤ 23000000 := by
      obtain ⟨ρ, c, h⟩ := hex
      have := b3.2.1 c ⟨ρ, h⟩
      have := bd ρ c h
      omega
    have hF0 : Fr PF0 σ (stI σ 0 30 (nI v)) := Fr.rf.st (Or.inr (Or.inr ⟨rfl, rfl⟩))
    have hF0' : Fr (fun a b => a = 0 ∧ b = 30) σ (stI σ 0 30 (nI v)) := Fr.rf.st ⟨rfl, rfl⟩
    obtain ⟨f40, hf40⟩ := FU_add 40 (by decide)
    obtain ⟨σ', ρ', l', due', q1, q2, q3, q4, q5, q6⟩ := mfr185 hA hd hP (A 4 d) 0 FU (stI σ 0 30 (nI v)) (fun _ => 0) (fun _ => none) (fun _ => v) (by omega) (by rw [hf40]; omega) (hB.fr hF0' (fun a b z => Or.inr (Or.inr (Or.inr z)))) (hC.fr hF0' (fun a b z => by omega)) (fun q hq => by cases hq) (show v < MF by omega) (by rw [Nat.sub_zero]; exact b3) (fun k hk => by omega) (fun j hj => by omega)
    refine ⟨σ', v, ρ', ?_, ?_, hv, (q6.1 0 30 (fun z => by omega)).trans (st_at _ _ _ _), q5, hF0.tr (q6.mono (fun a b z => Or.inr (Or.inl z)))⟩
    · rw [uX5_findRow_L15]
      unfold fX5_findRow_B15
      rw [if_pos (show (nI 0 : Int32) - 1 < 0 by decide)]
      have b1' : fX5_behind 0 (-1) (-1) (li en) (lp en) σ = some (nI v, σ) := b1
      rw [b1']
      simp only [cb, Option.bind_some, bindv, st_at]
      exact q1
    · have h0 : due' 0 = v := q4
      rw [← h0]
      exact greedy_end (h1000_D hB.1.1) (fun j p hj hp => hP j p (by omega) hj hp) q3 q2 (by rw [h0]; exact b3) (by omega)
  | succ m ih =>
    intro n σ hm hn hB hC hP
    obtain ⟨n, rfl⟩ : ∃ m, n = m + 1 := ⟨n - 1, by omega⟩
    obtain ⟨f20, hf20⟩ := FU_add 20 (by decide)
    have hlen := spL_len N A d m
    obtain ⟨σ1, q1, q2, q3, q4⟩ := mfr23 hA hd he (fun l1 l2 l3 l4 σ => fX5_findRow_L15 n l1 l2 l3 l4 σ) (show m < A 4 d by omega) hP (spL N A d m).length 0 FU σ (by omega) (by rw [hf20]; omega) hB hC (fun i p hi => by omega)
    obtain ⟨σ', c, ρ, r1, r2, r3, r4, r5, r6⟩ := ih n σ1 (by omega) (by omega) (hB.fr q4 (fun a b z => Or.inl z.1)) q2 q3
    refine ⟨σ', c, ρ, ?_, r2, r3, r4, r5, (q4.mono (fun a b z => Or.inl z.1)).tr r6⟩
    rw [uX5_findRow_L15]
    unfold fX5_findRow_B15
    rw [nI_pred, if_neg (nI_nn (by omega)), zl0, q1]
    rw [show nI m + -1 = nI m - 1 from by generalize nI m = x; grind]
    exact r1
theorem M_findRow (hA : WFA N A) (hd : d < A 3 0) {en : Option (Nat × Nat)} (he : okE N A d en) {σ : ST} (hB : MB σ N A d) : ∃ σ' c ρ, fX5_findRow (li en) (lp en) σ = some ((), σ') ∧ EndR (spL N A d) (ofD N A d) (lgD N A d) (A 5 1) (A 4 d) en c ρ ∧ c ≤ 23000000 ∧ σ'.1 0 30 = nI c ∧ (∀ j, j < A 4 d → σ'.1 22 j = lcode (ρ j)) ∧ Fr PF0 σ σ' ∧ MB σ' N A d := by
  obtain ⟨-, ⟨hd6, hdd⟩, -⟩ := id hA
  obtain ⟨h20, hdx, hinc⟩ := hdd d hd
  have e13 := hB.2.1.2.1.2.1 d (by omega)
  rw [if_pos hd] at e13
  obtain ⟨f40, hf40⟩ := FU_add 40 (by decide)
  obtain ⟨σ', c, ρ, r1, r2, r3, r4, r5, r6⟩ := mfr15 hA hd he (A 4 d) FU σ (Nat.le_refl _) (by rw [hf40]; omega) hB (fun j i p h1 h2 => by omega) (fun j p h1 h2 => by omega)
  refine ⟨σ', c, ρ, ?_, r2, r3, r4, r5, r6, hB.fr r6 (fun a b z => by rcases z with z | z | z <;> omega)⟩
  unfold fX5_findRow
  rw [hB.2.2.2.2, if_pos (ib_nI (show d < 6 by omega) (by decide)), cl_nI (by omega), e13]
  exact r1
/-- the reference's store between calls -/
def GM (σ : ST) (N : NET) (A : AS) : Prop := NM σ N ∧ CWM σ N ∧ RM σ A ∧ ∀ r s, r < 30 → s < 30 → ¬ (r < nR N ∧ s < nR N) → σ.1 8 (30 * r + s) = 0
abbrev PM : Nat → Nat → Prop := fun a b => 15 ≤ a ∨ (a = 0 ∧ (b = 20 ∨ 30 ≤ b))
theorem M_ready (hA : WFA N A) {σ : ST} (hG : GM σ N A) (hd : d < A 3 0) : ∃ σ1 σ2, fX5_findWays σ = some ((), σ1) ∧ fX5_findSpots (nI d) σ1 = some ((), σ2) ∧ MB σ2 N A d ∧ GM σ2 N A ∧ Fr PM σ σ2 := by
  obtain ⟨h1, h2, h3, h4⟩ := hG
  obtain ⟨σ1, q1, q2, q3, q4⟩ := M_findWays h1 h2
  have hN1 := h1.fr q4 (fun a b z => by rcases z with z | z <;> omega)
  have hR1 := h3.fr q4 (fun a b z => by rcases z with z | z <;> omega)
  obtain ⟨σ2, r1, r2, r3, r4⟩ := M_findSpots hA hN1 hR1 hd
  have hN2 := hN1.fr r4 (fun a b z => by rcases z with z | z | z <;> omega)
  have hR2 := hR1.fr r4 (fun a b z => by rcases z with z | z | z <;> omega)
  have hW2 := q2.fr r4 (fun a b z => by rcases z with z | z | z <;> omega)
  refine ⟨σ1, σ2, q1, r1, ⟨hN2, hR2, hW2, r2, r3⟩, ⟨hN2, Or.inr ⟨(r4.1 0 20 (fun z => by rcases z with z | z | z <;> omega)).trans q3, hW2⟩, hR2, fun r s hr hs hn => ?_⟩, (q4.mono (fun a b z => by rcases z with z | z <;> omega)).tr (r4.mono (fun a b z => by rcases z with z | z | z <;> omega))⟩
  rw [r4.1 8 _ (fun z => by rcases z with z | z | z <;> omega), q4.1 8 _ (fun z => by rcases z with z | z <;> omega)]
  exact h4 r s hr hs hn
theorem GM.fr {P : Nat → Nat → Prop} {σ σ' : ST} (h : GM σ N A) (hF : Fr P σ σ') (hP : ∀ a b, P a b → 17 ≤ a ∨ (a = 0 ∧ 30 ≤ b)) : GM σ' N A := by
  obtain ⟨h1, h2, h3, h4⟩ := h
  refine ⟨h1.fr hF (fun a b z => by have := hP a b z; omega), ?_, h3.fr hF (fun a b z => by have := hP a b z; omega), fun r s hr hs hn => ?_⟩
  · rcases h2 with h | ⟨h, h'⟩
    · exact Or.inl ((hF.1 0 20 (fun z => by have := hP _ _ z; omega)).trans h)
    · exact Or.inr ⟨(hF.1 0 20 (fun z => by have := hP _ _ z; omega)).trans h, h'.fr hF (fun a b z => by have := hP _ _ z; omega)⟩
  · rw [hF.1 8 _ (fun z => by have := hP _ _ z; omega)]
    exact h4 r s hr hs hn
theorem M_lay (hA : WFA N A) {σ : ST} (hG : GM σ N A) (hd : d < A 3 0) : ∃ σ' c ρ, fX5_lay (nI d) σ = some ((), σ') ∧ EndR (spL N A d) (ofD N A d) (lgD N A d) (A 5 1) (A 4 d) none c ρ ∧ c ≤ 23000000 ∧ σ'.1 0 30 = nI c ∧ (∀ j, j < A 4 d → σ'.1 22 j = lcode (ρ j)) ∧ MB σ' N A d ∧ GM σ' N A ∧ Fr PM σ σ' := by
  obtain ⟨σ1, σ2, q1, q2, q3, q4, q5⟩ := M_ready hA hG hd
  obtain ⟨σ', c, ρ, r1, r2, r3, r4, r5, r6, r7⟩ := M_findRow hA hd (en := none) (fun q hq => by cases hq) q3
  refine ⟨σ', c, ρ, ?_, r2, r3, r4, r5, r7, q4.fr r6 (fun a b z => by rcases z with z | z | z <;> omega), q5.tr (r6.mono (fun a b z => by rcases z with z | z | z <;> omega))⟩
  unfold fX5_lay
  have r1' : fX5_findRow (-1) (-1) σ2 = some ((), σ') := r1
  rw [q1]
  simp only [cb, Option.bind_some, q2, r1']
end MRows3
