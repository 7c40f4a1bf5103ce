-- pure: the class's best row to a slot (own work)
section XRows2
variable {N : NET} {A : AS} {d : Nat}
/-- the class with drive d gathered, and the best rows of the first m sights known -/
def XR (σ : ST) (N : NET) (A : AS) (d m : Nat) : Prop := NX σ N ∧ KX σ N ∧ RX σ A ∧ SpX σ N A d (A 4 d) ∧ σ.1 3 15 = nI (A 4 d) ∧ DPA σ N A d m
theorem XR.fr {P : Nat → Nat → Prop} {σ σ' : ST} {m : Nat} (h : XR σ N A d m) (hF : Fr P σ σ') (hP : ∀ a b, P a b → (a = 3 ∧ (b = 13 ∨ b = 14)) ∨ a = 20 ∨ a = 24 ∨ a = 25 ∨ a = 6) : XR σ' N A d m := by
  obtain ⟨h1, h2, h3, h4, h5, h6⟩ := h
  refine ⟨h1.fr hF (fun a b z => by have := hP a b z; omega), h2.fr hF (fun a b z => by have := hP a b z; omega), h3.fr hF (fun a b z => by have := hP a b z; omega), h4.fr hF (fun a b z => by have := hP a b z; omega), (hF.1 3 15 (fun z => by have := hP _ _ z; omega)).trans h5, h6.fr hF (fun a b z => by have := hP a b z; omega)⟩
theorem XR.fk {σ σ' : ST} {m : Nat} (h : XR σ N A d m) (hF : Fr PK σ σ') (hK : KX σ' N) : XR σ' N A d m := by
  obtain ⟨h1, h2, h3, h4, h5, h6⟩ := h
  exact ⟨h1.fr hF (fun a b z => by omega), hK, h3.fr hF (fun a b z => by omega), h4.fr hF (fun a b z => by omega), (hF.1 3 15 (fun z => by omega)).trans h5, h6.fr hF (fun a b z => by omega)⟩
abbrev PT : Nat → Nat → Prop := fun a _ => (15 ≤ a ∧ a ≤ 17) ∨ a = 24 ∨ a = 25
def Cc (N : NET) (A : AS) (d s p : Nat) (e : Option (Nat × Nat × Nat)) (b : Nat) : Prop := match e with
  | none => b = A 5 1 * s
  | some q => ∃ x, lgD N A d q.1 q.2.2 s p = some x ∧ b = bcD N A d q.1 q.2.2 + A 5 1 * (s - q.1 - 1) + x
def Tr (N : NET) (A : AS) (d s p e t b : Nat) (cand : Option (Nat × Nat × Nat)) : Prop := okS N A d s cand ∧ Cc N A d s p cand b ∧ ahead (A 4 d) b (er N A d cand) (A 5 1 * s) (er N A d none) ∧ ∀ e' i' q' x', e' < s → (e ≤ e' ∨ (e' + 1 = e ∧ i' < t)) → (spL N A d e')[i']? = some q' → lgD N A d e' q' s p = some x' → ahead (A 4 d) b (er N A d cand) (bcD N A d e' q' + A 5 1 * (s - e' - 1) + x') (er N A d (some (e', i', q')))
theorem bc_bd (hA : WFA N A) (hd : d < A 3 0) {σ : ST} {m : Nat} (hD : DPA σ N A d m) (hm : m ≤ A 4 d) {k i v : Nat} (hk : k < m) (hv : (spL N A d k)[i]? = some v) : bcD N A d k v ≤ 22000000 := by
  obtain ⟨-, ⟨hd6, hdd⟩, ⟨g1, g2, g3, g4⟩, -⟩ := id hA
  have h20 := (hdd d hd).1
  obtain ⟨-, hb, -⟩ := hD k i v hk hv
  have h3 := ev_bd (n := A 4 d) (fun e q k p x hk hx => lgD_bd hA hd hk hx) (hof_D hA hd) g4 (k + 1) _ _ (by omega) hb.1
  have h5 : 1100000 * (k + 1) ≤ 1100000 * 20 := Nat.mul_le_mul_left _ (by omega)
  omega
theorem Cc_bd (hA : WFA N A) (hd : d < A 3 0) {σ : ST} {s p b : Nat} (hs : s < A 4 d) (hD : DPA σ N A d s) {e : Option (Nat × Nat × Nat)} (he : okS N A d s e) (h : Cc N A d s p e b) : b ≤ 24000000 := by
  obtain ⟨-, ⟨hd6, hdd⟩, ⟨g1, g2, g3, g4⟩, -⟩ := id hA
  have h20 := (hdd d hd).1
  cases e with
  | none =>
    have h' : b = A 5 1 * s := h
    have : A 5 1 * s ≤ 9999 * 20 := Nat.mul_le_mul g4 (by omega)
    omega
  | some q =>
    obtain ⟨x, h1, h2⟩ := h
    obtain ⟨z1, z2⟩ := he q rfl
    have := bc_bd hA hd hD (by omega) z1 z2
    have := lgD_bd hA hd hs h1
    have : A 5 1 * (s - q.1 - 1) ≤ 9999 * 20 := Nat.mul_le_mul g4 (by omega)
    omega
theorem lexle_cut {m n : Nat} {r1 r2 : Nat → Nat} (h : lexle n r1 r2) (hm : m ≤ n) (he : ∀ j, m ≤ j → j < n → r1 j = r2 j) : lexle m r1 r2 := by
  rcases h with h | ⟨d, hd, h1, h2⟩
  · exact Or.inl fun j hj => h j (by omega)
  · by_cases z : d < m
    · exact Or.inr ⟨d, z, h1, h2⟩
    · have := he d (by omega) hd; omega
theorem frt51 (hA : WFA N A) (hd : d < A 3 0) {s i0 p : Nat} (hs : s < A 4 d) (hp : (spL N A d s)[i0]? = some p) (k16 : Int32 → Int32 → Nat → Int32 → Int32 → Int32 → ST → Option (Unit × ST)) (tc : Nat) {e : Nat} (he : e < s) : ∀ (m t n b : Nat) (σ : ST) (cand : Option (Nat × Nat × Nat)), t + m = (spL N A d e).length → m < n → XR σ N A d s → Tr N A d s p (e + 1) t b cand → ∃ σ' b' cand', fX1_findRowTo_L51 k16 n (nI s) (nI (10 * s + i0)) tc (nI b) (es cand) (nI e) (nI (A 5 1 * (s - e - 1))) (nI (4 * A 5 0 * (A (30 + d) s - A (30 + d) e))) (nI t) σ = k16 (nI s) (nI (10 * s + i0)) tc (nI b') (es cand') (nI e + -1) σ' ∧ Tr N A d s p (e + 1) (spL N A d e).length b' cand' ∧ XR σ' N A d s ∧ Fr PT σ σ' := by
  obtain ⟨-, ⟨hd6, hdd⟩, ⟨g1, g2, g3, g4⟩, -⟩ := id hA
  obtain ⟨h20, hdx, hinc⟩ := hdd d hd
  obtain ⟨-, -, x3, -⟩ := hdx s hs
  have hMb : 4 * A 5 0 * (A (30 + d) s - A (30 + d) e) ≤ 400 * 10000 := Nat.mul_le_mul (by omega) (by omega)
  have hlen := spL_len N A d e
  have hlen2 := spL_len N A d s
  have hi0 := (List.getElem?_eq_some_iff.mp hp).1
  have hp150 := spL_lt (List.mem_of_getElem? hp)
  have hlost : A 5 1 * (s - e - 1) ≤ 9999 * 20 := Nat.mul_le_mul g4 (by omega)
  intro m
  induction m with
  | zero =>
    intro t n b σ cand ht hn hX hT
    obtain ⟨n, rfl⟩ : ∃ m, n = m + 1 := ⟨n - 1, by omega⟩
    have : t = (spL N A d e).length := by omega
    subst this
    refine ⟨σ, b, cand, ?_, hT, hX, Fr.rf⟩
    rw [uX1_findRowTo_L51]
    unfold fX1_findRowTo_B51
    rw [if_pos (ib_nI (show e < 20 by omega) (by decide)), cl_nI (by omega), (hX.2.2.2.1 e (by omega)).1, if_pos (by rw [le_nI (by omega) (by omega)]; omega)]
    rfl
  | succ m ih =>
    intro t n b σ cand ht hn hX hT
    obtain ⟨n, rfl⟩ : ∃ m, n = m + 1 := ⟨n - 1, by omega⟩
    obtain ⟨hN, hK, hR, hS, h15, hD⟩ := id hX
    have hRb := hN.1.1
    obtain ⟨q, hq⟩ : ∃ q, (spL N A d e)[t]? = some q := ⟨_, List.getElem?_eq_some_iff.mpr ⟨by omega, rfl⟩⟩
    have hq150 := spL_lt (List.mem_of_getElem? hq)
    obtain ⟨t1, t2, t3, t4⟩ := id hT
    have hb := Cc_bd hA hd hs hD t1 t2
    have hbc := bc_bd hA hd hD (by omega) he hq
    have hso := hD e t q he hq
    have i1 : ib (nI e) 20 = true := ib_nI (by omega) (by decide)
    have c1 : (nI e).toNatClampNeg = e := cl_nI (by omega)
    have t10 : nI e * 10 + nI t = nI (10 * e + t) := by rw [show (nI e : Int32) * 10 = nI (10 * e) from by rw [show (10 : Int32) = nI 10 from rfl, pk_mul, Nat.mul_comm], nI_add]
    have i2 : ib (nI (10 * e + t)) 200 = true := ib_nI (by omega) (by decide)
    have c2 : (nI (10 * e + t)).toNatClampNeg = 10 * e + t := cl_nI (by omega)
    have i3 : ib (nI (10 * s + i0)) 200 = true := ib_nI (by omega) (by decide)
    have c3 : (nI (10 * s + i0)).toNatClampNeg = 10 * s + i0 := cl_nI (by omega)
    have okc : okS N A d s (some (e, t, q)) := fun r hr => by cases hr; exact ⟨he, hq⟩
    have ne : ∀ e' i', ((e + 1 ≤ e' ∨ (e' + 1 = e + 1 ∧ i' < t + 1)) ↔ (e + 1 ≤ e' ∨ (e' + 1 = e + 1 ∧ i' < t)) ∨ (e' = e ∧ i' = t)) := fun e' i' => by omega
    -- the candidate stays
    have keep : ∀ σ1, XR σ1 N A d s → Fr PT σ σ1 → (∀ x, lgD N A d e q s p = some x → ahead (A 4 d) b (er N A d cand) (bcD N A d e q + A 5 1 * (s - e - 1) + x) (er N A d (some (e, t, q)))) → ∃ σ' b' cand', fX1_findRowTo_J165 k16 (fun l1 l2 l3 l4 l5 l6 l7 l8 l9 σ => fX1_findRowTo_L51 k16 n l1 l2 l3 l4 l5 l6 l7 l8 l9 σ) (nI s) (nI (10 * s + i0)) tc (nI b) (es cand) (nI e) (nI (A 5 1 * (s - e - 1))) (nI (4 * A 5 0 * (A (30 + d) s - A (30 + d) e))) (nI t) σ1 = k16 (nI s) (nI (10 * s + i0)) tc (nI b') (es cand') (nI e + -1) σ' ∧ Tr N A d s p (e + 1) (spL N A d e).length b' cand' ∧ XR σ' N A d s ∧ Fr PT σ σ' := by
      intro σ1 hX1 hF1 h
      obtain ⟨σ', b', cand', p1, p2, p3, p4⟩ := ih (t + 1) n b σ1 cand (by omega) (by omega) hX1 ⟨t1, t2, t3, fun e' i' q' x' h1 h2 h3 h4 => by
        rcases (ne e' i').mp h2 with z | ⟨z1, z2⟩
        · exact t4 e' i' q' x' h1 z h3 h4
        · subst z1; subst z2
          rw [hq] at h3; cases h3
          exact h x' h4⟩
      refine ⟨σ', b', cand', ?_, p2, p3, hF1.tr p4⟩
      unfold fX1_findRowTo_J165
      simp only [bindv, nI_1]
      exact p1
    -- a better one
    have take : ∀ σ1 x, XR σ1 N A d s → Fr PT σ σ1 → lgD N A d e q s p = some x → ahead (A 4 d) (bcD N A d e q + A 5 1 * (s - e - 1) + x) (er N A d (some (e, t, q))) b (er N A d cand) → ∃ σ' b' cand', fX1_findRowTo_J157 k16 (fun l1 l2 l3 l4 l5 l6 l7 l8 l9 σ => fX1_findRowTo_L51 k16 n l1 l2 l3 l4 l5 l6 l7 l8 l9 σ) (nI s) (nI (10 * s + i0)) tc (nI e) (nI (A 5 1 * (s - e - 1))) (nI (4 * A 5 0 * (A (30 + d) s - A (30 + d) e))) (nI t) (nI (10 * e + t)) (nI (bcD N A d e q + A 5 1 * (s - e - 1) + x)) σ1 = k16 (nI s) (nI (10 * s + i0)) tc (nI b') (es cand') (nI e + -1) σ' ∧ Tr N A d s p (e + 1) (spL N A d e).length b' cand' ∧ XR σ' N A d s ∧ Fr PT σ σ' := by
      intro σ1 x hX1 hF1 hx h
      obtain ⟨σ', b', cand', p1, p2, p3, p4⟩ := ih (t + 1) n (bcD N A d e q + A 5 1 * (s - e - 1) + x) σ1 (some (e, t, q)) (by omega) (by omega) hX1 ⟨okc, ⟨x, hx, rfl⟩, h.tr t3, fun e' i' q' x' h1 h2 h3 h4 => by
        rcases (ne e' i').mp h2 with z | ⟨z1, z2⟩
        · exact h.tr (t4 e' i' q' x' h1 z h3 h4)
        · subst z1; subst z2
          rw [hq] at h3; cases h3
          rw [hx] at h4; cases h4
          exact Or.inr ⟨rfl, lexle.rf⟩⟩
      refine ⟨σ', b', cand', ?_, p2, p3, hF1.tr p4⟩
      unfold fX1_findRowTo_J157 fX1_findRowTo_J165
      simp only [bindv, nI_1]
      exact p1
    rw [uX1_findRowTo_L51]
    unfold fX1_findRowTo_B51
    rw [if_pos i1, c1, (hS e (by omega)).1, if_neg (by rw [le_nI (by omega) (by omega)]; omega)]
    simp only [bindv, t10, i2, c2, ↓reduceIte, hso.1, nI_add]
    by_cases hle : bcD N A d e q + A 5 1 * (s - e - 1) ≤ b
    · rw [if_pos (by rw [le_nI (by omega) (by omega)]; exact hle), if_pos i3, c3, ((hS e (by omega)).2 t q hq).1, ((hS s hs).2 i0 p hp).1]
      obtain ⟨σ1, l1, l2, l3⟩ := X_leg hN hK hq150 hp150 (M := 4 * A 5 0 * (A (30 + d) s - A (30 + d) e)) (by omega)
      rw [l1]
      simp only [cb, Option.bind_some]
      have hX1 := hX.fk l3 l2
      have hF1 : Fr PT σ σ1 := l3.mono (fun a b z => by omega)
      unfold fX1_findRowTo_J116
      by_cases hw : wayOf N q p / 1000000000 ≤ 4 * A 5 0 * (A (30 + d) s - A (30 + d) e)
      · have hx : lgD N A d e q s p = some (wayOf N q p / 1000000000 / 4) := if_pos hw
        rw [if_pos hw, if_neg (nI_nn (by omega)), zl4, div_nI (by omega) (by decide) (by decide), nI_add]
        simp only [bindv]
        by_cases h1 : bcD N A d e q + A 5 1 * (s - e - 1) + wayOf N q p / 1000000000 / 4 < b
        · rw [if_pos (by rw [lt_nI (by omega) (by omega)]; exact h1)]
          exact take σ1 _ hX1 hF1 hx (Or.inl h1)
        · rw [if_neg (by rw [lt_nI (by omega) (by omega)]; exact h1)]
          by_cases h2 : bcD N A d e q + A 5 1 * (s - e - 1) + wayOf N q p / 1000000000 / 4 = b
          · rw [if_pos (by rw [h2])]
            obtain ⟨hN1, hK1, hR1, hS1, h151, hD1⟩ := id hX1
            obtain ⟨σ2, r1, r2⟩ := X_isRowFirst hA hN.1 hd hS1 (show s ≤ A 4 d by omega) hD1 h151 okc t1
            have hX2 := hX1.fr r2 (fun a b z => by omega)
            have hF2 : Fr PT σ σ2 := hF1.tr (r2.mono (fun a b z => Or.inr z))
            rcases r1 with ⟨r1, r3⟩ | ⟨r1, r3⟩
            · have r1' : fX1_isRowFirst (nI (10 * e + t)) (es cand) σ1 = some (1, σ2) := r1
              rw [r1']
              simp only [cb, Option.bind_some]
              rw [if_neg (by decide)]
              exact take σ2 _ hX2 hF2 hx (Or.inr ⟨h2, r3⟩)
            · have r1' : fX1_isRowFirst (nI (10 * e + t)) (es cand) σ1 = some (0, σ2) := r1
              rw [r1']
              simp only [cb, Option.bind_some]
              rw [if_pos trivial]
              exact keep σ2 hX2 hF2 (fun x hx' => by rw [hx] at hx'; cases hx'; exact Or.inr ⟨h2.symm, r3⟩)
          · rw [if_neg (by rw [eq_nI (by omega) (by omega)]; exact h2)]
            exact keep σ1 hX1 hF1 (fun x hx' => by rw [hx] at hx'; cases hx'; exact Or.inl (by omega))
      · have hx : lgD N A d e q s p = none := if_neg hw
        rw [if_neg hw, if_pos (by decide)]
        exact keep σ1 hX1 hF1 (fun x hx' => by rw [hx] at hx'; cases hx')
    · rw [if_neg (by rw [le_nI (by omega) (by omega)]; exact hle)]
      unfold fX1_findRowTo_J116
      rw [if_pos (by decide)]
      exact keep σ hX Fr.rf (fun x hx' => Or.inl (by omega))
abbrev PT2 (k : Nat) : Nat → Nat → Prop := fun a b => (15 ≤ a ∧ a ≤ 17) ∨ a = 24 ∨ a = 25 ∨ ((a = 22 ∨ a = 23) ∧ b = k)
theorem er_out {e : Option (Nat × Nat × Nat)} {m j : Nat} (h : okS N A d m e) (hj : m ≤ j) : er N A d e j = 1000 := by
  cases e with
  | none => rfl
  | some q =>
    have := (h q rfl).1
    exact if_neg (by omega)
theorem frt16 (hA : WFA N A) (hd : d < A 3 0) {s i0 p : Nat} (hs : s < A 4 d) (hp : (spL N A d s)[i0]? = some p) : ∀ (m n b : Nat) (σ : ST) (cand : Option (Nat × Nat × Nat)), m ≤ s → m < n → XR σ N A d s → Tr N A d s p m 0 b cand → ∃ σ', fX1_findRowTo_L16 n (nI s) (nI (10 * s + i0)) (26 + 5 * d + 3) (nI b) (es cand) (nI m - 1) σ = some ((), σ') ∧ SlotOK σ' N A d s i0 p ∧ KX σ' N ∧ Fr (PT2 (10 * s + i0)) σ σ' := by
  obtain ⟨-, ⟨hd6, hdd⟩, ⟨g1, g2, g3, g4⟩, -⟩ := id hA
  obtain ⟨h20, hdx, hinc⟩ := hdd d hd
  have hlen2 := spL_len N A d s
  have hi0 := (List.getElem?_eq_some_iff.mp hp).1
  have hpm := List.mem_of_getElem? hp
  intro m
  induction m with
  | zero =>
    intro n b σ cand hm hn hX hT
    obtain ⟨n, rfl⟩ : ∃ m, n = m + 1 := ⟨n - 1, by omega⟩
    obtain ⟨hN, hK, hR, hS, h15, hD⟩ := id hX
    obtain ⟨t1, t2, t3, t4⟩ := hT
    have h1000 := h1000_D hN.1 s p hpm
    have ho := hof_D hA hd s p hs hpm
    have hb := Cc_bd hA hd hs hD t1 t2
    have i3 : ib (nI (10 * s + i0)) 200 = true := ib_nI (by omega) (by decide)
    have c3 : (nI (10 * s + i0)).toNatClampNeg = 10 * s + i0 := cl_nI (by omega)
    -- the row
    obtain ⟨ρ, ρ1, ρ2⟩ : ∃ ρ : Nat → Nat, ρ s = p ∧ ∀ j, j < s → ρ j = er N A d cand j := ⟨fun j => if j = s then p else er N A d cand j, if_pos rfl, fun j hj => if_neg (by omega)⟩
    have hBest : Best (spL N A d) (ofD N A d) (lgD N A d) (A 5 1) s p (b + ofD N A d s p) ρ := by
      refine best_of (C := bcD N A d) (Rw := brD N A d) hpm (by omega) (fun e q he hq => ?_) ρ1 ?_ (fun c' ρ' hc' => ?_)
      · obtain ⟨i, hi⟩ := List.getElem?_of_mem hq
        exact (hD e i q he hi).2.1
      · cases cand with
        | none =>
          refine Or.inl ⟨fun j hj => ρ2 j hj, ?_⟩
          have : b = A 5 1 * s := t2
          omega
        | some q =>
          obtain ⟨z1, z2⟩ := t1 q rfl
          obtain ⟨x, x1, x2⟩ := t2
          refine Or.inr ⟨q.1, q.2.2, x, z1, List.mem_of_getElem? z2, x1, by omega, fun j hj => ?_, fun j h1 h2 => ?_⟩
          · rw [ρ2 j (by omega)]; exact if_pos hj
          · rw [ρ2 j h2]; exact if_neg (by omega)
      · have cut : ∀ c2 e2, okS N A d s e2 → (∀ j, j < s → ρ' j = er N A d e2 j) → ahead (A 4 d) b (er N A d cand) c2 (er N A d e2) → ahead s (b + ofD N A d s p) ρ (c2 + ofD N A d s p) ρ' := by
          intro c2 e2 ho2 hr ha
          rcases ha with z | ⟨z1, z2⟩
          · exact Or.inl (by omega)
          · refine ahead_congr (fun j hj => (ρ2 j hj).symm) (fun j hj => (hr j hj).symm) (Or.inr ⟨by omega, lexle_cut z2 (by omega) (fun j h1 h2 => by rw [er_out t1 h1, er_out ho2 h1])⟩)
        rcases hc' with ⟨h1, h2⟩ | ⟨e, q, x, h1, h2, h3, h4, h5, h6⟩
        · rw [h2]
          exact cut _ none (fun q hq => by cases hq) h1 t3
        · obtain ⟨i, hi⟩ := List.getElem?_of_mem h2
          rw [h4]
          refine cut _ (some (e, i, q)) (fun r hr => by cases hr; exact ⟨h1, hi⟩) (fun j hj => ?_) (t4 e i q x h1 (by omega) hi h3)
          by_cases z : j ≤ e
          · rw [h5 j z]; exact (if_pos z).symm
          · rw [h6 j (by omega) hj]; exact (if_neg z).symm
    obtain ⟨u1, u2, u3⟩ := bD_eq hBest
    have hF : Fr (PT2 (10 * s + i0)) σ (stI (stI σ 22 (10 * s + i0) (nI (b + ofD N A d s p))) 23 (10 * s + i0) (es cand)) := (Fr.rf.st (Or.inr (Or.inr (Or.inr ⟨Or.inl rfl, rfl⟩)))).st (Or.inr (Or.inr (Or.inr ⟨Or.inr rfl, rfl⟩)))
    have hF' : Fr (fun a b => a = 22 ∨ a = 23) σ (stI (stI σ 22 (10 * s + i0) (nI (b + ofD N A d s p))) 23 (10 * s + i0) (es cand)) := (Fr.rf.st (Or.inl rfl)).st (Or.inr rfl)
    refine ⟨_, ?_, ⟨?_, u1, ?_⟩, hK.fr hF' (fun a b z => by omega), hF⟩
    · rw [uX1_findRowTo_L16]
      unfold fX1_findRowTo_B16
      rw [if_pos (show (nI 0 : Int32) - 1 < 0 by decide)]
      simp only [i3, c3, ↓reduceIte, ((hS s hs).2 i0 p hp).2, nI_add, bindv]
    · rw [st_cell _ _ _ (by decide), st_at, u2]
    · rw [st_at]
      cases cand with
      | none => exact Or.inl ⟨rfl, fun j hj => by rw [u3 j (by omega), ρ2 j hj]; rfl⟩
      | some q =>
        obtain ⟨z1, z2⟩ := t1 q rfl
        refine Or.inr ⟨q.1, q.2.1, q.2.2, z1, z2, rfl, fun j hj => ?_, fun j h1 h2 => ?_⟩
        · rw [u3 j (by omega), ρ2 j (by omega)]; exact if_pos hj
        · rw [u3 j (by omega), ρ2 j h2]; exact if_neg (by omega)
  | succ m ih =>
    intro n b σ cand hm hn hX hT
    obtain ⟨n, rfl⟩ : ∃ m, n = m + 1 := ⟨n - 1, by omega⟩
    obtain ⟨hN, hK, hR, hS, h15, hD⟩ := id hX
    obtain ⟨-, -, x3, -⟩ := hdx s hs
    obtain ⟨-, -, x3', -⟩ := hdx m (by omega)
    have hti := hinc m s (by omega) hs
    obtain ⟨f20, hf20⟩ := FU_add 20 (by decide)
    have hlen := spL_len N A d m
    obtain ⟨σ1, b1, cand1, q1, q2, q3, q4⟩ := frt51 hA hd hs hp (fun l1 l2 l3 l4 l5 l6 σ => fX1_findRowTo_L16 n l1 l2 l3 l4 l5 l6 σ) (26 + 5 * d + 3) (show m < s by omega) (spL N A d m).length 0 FU b σ cand (by omega) (by rw [hf20]; omega) hX hT
    obtain ⟨σ', r1, r2, r3, r4⟩ := ih n b1 σ1 cand1 (by omega) (by omega) q3 ⟨q2.1, q2.2.1, q2.2.2.1, fun e' i' q' x' h1 h2 h3 h4 => by
      refine q2.2.2.2 e' i' q' x' h1 ?_ h3 h4
      by_cases z : e' = m
      · subst z
        have := (List.getElem?_eq_some_iff.mp h3).1
        exact Or.inr ⟨rfl, this⟩
      · exact Or.inl (by omega)⟩
    refine ⟨σ', ?_, r2, r3, (q4.mono (fun a b z => by omega)).tr r4⟩
    obtain ⟨-, -, y1, -⟩ := (hR.2.1.2.2.2 d hd).2 s hs
    obtain ⟨-, -, y2, -⟩ := (hR.2.1.2.2.2 d hd).2 m (by omega)
    have w3 := isRw_of hR hd (j := 3) (by omega)
    have e3 : 26 + 5 * d + 3 = 29 + 5 * d := by omega
    have i1 : ib (nI s) 20 = true := ib_nI (by omega) (by decide)
    have c1 : (nI s).toNatClampNeg = s := cl_nI (by omega)
    have i2 : ib (nI m) 20 = true := ib_nI (by omega) (by decide)
    have c2 : (nI m).toNatClampNeg = m := cl_nI (by omega)
    have z1 : σ.1 (26 + 5 * d + 3) s = nI (A (30 + d) s) := by rw [e3]; exact y1
    have z2 : σ.1 (26 + 5 * d + 3) m = nI (A (30 + d) m) := by rw [e3]; exact y2
    have lost : nI (A 5 1) * (nI s - nI m - 1) = nI (A 5 1 * (s - m - 1)) := by
      rw [sub_nI (show m ≤ s by omega), show nI (s - m) - 1 = nI (s - m - 1) from sub_nI (show 1 ≤ s - m by omega), pk_mul]
    have most : nI (A 5 0) * 4 * nI (A (30 + d) s - A (30 + d) m) = nI (4 * A 5 0 * (A (30 + d) s - A (30 + d) m)) := by
      rw [show nI (A 5 0) * 4 = nI (4 * A 5 0) from by rw [zl4, pk_mul, Nat.mul_comm], pk_mul]
    rw [uX1_findRowTo_L16]
    unfold fX1_findRowTo_B16 fX1_longestLeg
    rw [nI_pred, if_neg (nI_nn (by omega)), hR.2.2.1.2, lost]
    simp only [bindv, w3, i1, c1, i2, c2, Bool.and_self, ↓reduceIte, z1, z2, sub_nI (show A (30 + d) m ≤ A (30 + d) s by omega), cb, Option.bind_some, hR.2.2.1.1, most]
    have q1' := q1
    rw [zl0, q1, show nI m + -1 = nI m - 1 from by generalize nI m = x; grind]
    exact r1
theorem X_findRowTo (hA : WFA N A) (hd : d < A 3 0) {s i0 p : Nat} (hs : s < A 4 d) (hp : (spL N A d s)[i0]? = some p) {σ : ST} (hX : XR σ N A d s) : ∃ σ', fX1_findRowTo (nI s) (nI (10 * s + i0)) (26 + 5 * d + 3) σ = some ((), σ') ∧ SlotOK σ' N A d s i0 p ∧ KX σ' N ∧ Fr (PT2 (10 * s + i0)) σ σ' := by
  obtain ⟨-, ⟨hd6, hdd⟩, -⟩ := id hA
  have h20 := (hdd d hd).1
  obtain ⟨f40, hf40⟩ := FU_add 40 (by decide)
  obtain ⟨σ', q1, q2, q3, q4⟩ := frt16 hA hd hs hp s FU (A 5 1 * s) σ none (Nat.le_refl _) (by rw [hf40]; omega) hX ⟨fun q hq => (by cases hq), rfl, Or.inr ⟨rfl, lexle.rf⟩, fun e' i' q' x' h1 h2 => by omega⟩
  refine ⟨σ', ?_, q2, q3, q4⟩
  unfold fX1_findRowTo
  rw [hX.2.2.1.2.2.1.2, pk_mul]
  exact q1
end XRows2
