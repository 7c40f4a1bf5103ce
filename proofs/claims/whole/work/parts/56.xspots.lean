-- pure: the class's spots (own work)
def SpX1 (σ : ST) (s : Nat) (o : Nat → Nat) (l : List Nat) : Prop := σ.1 18 s = nI l.length ∧ ∀ i v, l[i]? = some v → σ.1 19 (10 * s + i) = nI v ∧ σ.1 21 (10 * s + i) = nI (o v)
abbrev PX1 (s : Nat) : Nat → Nat → Prop := fun a b => ((a = 19 ∨ a = 21) ∧ 10 * s ≤ b ∧ b < 10 * s + 10) ∨ (a = 18 ∧ b = s)
theorem wst_L {σ : ST} {s : Nat} (hs : s < 20) {o : Nat → Nat} {l : List Nat} {g : Nat → Nat} (hg : ∀ j, j < 10 → l[j]? = some (g j)) (ho : ∀ j, j < 10 → o (g j) < 100000) (hS : SpX1 σ s o l) : ∀ (k j i n : Nat), j + k = 10 → k < n → i < 10 → (∀ x, x < j → o (g x) < o (g i) ∨ (o (g x) = o (g i) ∧ x ≤ i)) → ∃ i', i' < 10 ∧ fX1_worstSlot_L4 n (nI (10 * s)) (nI (10 * s + i)) (nI (10 * s + j)) σ = some (nI (10 * s + i'), σ) ∧ ∀ x, x < 10 → o (g x) < o (g i') ∨ (o (g x) = o (g i') ∧ x ≤ i') := by
  intro k
  induction k with
  | zero =>
    intro j i n hj hn hi h
    obtain ⟨n, rfl⟩ : ∃ m, n = m + 1 := ⟨n - 1, by omega⟩
    have : j = 10 := by omega
    subst this
    refine ⟨i, hi, ?_, h⟩
    rw [uX1_worstSlot_L4]
    unfold fX1_worstSlot_B4
    rw [show nI (10 * s) + 10 = nI (10 * s + 10) from nI_add _ 10, if_pos (by rw [le_nI (by omega) (by omega)]; omega)]
  | succ k ih =>
    intro j i n hj hn hi h
    obtain ⟨n, rfl⟩ : ∃ m, n = m + 1 := ⟨n - 1, by omega⟩
    have e1 := (hS.2 j (g j) (hg j (by omega))).2
    have e2 := (hS.2 i (g i) (hg i hi)).2
    have o1 := ho j (by omega)
    have o2 := ho i hi
    rw [uX1_worstSlot_L4]
    unfold fX1_worstSlot_B4 fX1_worstSlot_J29
    rw [show nI (10 * s) + 10 = nI (10 * s + 10) from nI_add _ 10, if_neg (by rw [le_nI (by omega) (by omega)]; omega), if_pos (ib_nI (show 10 * s + j < 200 by omega) (by decide)), if_pos (ib_nI (show 10 * s + i < 200 by omega) (by decide)), cl_nI (by omega), cl_nI (by omega), e1, e2]
    simp only [bindv, nI_1]
    by_cases hlt : o (g j) < o (g i)
    · rw [if_pos (by rw [lt_nI (by omega) (by omega)]; exact hlt)]
      exact ih (j + 1) i n (by omega) (by omega) hi (fun x hx => by
        by_cases e : x = j
        · subst e; exact Or.inl hlt
        · exact h x (by omega))
    · rw [if_neg (by rw [lt_nI (by omega) (by omega)]; exact hlt)]
      exact ih (j + 1) j n (by omega) (by omega) (by omega) (fun x hx => by
        by_cases e : x = j
        · subst e; exact Or.inr ⟨rfl, Nat.le_refl _⟩
        · have := h x (by omega); omega)
/-- the shift: the one at i goes out -/
theorem shf_L {s : Nat} (hs : s < 20) {o : Nat → Nat} {l : List Nat} (hl : l.length = 10) {i : Nat} (P D : Int32) : ∀ (k j n : Nat) (σ : ST), j + k = 9 → k < n → i ≤ j → (∀ x v, x < j → (l.eraseIdx i)[x]? = some v → σ.1 19 (10 * s + x) = nI v ∧ σ.1 21 (10 * s + x) = nI (o v)) → (∀ x v, j ≤ x → l[x]? = some v → σ.1 19 (10 * s + x) = nI v ∧ σ.1 21 (10 * s + x) = nI (o v)) → ∃ σ', fX1_addSpot_L41 n (nI s) P D (nI (10 * s)) (nI (10 * s + j)) σ = fX1_addSpot_J99 (nI s) P D (nI (10 * s)) σ' ∧ SpX1 σ' s o (l.eraseIdx i) ∧ Fr (PX1 s) σ σ' := by
  intro k
  induction k with
  | zero =>
    intro j n σ hj hn hij h1 h2
    obtain ⟨n, rfl⟩ : ∃ m, n = m + 1 := ⟨n - 1, by omega⟩
    have : j = 9 := by omega
    subst this
    have hlen : (l.eraseIdx i).length = 9 := by rw [List.length_eraseIdx, if_pos (by omega)]; omega
    refine ⟨stI σ 18 s 9, ?_, ⟨by rw [st_at, hlen]; rfl, fun x v hx => ?_⟩, Fr.rf.st (Or.inr ⟨rfl, rfl⟩)⟩
    · rw [uX1_addSpot_L41]
      unfold fX1_addSpot_B41
      rw [show nI (10 * s) + 10 - 1 = nI (10 * s + 9) from by rw [show nI (10 * s) + 10 = nI (10 * s + 9 + 1) from nI_add _ 10, nI_pred], if_pos (by rw [le_nI (by omega) (by omega)]; omega), if_pos (ib_nI hs (by decide)), cl_nI (by omega)]
      rfl
    · rw [st_cell _ _ _ (by decide), st_cell _ _ _ (by decide)]
      have : x < (l.eraseIdx i).length := (List.getElem?_eq_some_iff.mp hx).1
      exact h1 x v (by omega) hx
  | succ k ih =>
    intro j n σ hj hn hij h1 h2
    obtain ⟨n, rfl⟩ : ∃ m, n = m + 1 := ⟨n - 1, by omega⟩
    obtain ⟨v1, hv1⟩ : ∃ v, l[j + 1]? = some v := ⟨_, List.getElem?_eq_some_iff.mpr ⟨by omega, rfl⟩⟩
    obtain ⟨a1, a2⟩ := h2 (j + 1) v1 (by omega) hv1
    have hF : Fr (PX1 s) σ (stI (stI σ 19 (10 * s + j) (nI v1)) 21 (10 * s + j) (nI (o v1))) := (Fr.rf.st (Or.inl ⟨Or.inl rfl, by omega, by omega⟩)).st (Or.inl ⟨Or.inr rfl, by omega, by omega⟩)
    obtain ⟨σ', g1, g2, g3⟩ := ih (j + 1) n (stI (stI σ 19 (10 * s + j) (nI v1)) 21 (10 * s + j) (nI (o v1))) (by omega) (by omega) (by omega) (fun x v hx he => by
      by_cases e : x = j
      · subst e
        rw [List.getElem?_eraseIdx, if_neg (by omega), hv1] at he
        cases he
        rw [st_cell _ _ _ (by decide), st_at, st_at]
        exact ⟨rfl, rfl⟩
      · rw [st_cell _ _ _ (by decide), st_idx _ _ (by omega), st_idx _ _ (by omega), st_cell _ _ _ (by decide)]
        exact h1 x v (by omega) he) (fun x v hx he => by
      rw [st_cell _ _ _ (by decide), st_idx _ _ (by omega), st_idx _ _ (by omega), st_cell _ _ _ (by decide)]
      exact h2 x v (by omega) he)
    refine ⟨σ', ?_, g2, hF.tr g3⟩
    rw [uX1_addSpot_L41]
    unfold fX1_addSpot_B41
    have i1 : ib (nI (10 * s + j + 1)) 200 = true := ib_nI (by omega) (by decide)
    have i2 : ib (nI (10 * s + j)) 200 = true := ib_nI (by omega) (by decide)
    have c1 : (nI (10 * s + j + 1)).toNatClampNeg = 10 * s + (j + 1) := cl_nI (by omega)
    have c2 : (nI (10 * s + j)).toNatClampNeg = 10 * s + j := cl_nI (by omega)
    rw [show nI (10 * s) + 10 - 1 = nI (10 * s + 9) from by rw [show nI (10 * s) + 10 = nI (10 * s + 9 + 1) from nI_add _ 10, nI_pred], if_neg (by rw [le_nI (by omega) (by omega)]; omega)]
    simp only [nI_1, i1, i2, c1, c2, ↓reduceIte, bindv, a1, st_cell _ _ _ (show (21 : Nat) ≠ 19 by decide), a2]
    exact g1
theorem add_J {σ : ST} {s : Nat} (hs : s < 20) {o : Nat → Nat} {l : List Nat} (hl : l.length < 10) (hS : SpX1 σ s o l) (p : Nat) : ∃ σ', fX1_addSpot_J99 (nI s) (nI p) (nI (o p)) (nI (10 * s)) σ = some ((), σ') ∧ SpX1 σ' s o (l ++ [p]) ∧ Fr (PX1 s) σ σ' := by
  obtain ⟨s1, s2⟩ := hS
  refine ⟨stI (stI (stI σ 19 (10 * s + l.length) (nI p)) 21 (10 * s + l.length) (nI (o p))) 18 s (nI (l.length + 1)), ?_, ⟨by rw [st_at, List.length_append]; rfl, fun i v hi => ?_⟩, ((Fr.rf.st (Or.inl ⟨Or.inl rfl, by omega, by omega⟩)).st (Or.inl ⟨Or.inr rfl, by omega, by omega⟩)).st (Or.inr ⟨rfl, rfl⟩)⟩
  · have i1 : ib (nI s) 20 = true := ib_nI hs (by decide)
    have c1 : (nI s).toNatClampNeg = s := cl_nI (by omega)
    have i2 : ib (nI (10 * s + l.length)) 200 = true := ib_nI (by omega) (by decide)
    have c2 : (nI (10 * s + l.length)).toNatClampNeg = 10 * s + l.length := cl_nI (by omega)
    unfold fX1_addSpot_J99
    simp only [i1, c1, s1, nI_add, i2, c2, ↓reduceIte, bindv, st_cell _ _ _ (show (18 : Nat) ≠ 19 by decide), st_cell _ _ _ (show (18 : Nat) ≠ 21 by decide), nI_1]
  · rcases getE_app hi with h | ⟨h, h'⟩
    · have : i < l.length := (List.getElem?_eq_some_iff.mp h).1
      obtain ⟨a, b⟩ := s2 i v h
      have hne : ¬ i = l.length := by omega
      exact ⟨by simp [stI, hne, a], by simp [stI, hne, b]⟩
    · subst h; subst h'
      exact ⟨by simp [stI], by simp [stI]⟩
theorem X_addSpot {σ : ST} {s : Nat} (hs : s < 20) {t : Nat → Bool} {o : Nat → Nat} {b P : Nat} {f : Nat → Bool} (hT : TX t o b f P) (hb : b ≤ 10000) (hP : t P = true ∧ o P ≤ b) (hS : SpX1 σ s o (fl f P)) : ∃ σ' f', fX1_addSpot (nI s) (nI P) (nI (o P)) σ = some ((), σ') ∧ TX t o b f' (P + 1) ∧ SpX1 σ' s o (fl f' (P + 1)) ∧ Fr (PX1 s) σ σ' := by
  have i1 : ib (nI s) 20 = true := ib_nI hs (by decide)
  have c1 : (nI s).toNatClampNeg = s := cl_nI (by omega)
  have hlen := sp_len hT
  unfold fX1_addSpot
  rw [show (nI s : Int32) * 10 = nI (10 * s) from by rw [show (10 : Int32) = nI 10 from rfl, pk_mul, Nat.mul_comm]]
  simp only [bindv, i1, c1, ↓reduceIte, hS.1]
  by_cases h10 : (fl f P).length < 10
  · rw [if_pos (by rw [show (10 : Int32) = nI 10 from rfl, lt_nI (by omega) (by omega)]; exact h10)]
    obtain ⟨σ', g1, g2, g3⟩ := add_J hs h10 hS P
    exact ⟨σ', _, g1, TX_add hT hP h10, by rw [fl_app (fun x hx => (hT.1 x hx).1)]; exact g2, g3⟩
  · have h10' : (fl f P).length = 10 := by omega
    rw [if_neg (by rw [show (10 : Int32) = nI 10 from rfl, lt_nI (by omega) (by omega)]; exact h10)]
    obtain ⟨g, hg⟩ : ∃ g : Nat → Nat, ∀ j, j < 10 → (fl f P)[j]? = some (g j) := ⟨fun j => (fl f P)[j]?.getD 0, fun j hj => by
      show (fl f P)[j]? = some ((fl f P)[j]?.getD 0)
      rw [List.getElem?_eq_getElem (show j < (fl f P).length by omega)]; rfl⟩
    have hgf : ∀ j, j < 10 → f (g j) = true := fun j hj => (fl_at (hg j hj)).2
    obtain ⟨f20, hf20⟩ := FU_add 20 (by decide)
    obtain ⟨w, hw, e, hmax⟩ := wst_L hs hg (fun j hj => by have := (hT.1 _ (hgf j hj)).2.2; omega) hS 10 0 0 FU (by omega) (by rw [hf20]; omega) (by decide) (fun x hx => by omega)
    have e' : fX1_worstSlot (nI (10 * s)) σ = some (nI (10 * s + w), σ) := e
    rw [e']
    simp only [cb, Option.bind_some]
    have hwf := hgf w hw
    have how := (hT.1 _ hwf).2.2
    rw [if_pos (ib_nI (show 10 * s + w < 200 by omega) (by decide)), cl_nI (by omega), (hS.2 w (g w) (hg w hw)).2]
    obtain ⟨q1, q2⟩ := TX_full hT hP h10' hwf (fun y hy => by
      obtain ⟨x, hx⟩ := List.getElem?_of_mem (fl_mem.mpr ⟨(hT.1 y hy).1, hy⟩)
      have hxl : x < 10 := by rw [← h10']; exact (List.getElem?_eq_some_iff.mp hx).1
      have hxy : g x = y := by rw [hg x hxl] at hx; exact Option.some.inj hx
      rw [← hxy]
      by_cases exw : x = w
      · left; rw [exw]
      · right
        rcases hmax x hxl with z | ⟨z1, z2⟩
        · exact Or.inl z
        · exact Or.inr ⟨z1, fl_lt (show x < w by omega) (hg x hxl) (hg w hw)⟩)
    by_cases hlt : o P < o (g w)
    · rw [if_pos (by rw [lt_nI (by omega) (by omega)]; exact hlt)]
      obtain ⟨σ1, r1, r2, r3⟩ := shf_L hs h10' (i := w) (o := o) (nI P) (nI (o P)) (9 - w) w FU σ (by omega) (by rw [hf20]; omega) (Nat.le_refl w) (fun x v hx he => by
        rw [List.getElem?_eraseIdx, if_pos hx] at he
        exact hS.2 x v he) (fun x v hx he => hS.2 x v he)
      rw [r1]
      have hl9 : ((fl f P).eraseIdx w).length < 10 := by rw [List.length_eraseIdx, if_pos (by omega)]; omega
      obtain ⟨σ', g1, g2, g3⟩ := add_J hs hl9 r2 P
      refine ⟨σ', _, g1, q2 hlt, ?_, r3.tr g3⟩
      rw [fl_app (fun x hx => by
        by_cases e2 : x = g w
        · subst e2; rw [upc_s] at hx; cases hx
        · rw [upc_n _ _ e2] at hx; exact (hT.1 x hx).1), fl_del (hg w hw)]
      exact g2
    · rw [if_neg (by rw [lt_nI (by omega) (by omega)]; exact hlt)]
      exact ⟨σ, f, rfl, q1 (by omega), by rw [fl_skip (fun x hx => (hT.1 x hx).1)]; exact hS, Fr.rf⟩
theorem RX.fr {P : Nat → Nat → Prop} {σ σ' : ST} {A : AS} (h : RX σ A) (hF : Fr P σ σ') (hP : ∀ a b, P a b → (a = 3 ∧ 2 ≤ b) ∨ (9 ≤ a ∧ a ≤ 25) ∨ a = 6 ∨ a = 2 ∨ (a = 1 ∧ b ≠ 0)) : RX σ' A := by
  have e : ∀ a b, ¬ ((a = 3 ∧ 2 ≤ b) ∨ (9 ≤ a ∧ a ≤ 25) ∨ a = 6 ∨ a = 2 ∨ (a = 1 ∧ b ≠ 0)) → σ'.1 a b = σ.1 a b := fun a b h1 => hF.1 a b (fun q => h1 (hP a b q))
  obtain ⟨⟨a1, a2⟩, ⟨b1, b2, b3, b4⟩, ⟨c1, c2⟩, d1, d2⟩ := h
  refine ⟨⟨by rw [e 1 0 (by omega)]; exact a1, fun i hi => ?_⟩, ⟨by rw [e 0 4 (by omega)]; exact b1, by rw [hF.2]; exact b2, fun d => by rw [hF.2]; exact b3 d, fun d hd => ⟨by rw [e _ 0 (by omega)]; exact (b4 d hd).1, fun i hi => ?_⟩⟩, ⟨by rw [e 3 0 (by omega)]; exact c1, by rw [e 3 1 (by omega)]; exact c2⟩, by rw [e 0 6 (by omega)]; exact d1, fun i hi => by rw [e 5 i (by omega)]; exact d2 i hi⟩
  · rw [e 7 i (by omega), e 8 i (by omega)]; exact a2 i hi
  · rw [e _ i (by omega), e _ i (by omega), e _ i (by omega), e _ i (by omega)]; exact (b4 d hd).2 i hi
theorem xsp_L {N : NET} {A : AS} (hA : WFA N A) {d s : Nat} (hd : d < A 3 0) (hs : s < A 4 d) : ∀ (j p n : Nat) (σ : ST) (f : Nat → Bool), p + j = 5 * nR N → j < n → NX σ N → RX σ A → TX (tnB N) (ofD N A d s) (A (40 + d) s * A (40 + d) s) f p → SpX1 σ s (ofD N A d s) (fl f p) → ∃ σ', fX1_findSpots_L21 n (nI s) (nI (A (10 + d) s)) (nI (A (20 + d) s)) (nI (A (40 + d) s)) (nI (5 * nR N)) (nI p) σ = some ((), σ') ∧ SpX1 σ' s (ofD N A d s) (spL N A d s) ∧ Fr (PX1 s) σ σ' := by
  obtain ⟨-, ⟨hd6, hdd⟩, -⟩ := id hA
  obtain ⟨h20, hdx, -⟩ := hdd d hd
  obtain ⟨x1, x2, -, x4⟩ := hdx s hs
  have hbb := Nat.mul_le_mul x4 x4
  intro j
  induction j with
  | zero =>
    intro p n σ f hp hn hN hR hT hS
    have hRb := hN.1.1
    obtain ⟨n, rfl⟩ : ∃ m, n = m + 1 := ⟨n - 1, by omega⟩
    have : p = 5 * nR N := by omega
    subst this
    refine ⟨σ, ?_, by rw [TX_end hT] at hS; exact hS, Fr.rf⟩
    rw [uX1_findSpots_L21]
    unfold fX1_findSpots_B21
    rw [if_pos (by rw [le_nI (by omega) (by omega)]; omega)]
  | succ j ih =>
    intro p n σ f hp hn hN hR hT hS
    have hRb := hN.1.1
    obtain ⟨n, rfl⟩ : ∃ m, n = m + 1 := ⟨n - 1, by omega⟩
    have hpb : p < 5 * nR N := by omega
    have ho : ofD N A d s p ≤ 19602 := ofS_le hA x1 x2 (by omega)
    have hit : ib (nI (p / 5)) 30 = true := ib_nI (by omega) (by decide)
    have hct : (nI (p / 5)).toNatClampNeg = p / 5 := cl_nI (by omega)
    have d5 : nI p / 5 = nI (p / 5) := div_nI (by omega) (by decide) (by decide)
    obtain ⟨-, e10, -, -, -, -, -, -, -, hk4⟩ := hN.2.2.1 (p / 5) (by omega)
    have no : ¬ (tnB N p = true ∧ ofD N A d s p ≤ A (40 + d) s * A (40 + d) s) → ∃ σ', fX1_findSpots_J76 (fun l1 l2 l3 l4 l5 l6 σ => fX1_findSpots_L21 n l1 l2 l3 l4 l5 l6 σ) (nI s) (nI (A (10 + d) s)) (nI (A (20 + d) s)) (nI (A (40 + d) s)) (nI (5 * nR N)) (nI p) σ = some ((), σ') ∧ SpX1 σ' s (ofD N A d s) (spL N A d s) ∧ Fr (PX1 s) σ σ' := by
      intro h
      obtain ⟨σ', g1, g2, g3⟩ := ih (p + 1) n σ f (by omega) (by omega) hN hR (TX_skip hT h) (by rw [fl_skip (fun x hx => (hT.1 x hx).1)]; exact hS)
      refine ⟨σ', ?_, g2, g3⟩
      unfold fX1_findSpots_J76
      simp only [bindv, nI_1]
      exact g1
    rw [uX1_findSpots_L21]
    unfold fX1_findSpots_B21
    rw [if_neg (by rw [le_nI (by omega) (by omega)]; omega), d5, if_pos hit, hct, e10]
    by_cases hk : nkd N (p / 5) = 2
    · rw [if_pos (by rw [hk]; rfl)]
      exact no (fun z => by have z1 := z.1; unfold tnB at z1; rw [decide_eq_true_eq] at z1; exact z1 hk)
    · have htn : tnB N p = true := by unfold tnB; exact decide_eq_true hk
      rw [if_neg (by rw [zl2, eq_nI (by omega) (by omega)]; exact hk), X_offFrom hN hA hR x1 x2 hpb]
      simp only [cb, Option.bind_some, pk_mul]
      show ∃ σ', (if nI (A (40 + d) s * A (40 + d) s) < nI (ofD N A d s p) then _ else _) = _ ∧ _
      by_cases h1 : A (40 + d) s * A (40 + d) s < ofD N A d s p
      · rw [if_pos (by rw [lt_nI (by omega) (by omega)]; exact h1)]
        exact no (fun z => by omega)
      · rw [if_neg (by rw [lt_nI (by omega) (by omega)]; exact h1)]
        obtain ⟨σ1, f', r1, r2, r3, r4⟩ := X_addSpot (show s < 20 by omega) hT (by omega) ⟨htn, by omega⟩ hS
        obtain ⟨σ', g1, g2, g3⟩ := ih (p + 1) n σ1 f' (by omega) (by omega) (hN.fr r4 (fun a b z => by rcases z with z | z <;> omega)) (hR.fr r4 (fun a b z => by rcases z with z | z <;> omega)) r2 r3
        refine ⟨σ', ?_, g2, r4.tr g3⟩
        have r1' : fX1_addSpot (nI s) (nI p) (nI (ofS N A (A (10 + d) s) (A (20 + d) s) p)) σ = some ((), σ1) := r1
        rw [r1']
        simp only [Option.bind_some]
        unfold fX1_findSpots_J76
        simp only [bindv, nI_1]
        exact g1
theorem X_findSpots {σ : ST} {N : NET} {A : AS} (hA : WFA N A) (hN : NX σ N) (hR : RX σ A) {d s : Nat} (hd : d < A 3 0) (hs : s < A 4 d) : ∃ σ', fX1_findSpots (nI s) (nI (A (10 + d) s)) (nI (A (20 + d) s)) (nI (A (40 + d) s)) σ = some ((), σ') ∧ SpX1 σ' s (ofD N A d s) (spL N A d s) ∧ Fr (PX1 s) σ σ' := by
  have hRb := hN.1.1
  obtain ⟨-, ⟨hd6, hdd⟩, -⟩ := id hA
  obtain ⟨h20, hdx, -⟩ := hdd d hd
  obtain ⟨f200, hf200⟩ := FU_add 200 (by decide)
  have hF0 : Fr (PX1 s) σ (stI σ 18 s 0) := Fr.rf.st (Or.inr ⟨rfl, rfl⟩)
  have hN0 := hN.fr hF0 (fun a b z => by rcases z with z | z <;> omega)
  obtain ⟨σ', g1, g2, g3⟩ := xsp_L hA hd hs (5 * nR N) 0 FU (stI σ 18 s 0) (fun _ => false) (by omega) (by rw [hf200]; omega) hN0 (hR.fr hF0 (fun a b z => by rcases z with z | z <;> omega)) (TX_zero _ _ _) ⟨st_at _ _ _ _, fun i v hi => by simp [fl] at hi⟩
  refine ⟨σ', ?_, g2, hF0.tr g3⟩
  unfold fX1_findSpots
  rw [if_pos (ib_nI (show s < 20 by omega) (by decide)), cl_nI (by omega)]
  simp only [bindv]
  rw [hN0.2.1, show (5 : Int32) * nI (nR N) = nI (5 * nR N) from pk_mul 5 _]
  exact g1
/-- all sights' spots, in the class -/
def SpX (σ : ST) (N : NET) (A : AS) (d : Nat) (m : Nat) : Prop := ∀ s, s < m → SpX1 σ s (ofD N A d s) (spL N A d s)
theorem SpX.fr {P : Nat → Nat → Prop} {σ σ' : ST} {N : NET} {A : AS} {d m : Nat} (h : SpX σ N A d m) (hF : Fr P σ σ') (hP : ∀ a b, P a b → a ≠ 18 ∧ a ≠ 19 ∧ a ≠ 21) : SpX σ' N A d m := fun s hs =>
  ⟨(hF.1 18 s (fun z => (hP _ _ z).1 rfl)).trans (h s hs).1, fun i v hi => ⟨(hF.1 19 _ (fun z => (hP _ _ z).2.1 rfl)).trans ((h s hs).2 i v hi).1, (hF.1 21 _ (fun z => (hP _ _ z).2.2 rfl)).trans ((h s hs).2 i v hi).2⟩⟩
abbrev PG : Nat → Nat → Prop := fun a _ => a = 18 ∨ a = 19 ∨ a = 21
theorem isDr_of {σ : ST} {A : AS} (hR : RX σ A) {d : Nat} (hd : d < A 3 0) : isDr σ (26 + 5 * d) = true := by
  unfold isDr
  rw [hR.2.1.2.1]
  exact decide_eq_true (by omega)
theorem isRw_of {σ : ST} {A : AS} (hR : RX σ A) {d j : Nat} (hd : d < A 3 0) (hj : 1 ≤ j ∧ j ≤ 4) : isRw σ (26 + 5 * d + j) = true := by
  unfold isRw
  rw [hR.2.1.2.1]
  exact decide_eq_true (by omega)
theorem gat_L {N : NET} {A : AS} (hA : WFA N A) {d : Nat} (hd : d < A 3 0) : ∀ (j s n : Nat) (σ : ST), s + j = A 4 d → j < n → NX σ N → RX σ A → σ.1 3 15 = nI (A 4 d) → SpX σ N A d s → ∃ σ', fX1_gather_L29 n (26 + 5 * d) (nI s) σ = some ((), σ') ∧ SpX σ' N A d (A 4 d) ∧ Fr PG σ σ' := by
  obtain ⟨-, ⟨hd6, hdd⟩, -⟩ := id hA
  obtain ⟨h20, hdx, -⟩ := hdd d hd
  intro j
  induction j with
  | zero =>
    intro s n σ hs hn hN hR h15 hS
    obtain ⟨n, rfl⟩ : ∃ m, n = m + 1 := ⟨n - 1, by omega⟩
    have : s = A 4 d := by omega
    subst this
    refine ⟨σ, ?_, hS, Fr.rf⟩
    rw [uX1_gather_L29]
    unfold fX1_gather_B29
    rw [h15, if_pos (by rw [le_nI (by omega) (by omega)]; omega)]
  | succ j ih =>
    intro s n σ hs hn hN hR h15 hS
    obtain ⟨n, rfl⟩ : ∃ m, n = m + 1 := ⟨n - 1, by omega⟩
    obtain ⟨σ1, g1, g2, g3⟩ := X_findSpots hA hN hR hd (show s < A 4 d by omega)
    have hG : Fr PG σ σ1 := g3.mono (fun a b z => by rcases z with z | z <;> omega)
    obtain ⟨σ', p1, p2, p3⟩ := ih (s + 1) n σ1 (by omega) (by omega) (hN.fr g3 (fun a b z => by rcases z with z | z <;> omega)) (hR.fr g3 (fun a b z => by rcases z with z | z <;> omega)) ((g3.1 3 15 (fun z => by rcases z with z | z <;> omega)).trans h15) (fun s' hs' => by
      by_cases e : s' = s
      · subst e; exact g2
      · refine ⟨(g3.1 18 s' (fun z => by rcases z with z | z <;> omega)).trans (hS s' (by omega)).1, fun i v hi => ?_⟩
        have hil : i < (spL N A d s').length := (List.getElem?_eq_some_iff.mp hi).1
        have := spL_len N A d s'
        exact ⟨(g3.1 19 _ (fun z => by rcases z with z | z <;> omega)).trans ((hS s' (by omega)).2 i v hi).1, (g3.1 21 _ (fun z => by rcases z with z | z <;> omega)).trans ((hS s' (by omega)).2 i v hi).2⟩)
    refine ⟨σ', ?_, p2, hG.tr p3⟩
    obtain ⟨q1, q2, -, q4⟩ := (hR.2.1.2.2.2 d hd).2 s (by omega)
    have i1 : ib (nI s) 20 = true := ib_nI (by omega) (by decide)
    have c1 : (nI s).toNatClampNeg = s := cl_nI (by omega)
    have w1 := isRw_of hR hd (j := 1) (by omega)
    have w2 := isRw_of hR hd (j := 2) (by omega)
    have w4 := isRw_of hR hd (j := 4) (by omega)
    have z1 : σ.1 (26 + 5 * d + 1) s = nI (A (10 + d) s) := by rw [show 26 + 5 * d + 1 = 27 + 5 * d by omega]; exact q1
    have z2 : σ.1 (26 + 5 * d + 2) s = nI (A (20 + d) s) := by rw [show 26 + 5 * d + 2 = 28 + 5 * d by omega]; exact q2
    have z4 : σ.1 (26 + 5 * d + 4) s = nI (A (40 + d) s) := by rw [show 26 + 5 * d + 4 = 30 + 5 * d by omega]; exact q4
    rw [uX1_gather_L29]
    unfold fX1_gather_B29
    rw [h15, if_neg (by rw [le_nI (by omega) (by omega)]; omega)]
    simp only [isDr_of hR hd, w1, w2, w4, i1, c1, Bool.and_self, ↓reduceIte, z1, z2, z4, g1, cb, Option.bind_some, bindv, nI_1]
    exact p1
