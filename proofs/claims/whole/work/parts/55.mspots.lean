-- pure: the reference's spots (own work)
abbrev PS2 : Nat → Nat → Prop := fun a _ => a = 19 ∨ a = 20
abbrev PS : Nat → Nat → Prop := fun a b => a = 19 ∨ a = 20 ∨ (a = 0 ∧ b = 31)
theorem RM.fr {P : Nat → Nat → Prop} {σ σ' : ST} {A : AS} (h : RM σ A) (hF : Fr P σ σ') (hP : ∀ a b, P a b → 15 ≤ a ∨ (a = 0 ∧ (b = 20 ∨ 30 ≤ b)) ∨ (3 ≤ a ∧ a ≤ 8)) : RM σ' A := by
  have e : ∀ a b, (a < 3 ∨ (9 ≤ a ∧ a ≤ 14)) → (a = 0 → b ≠ 20 ∧ b < 30) → σ'.1 a b = σ.1 a b := fun a b h1 h2 => hF.1 a b (fun q => by
    rcases hP a b q with z | ⟨z, z'⟩ | z
    · omega
    · have := h2 z; omega
    · omega)
  obtain ⟨⟨a1, a2⟩, ⟨b1, b2, b3⟩, ⟨c1, c2⟩, d1, d2⟩ := h
  refine ⟨⟨by rw [e 0 2 (by omega) (by omega)]; exact a1, fun i hi => ?_⟩, ⟨by rw [e 0 15 (by omega) (by omega)]; exact b1, fun d hd => by rw [e 13 d (by omega) (by omega)]; exact b2 d hd, fun d hd i hi => ?_⟩, ⟨by rw [e 0 16 (by omega) (by omega)]; exact c1, by rw [e 0 17 (by omega) (by omega)]; exact c2⟩, by rw [e 0 19 (by omega) (by omega)]; exact d1, fun i hi => by rw [e 14 i (by omega) (by omega)]; exact d2 i hi⟩
  · rw [e 1 i (by omega) (by omega), e 2 i (by omega) (by omega)]; exact a2 i hi
  · rw [e 9 _ (by omega) (by omega), e 10 _ (by omega) (by omega), e 11 _ (by omega) (by omega), e 12 _ (by omega) (by omega)]; exact b3 d hd i hi
/-- one sight's spots in the reference's rows -/
def SpM1 (σ : ST) (s : Nat) (l : List Nat) : Prop := σ.1 20 s = nI l.length ∧ ∀ i v, l[i]? = some v → σ.1 19 (10 * s + i) = nI v
theorem SpM1.fr {P : Nat → Nat → Prop} {σ σ' : ST} {s : Nat} {l : List Nat} (h : SpM1 σ s l) (hF : Fr P σ σ') (hP : ∀ a b, P a b → a ≠ 20 ∧ a ≠ 19) : SpM1 σ' s l :=
  ⟨(hF.1 20 s (fun z => (hP _ _ z).1 rfl)).trans h.1, fun i v hi => (hF.1 19 _ (fun z => (hP _ _ z).2 rfl)).trans (h.2 i v hi)⟩
/-- the ones ahead of p are counted -/
theorem msp87 {N : NET} {A : AS} (hA : WFA N A) {σ : ST} (hN : NM σ N) (hR : RM σ A) {d s : Nat} (hd : d < A 3 0) (hs : s < A 4 d) {p : Nat} (hp : p < 5 * nR N) (k7 : Int32 → Int32 → ST → Option (Unit × ST)) (k39 : Int32 → Int32 → Int32 → Int32 → ST → Option (Unit × ST)) (b : Int32) : ∀ (j q n : Nat), q + j = 5 * nR N → j < n → ∃ n', fX5_findSpots_L87 k7 k39 n (nI d) (nI s) b (nI p) (nI (ofD N A d s p)) (nI (fl (fun x => tnB N x && nearB (ofD N A d s) x p) q).length) (nI q) σ = fX5_findSpots_B87 k7 k39 (fun l1 l2 l3 l4 l5 l6 l7 σ => fX5_findSpots_L87 k7 k39 n' l1 l2 l3 l4 l5 l6 l7 σ) (nI d) (nI s) b (nI p) (nI (ofD N A d s p)) (nI (fl (fun x => tnB N x && nearB (ofD N A d s) x p) (5 * nR N)).length) (nI (5 * nR N)) σ := by
  have hRb := hN.1.1
  intro j
  induction j with
  | zero =>
    intro q n hq hn
    obtain ⟨n, rfl⟩ : ∃ m, n = m + 1 := ⟨n - 1, by omega⟩
    have : q = 5 * nR N := by omega
    subst this
    exact ⟨n, uX5_findSpots_L87 k7 k39 n _ _ _ _ _ _ _ σ⟩
  | succ j ih =>
    intro q n hq hn
    obtain ⟨n, rfl⟩ : ∃ m, n = m + 1 := ⟨n - 1, by omega⟩
    have hqb : q < 5 * nR N := by omega
    obtain ⟨n', e⟩ := ih (q + 1) n (by omega) (by omega)
    refine ⟨n', ?_⟩
    rw [← e, uX5_findSpots_L87]
    have hl : fl (fun x => tnB N x && nearB (ofD N A d s) x p) (q + 1) = if (tnB N q && nearB (ofD N A d s) q p) = true then fl (fun x => tnB N x && nearB (ofD N A d s) x p) q ++ [q] else fl (fun x => tnB N x && nearB (ofD N A d s) x p) q := rfl
    have hb := len_le_of_sub (fl (fun x => tnB N x && nearB (ofD N A d s) x p) q) (List.range q) fl_inc (fun x hx => List.mem_range.mpr (fl_mem.mp hx).1)
    rw [List.length_range] at hb
    have ho : ofD N A d s q ≤ 19602 := by
      obtain ⟨-, ⟨-, hdd⟩, -⟩ := id hA
      obtain ⟨-, hdx, -⟩ := hdd d hd
      obtain ⟨x1, x2, -⟩ := hdx s hs
      exact ofS_le hA x1 x2 (by omega)
    have ho2 : ofD N A d s p ≤ 19602 := by
      obtain ⟨-, ⟨-, hdd⟩, -⟩ := id hA
      obtain ⟨-, hdx, -⟩ := hdd d hd
      obtain ⟨x1, x2, -⟩ := hdx s hs
      exact ofS_le hA x1 x2 (by omega)
    have hit : ib (nI (q / 5)) 30 = true := ib_nI (by omega) (by decide)
    have hct : (nI (q / 5)).toNatClampNeg = q / 5 := cl_nI (by omega)
    have d5 : nI q / 5 = nI (q / 5) := div_nI (by omega) (by decide) (by decide)
    obtain ⟨-, -, -, e6, -, -, -, hk4⟩ := hN.2.2.1 (q / 5) (by omega)
    have yes : (tnB N q && nearB (ofD N A d s) q p) = true → fX5_findSpots_J144 k7 k39 (fun l1 l2 l3 l4 l5 l6 l7 σ => fX5_findSpots_L87 k7 k39 n l1 l2 l3 l4 l5 l6 l7 σ) (nI d) (nI s) b (nI p) (nI (ofD N A d s p)) (nI q) (nI (fl (fun x => tnB N x && nearB (ofD N A d s) x p) q).length) σ = fX5_findSpots_L87 k7 k39 n (nI d) (nI s) b (nI p) (nI (ofD N A d s p)) (nI (fl (fun x => tnB N x && nearB (ofD N A d s) x p) (q + 1)).length) (nI (q + 1)) σ := by
      intro h
      rw [hl, if_pos h, List.length_append]
      unfold fX5_findSpots_J144 fX5_findSpots_J149
      simp only [bindv, nI_1, List.length_singleton]
    have no : (tnB N q && nearB (ofD N A d s) q p) = false → fX5_findSpots_J148 k7 k39 (fun l1 l2 l3 l4 l5 l6 l7 σ => fX5_findSpots_L87 k7 k39 n l1 l2 l3 l4 l5 l6 l7 σ) (nI d) (nI s) b (nI p) (nI (ofD N A d s p)) (nI q) (nI (fl (fun x => tnB N x && nearB (ofD N A d s) x p) q).length) σ = fX5_findSpots_L87 k7 k39 n (nI d) (nI s) b (nI p) (nI (ofD N A d s p)) (nI (fl (fun x => tnB N x && nearB (ofD N A d s) x p) (q + 1)).length) (nI (q + 1)) σ := by
      intro h
      rw [hl, h, if_neg (by decide)]
      unfold fX5_findSpots_J148 fX5_findSpots_J149
      simp only [bindv, nI_1]
      rw [zl0, nI_add, Nat.add_zero]
    unfold fX5_findSpots_B87
    rw [hN.2.1, show (5 : Int32) * nI (nR N) = nI (5 * nR N) from pk_mul 5 _, if_neg (by rw [le_nI (by omega) (by omega)]; omega), M_offOf hN hA hR hd hs hqb]
    simp only [cb, Option.bind_some, d5, hit, hct, ↓reduceIte, e6]
    by_cases hk : nkd N (q / 5) = 2
    · rw [if_pos (by rw [hk]; rfl)]
      exact no (by unfold tnB; rw [decide_eq_false (fun z => z hk)]; rfl)
    · have htn : tnB N q = true := by unfold tnB; exact decide_eq_true hk
      rw [if_neg (by rw [zl2, eq_nI (by omega) (by omega)]; exact hk)]
      by_cases h1 : ofD N A d s q < ofD N A d s p
      · rw [if_pos (by rw [lt_nI (by omega) (by omega)]; exact h1)]
        exact yes (by rw [htn, Bool.true_and, nearB_iff]; exact Or.inl h1)
      · rw [if_neg (by rw [lt_nI (by omega) (by omega)]; exact h1)]
        by_cases h2 : ofD N A d s q = ofD N A d s p
        · rw [if_pos (by rw [h2])]
          by_cases h3 : p ≤ q
          · rw [if_pos (by rw [le_nI (by omega) (by omega)]; exact h3)]
            refine no (Bool.eq_false_iff.mpr (fun z => ?_))
            rw [htn, Bool.true_and, nearB_iff] at z
            unfold nearer at z; omega
          · rw [if_neg (by rw [le_nI (by omega) (by omega)]; exact h3)]
            exact yes (by rw [htn, Bool.true_and, nearB_iff]; exact Or.inr ⟨h2, by omega⟩)
        · rw [if_neg (by rw [eq_nI (by omega) (by omega)]; exact h2)]
          refine no (Bool.eq_false_iff.mpr (fun z => ?_))
          rw [htn, Bool.true_and, nearB_iff] at z
          unfold nearer at z; omega
theorem getE_app {l : List Nat} {x i v : Nat} (h : (l ++ [x])[i]? = some v) : l[i]? = some v ∨ (i = l.length ∧ v = x) := by
  by_cases hi : i < l.length
  · rw [List.getElem?_append_left hi] at h; exact Or.inl h
  · rw [List.getElem?_append_right (by omega)] at h
    by_cases z : i - l.length = 0
    · rw [z] at h; simp at h; exact Or.inr ⟨by omega, h.symm⟩
    · rw [List.getElem?_eq_none (by simp; omega)] at h; cases h
abbrev PS1 (s : Nat) : Nat → Nat → Prop := fun a b => (a = 19 ∧ 10 * s ≤ b ∧ b < 10 * s + 10) ∨ (a = 20 ∧ b = s)
theorem fl_le_full {f : Nat → Bool} : ∀ {p n : Nat}, p ≤ n → (fl f p).length ≤ (fl f n).length := fun {p n} h => len_le_of_sub _ _ fl_inc (fun x hx => fl_mem.mpr ⟨by have := (fl_mem.mp hx).1; omega, (fl_mem.mp hx).2⟩)
theorem msp39 {N : NET} {A : AS} (hA : WFA N A) {d s : Nat} (hd : d < A 3 0) (hs : s < A 4 d) (k7 : Int32 → Int32 → ST → Option (Unit × ST)) : ∀ (j p n : Nat) (σ : ST), p + j = 5 * nR N → j < n → NM σ N → RM σ A → SpM1 σ s (fl (spB (tnB N) (ofD N A d s) (A (40 + d) s * A (40 + d) s) (5 * nR N)) p) → ∃ σ', fX5_findSpots_L39 k7 n (nI d) (nI s) (nI (A (40 + d) s)) (nI p) σ = k7 (nI d) (nI (s + 1)) σ' ∧ SpM1 σ' s (spL N A d s) ∧ Fr (PS1 s) σ σ' := by
  obtain ⟨-, ⟨hd6, hdd⟩, -⟩ := id hA
  obtain ⟨h20, hdx, -⟩ := hdd d hd
  obtain ⟨x1, x2, -, x4⟩ := hdx s hs
  have hbb := Nat.mul_le_mul x4 x4
  intro j
  induction j with
  | zero =>
    intro p n σ hp hn hN hR hS
    have hRb := hN.1.1
    obtain ⟨n, rfl⟩ : ∃ m, n = m + 1 := ⟨n - 1, by omega⟩
    have : p = 5 * nR N := by omega
    subst this
    refine ⟨σ, ?_, hS, Fr.rf⟩
    rw [uX5_findSpots_L39]
    unfold fX5_findSpots_B39
    rw [hN.2.1, show (5 : Int32) * nI (nR N) = nI (5 * nR N) from pk_mul 5 _, if_pos (by rw [le_nI (by omega) (by omega)]; omega)]
    simp only [bindv, nI_1]
  | succ j ih =>
    intro p n σ hp hn hN hR hS
    have hRb := hN.1.1
    obtain ⟨n, rfl⟩ : ∃ m, n = m + 1 := ⟨n - 1, by omega⟩
    have hpb : p < 5 * nR N := by omega
    have ho : ofD N A d s p ≤ 19602 := ofS_le hA x1 x2 (by omega)
    have hit : ib (nI (p / 5)) 30 = true := ib_nI (by omega) (by decide)
    have hct : (nI (p / 5)).toNatClampNeg = p / 5 := cl_nI (by omega)
    have d5 : nI p / 5 = nI (p / 5) := div_nI (by omega) (by decide) (by decide)
    obtain ⟨-, -, -, e6, -, -, -, hk4⟩ := hN.2.2.1 (p / 5) (by omega)
    have hl : fl (spB (tnB N) (ofD N A d s) (A (40 + d) s * A (40 + d) s) (5 * nR N)) (p + 1) = if spB (tnB N) (ofD N A d s) (A (40 + d) s * A (40 + d) s) (5 * nR N) p = true then fl (spB (tnB N) (ofD N A d s) (A (40 + d) s * A (40 + d) s) (5 * nR N)) p ++ [p] else fl (spB (tnB N) (ofD N A d s) (A (40 + d) s * A (40 + d) s) (5 * nR N)) p := rfl
    have no : spB (tnB N) (ofD N A d s) (A (40 + d) s * A (40 + d) s) (5 * nR N) p = false → ∃ σ', fX5_findSpots_J193 k7 (fun l1 l2 l3 l4 σ => fX5_findSpots_L39 k7 n l1 l2 l3 l4 σ) (nI d) (nI s) (nI (A (40 + d) s)) (nI p) σ = k7 (nI d) (nI (s + 1)) σ' ∧ SpM1 σ' s (spL N A d s) ∧ Fr (PS1 s) σ σ' := by
      intro h
      rw [h, if_neg (by decide)] at hl
      obtain ⟨σ', g1, g2, g3⟩ := ih (p + 1) n σ (by omega) (by omega) hN hR (by rw [hl]; exact hS)
      refine ⟨σ', ?_, g2, g3⟩
      unfold fX5_findSpots_J193
      simp only [bindv, nI_1]
      exact g1
    rw [uX5_findSpots_L39]
    unfold fX5_findSpots_B39
    rw [hN.2.1, show (5 : Int32) * nI (nR N) = nI (5 * nR N) from pk_mul 5 _, if_neg (by rw [le_nI (by omega) (by omega)]; omega), M_offOf hN hA hR hd hs hpb]
    simp only [cb, Option.bind_some, d5, hit, hct, ↓reduceIte, e6]
    by_cases hk : nkd N (p / 5) = 2
    · rw [if_pos (by rw [hk]; rfl)]
      refine no ?_
      unfold spB tnB
      rw [decide_eq_false (fun z => z hk)]; rfl
    · have htn : tnB N p = true := by unfold tnB; exact decide_eq_true hk
      rw [if_neg (by rw [zl2, eq_nI (by omega) (by omega)]; exact hk), pk_mul]
      by_cases h1 : A (40 + d) s * A (40 + d) s < ofD N A d s p
      · rw [if_pos (by rw [lt_nI (by omega) (by omega)]; exact h1)]
        refine no ?_
        unfold spB
        rw [htn, show decide (ofD N A d s p ≤ A (40 + d) s * A (40 + d) s) = false from decide_eq_false (by omega)]; rfl
      · rw [if_neg (by rw [lt_nI (by omega) (by omega)]; exact h1)]
        obtain ⟨f200, hf200⟩ := FU_add 200 (by decide)
        obtain ⟨n', e⟩ := msp87 hA hN hR hd hs hpb k7 (fun l1 l2 l3 l4 σ => fX5_findSpots_L39 k7 n l1 l2 l3 l4 σ) (nI (A (40 + d) s)) (5 * nR N) 0 FU (by omega) (by rw [hf200]; omega)
        rw [show (0 : Int32) = nI (fl (fun x => tnB N x && nearB (ofD N A d s) x p) 0).length from rfl, show nI (fl (fun x => tnB N x && nearB (ofD N A d s) x p) 0).length = nI 0 from rfl] at *
        rw [show (nI 0 : Int32) = nI (fl (fun x => tnB N x && nearB (ofD N A d s) x p) 0).length from rfl] at e
        have e0 : (nI (fl (fun x => tnB N x && nearB (ofD N A d s) x p) 0).length : Int32) = nI 0 := rfl
        rw [e0] at e
        rw [e]
        have hb := len_le_of_sub (fl (fun x => tnB N x && nearB (ofD N A d s) x p) (5 * nR N)) (List.range (5 * nR N)) fl_inc (fun x hx => List.mem_range.mpr (fl_mem.mp hx).1)
        rw [List.length_range] at hb
        unfold fX5_findSpots_B87
        rw [hN.2.1, show (5 : Int32) * nI (nR N) = nI (5 * nR N) from pk_mul 5 _, if_pos (by rw [le_nI (by omega) (by omega)]; omega)]
        by_cases h10 : 10 ≤ (fl (fun x => tnB N x && nearB (ofD N A d s) x p) (5 * nR N)).length
        · rw [if_pos (by rw [show (10 : Int32) = nI 10 from rfl, le_nI (by omega) (by omega)]; exact h10)]
          refine no ?_
          unfold spB
          rw [show decide ((fl (fun q => tnB N q && nearB (ofD N A d s) q p) (5 * nR N)).length < 10) = false from decide_eq_false (by omega), Bool.and_false]
        · rw [if_neg (by rw [show (10 : Int32) = nI 10 from rfl, le_nI (by omega) (by omega)]; exact h10)]
          have hyes : spB (tnB N) (ofD N A d s) (A (40 + d) s * A (40 + d) s) (5 * nR N) p = true := by
            unfold spB
            rw [htn, show decide (ofD N A d s p ≤ A (40 + d) s * A (40 + d) s) = true from decide_eq_true (by omega), show decide ((fl (fun q => tnB N q && nearB (ofD N A d s) q p) (5 * nR N)).length < 10) = true from decide_eq_true (by omega)]; rfl
          rw [hyes, if_pos rfl] at hl
          have hfull := fl_le_full (f := spB (tnB N) (ofD N A d s) (A (40 + d) s * A (40 + d) s) (5 * nR N)) (show p + 1 ≤ 5 * nR N by omega)
          have h10' := spB_len (tnB N) (ofD N A d s) (A (40 + d) s * A (40 + d) s) (5 * nR N)
          rw [hl, List.length_append, List.length_singleton] at hfull
          obtain ⟨s1, s2⟩ := hS
          generalize hL : fl (spB (tnB N) (ofD N A d s) (A (40 + d) s * A (40 + d) s) (5 * nR N)) p = L at *
          have i1 : ib (nI s) 20 = true := ib_nI (by omega) (by decide)
          have c1 : (nI s).toNatClampNeg = s := cl_nI (by omega)
          have i2 : ib (nI (10 * s + L.length)) 200 = true := ib_nI (by omega) (by decide)
          have c2 : (nI (10 * s + L.length)).toNatClampNeg = 10 * s + L.length := cl_nI (by omega)
          have t10 : (10 : Int32) * nI s + nI L.length = nI (10 * s + L.length) := by rw [show (10 : Int32) * nI s = nI (10 * s) from pk_mul 10 _, nI_add]
          have hF : Fr (PS1 s) σ (stI (stI σ 19 (10 * s + L.length) (nI p)) 20 s (nI (L.length + 1))) := (Fr.rf.st (Or.inl ⟨rfl, by omega, by omega⟩)).st (Or.inr ⟨rfl, rfl⟩)
          obtain ⟨σ', g1, g2, g3⟩ := ih (p + 1) n (stI (stI σ 19 (10 * s + L.length) (nI p)) 20 s (nI (L.length + 1))) (by omega) (by omega) (hN.fr hF (fun a b z => by rcases z with z | z <;> omega)) (hR.fr hF (fun a b z => by rcases z with z | z <;> omega)) (by
            rw [hl]
            refine ⟨by rw [st_at, List.length_append]; rfl, fun i v hi => ?_⟩
            rw [st_cell _ _ _ (by decide)]
            rcases getE_app hi with h | ⟨h, h'⟩
            · have : i < L.length := (List.getElem?_eq_some_iff.mp h).1
              rw [st_idx _ _ (by omega)]; exact s2 i v h
            · rw [h, h', st_at])
          refine ⟨σ', ?_, g2, hF.tr g3⟩
          simp only [i1, c1, ↓reduceIte, s1, t10, i2, c2, bindv, st_cell _ _ _ (show (20 : Nat) ≠ 19 by decide), nI_1]
          unfold fX5_findSpots_J193
          simp only [bindv, nI_1]
          exact g1
/-- all sights' spots, in the reference -/
def SpM (σ : ST) (N : NET) (A : AS) (d : Nat) (m : Nat) : Prop := ∀ s, s < m → SpM1 σ s (spL N A d s)
theorem SpM1.fr1 {σ σ' : ST} {s t : Nat} {l : List Nat} (h : SpM1 σ s l) (hl : l.length ≤ 10) (hF : Fr (PS1 t) σ σ') (hst : s ≠ t) : SpM1 σ' s l :=
  ⟨(hF.1 20 s (fun z => by rcases z with z | z <;> omega)).trans h.1, fun i v hi => (hF.1 19 _ (fun z => by
    have : i < l.length := (List.getElem?_eq_some_iff.mp hi).1
    rcases z with z | z <;> omega)).trans (h.2 i v hi)⟩
theorem msp7 {N : NET} {A : AS} (hA : WFA N A) {d : Nat} (hd : d < A 3 0) : ∀ (j s n : Nat) (σ : ST), s + j = A 4 d → j < n → NM σ N → RM σ A → SpM σ N A d s → ∃ σ', fX5_findSpots_L7 n (nI d) (nI s) σ = some ((), σ') ∧ SpM σ' N A d (A 4 d) ∧ Fr PS2 σ σ' := by
  obtain ⟨-, ⟨hd6, hdd⟩, -⟩ := id hA
  obtain ⟨h20, hdx, -⟩ := hdd d hd
  intro j
  induction j with
  | zero =>
    intro s n σ hs hn hN hR hS
    obtain ⟨n, rfl⟩ : ∃ m, n = m + 1 := ⟨n - 1, by omega⟩
    have : s = A 4 d := by omega
    subst this
    have e13 := hR.2.1.2.1 d (by omega)
    rw [if_pos hd] at e13
    refine ⟨σ, ?_, hS, Fr.rf⟩
    rw [uX5_findSpots_L7]
    unfold fX5_findSpots_B7
    rw [if_pos (ib_nI (show d < 6 by omega) (by decide)), cl_nI (by omega), e13, if_pos (by rw [le_nI (by omega) (by omega)]; omega)]
  | succ j ih =>
    intro s n σ hs hn hN hR hS
    have hRb := hN.1.1
    obtain ⟨n, rfl⟩ : ∃ m, n = m + 1 := ⟨n - 1, by omega⟩
    have e13 := hR.2.1.2.1 d (by omega)
    rw [if_pos hd] at e13
    obtain ⟨-, -, -, e12⟩ := hR.2.1.2.2 d hd s (by omega)
    have i1 : ib (nI s) 20 = true := ib_nI (by omega) (by decide)
    have c1 : (nI s).toNatClampNeg = s := cl_nI (by omega)
    have t20 : (20 : Int32) * nI d + nI s = nI (20 * d + s) := by rw [show (20 : Int32) * nI d = nI (20 * d) from pk_mul 20 _, nI_add]
    have i5 : ib (nI (20 * d + s)) 120 = true := ib_nI (by omega) (by decide)
    have c5 : (nI (20 * d + s)).toNatClampNeg = 20 * d + s := cl_nI (by omega)
    obtain ⟨f200, hf200⟩ := FU_add 200 (by decide)
    have hF0 : Fr (PS1 s) σ (stI σ 20 s 0) := Fr.rf.st (Or.inr ⟨rfl, rfl⟩)
    obtain ⟨σ1, g1, g2, g3⟩ := msp39 hA hd (show s < A 4 d by omega) (fun l1 l2 σ => fX5_findSpots_L7 n l1 l2 σ) (5 * nR N) 0 FU (stI σ 20 s 0) (by omega) (by rw [hf200]; omega) (hN.fr hF0 (fun a b z => by rcases z with z | z <;> omega)) (hR.fr hF0 (fun a b z => by rcases z with z | z <;> omega)) ⟨st_at _ _ _ _, fun i v hi => by simp [fl] at hi⟩
    have hF1 := hF0.tr g3
    obtain ⟨σ', p1, p2, p3⟩ := ih (s + 1) n σ1 (by omega) (by omega) (hN.fr hF1 (fun a b z => by rcases z with z | z <;> omega)) (hR.fr hF1 (fun a b z => by rcases z with z | z <;> omega)) (fun s' hs' => by
      by_cases e : s' = s
      · subst e; exact g2
      · exact (hS s' (by omega)).fr1 (spL_len N A d s') hF1 e)
    refine ⟨σ', ?_, p2, (hF1.mono (fun a b z => by rcases z with z | z <;> omega)).tr p3⟩
    rw [uX5_findSpots_L7]
    unfold fX5_findSpots_B7
    rw [if_pos (ib_nI (show d < 6 by omega) (by decide)), cl_nI (by omega), e13, if_neg (by rw [le_nI (by omega) (by omega)]; omega)]
    simp only [t20, i5, c5, i1, c1, ↓reduceIte, e12, bindv]
    exact g1.trans p1
theorem M_findSpots {σ : ST} {N : NET} {A : AS} (hA : WFA N A) (hN : NM σ N) (hR : RM σ A) {d : Nat} (hd : d < A 3 0) : ∃ σ', fX5_findSpots (nI d) σ = some ((), σ') ∧ SpM σ' N A d (A 4 d) ∧ σ'.1 0 31 = nI d ∧ Fr PS σ σ' := by
  obtain ⟨-, ⟨hd6, hdd⟩, -⟩ := id hA
  obtain ⟨h20, hdx, -⟩ := hdd d hd
  have hF0 : Fr (fun a b => a = 0 ∧ b = 31) σ (stI σ 0 31 (nI d)) := Fr.rf.st ⟨rfl, rfl⟩
  obtain ⟨f200, hf200⟩ := FU_add 200 (by decide)
  obtain ⟨σ', g1, g2, g3⟩ := msp7 hA hd (A 4 d) 0 FU (stI σ 0 31 (nI d)) (by omega) (by rw [hf200]; omega) (hN.fr hF0 (fun a b z => by omega)) (hR.fr hF0 (fun a b z => by omega)) (fun s hs => by omega)
  refine ⟨σ', ?_, g2, ?_, (hF0.mono (fun a b z => Or.inr (Or.inr z))).tr (g3.mono (fun a b z => by rcases z with z | z <;> omega))⟩
  · unfold fX5_findSpots
    exact g1
  · exact (g3.1 0 31 (fun z => by omega)).trans (st_at _ _ _ _)
