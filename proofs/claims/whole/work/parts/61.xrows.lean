-- pure: the class's rows: writing and comparing them (own work)
section XRows
variable {N : NET} {A : AS} {d : Nat}
theorem KX.fr {P : Nat → Nat → Prop} {σ σ' : ST} (h : KX σ N) (hF : Fr P σ σ') (hP : ∀ a b, P a b → a ≠ 15 ∧ a ≠ 16) : KX σ' N := fun g hg => by
  rw [hF.1 16 g (fun z => (hP _ _ z).2 rfl)]
  rcases h g hg with z | ⟨z, b, hb1, hb2, hb3⟩
  · exact Or.inl z
  · exact Or.inr ⟨z, b, hb1.fr hF (fun t ht z => (hP _ _ z).1 rfl), hb2, hb3⟩
/-- the best row to a spot -/
noncomputable def bcD (N : NET) (A : AS) (d k v : Nat) : Nat := @dite _ (∃ c ρ, Best (spL N A d) (ofD N A d) (lgD N A d) (A 5 1) k v c ρ) (Classical.propDecidable _) (fun h => Classical.choose h) (fun _ => 0)
noncomputable def brD (N : NET) (A : AS) (d k v : Nat) : Nat → Nat := @dite _ (∃ c ρ, Best (spL N A d) (ofD N A d) (lgD N A d) (A 5 1) k v c ρ) (Classical.propDecidable _) (fun h => Classical.choose (Classical.choose_spec h)) (fun _ _ => 0)
theorem bD_eq {k v c : Nat} {ρ : Nat → Nat} (h : Best (spL N A d) (ofD N A d) (lgD N A d) (A 5 1) k v c ρ) : Best (spL N A d) (ofD N A d) (lgD N A d) (A 5 1) k v (bcD N A d k v) (brD N A d k v) ∧ bcD N A d k v = c ∧ ∀ j, j ≤ k → brD N A d k v j = ρ j := by
  have hex : ∃ c ρ, Best (spL N A d) (ofD N A d) (lgD N A d) (A 5 1) k v c ρ := ⟨c, ρ, h⟩
  have hb : Best (spL N A d) (ofD N A d) (lgD N A d) (A 5 1) k v (bcD N A d k v) (brD N A d k v) := by
    unfold bcD brD
    rw [dif_pos hex, dif_pos hex]
    exact Classical.choose_spec (Classical.choose_spec hex)
  exact ⟨hb, best_uniq hb h⟩
def SlotOK (σ : ST) (N : NET) (A : AS) (d k i v : Nat) : Prop := σ.1 22 (10 * k + i) = nI (bcD N A d k v) ∧ Best (spL N A d) (ofD N A d) (lgD N A d) (A 5 1) k v (bcD N A d k v) (brD N A d k v) ∧ ((σ.1 23 (10 * k + i) = -1 ∧ ∀ j, j < k → brD N A d k v j = 1000) ∨ ∃ e i' q, e < k ∧ (spL N A d e)[i']? = some q ∧ σ.1 23 (10 * k + i) = nI (10 * e + i') ∧ (∀ j, j ≤ e → brD N A d k v j = brD N A d e q j) ∧ ∀ j, e < j → j < k → brD N A d k v j = 1000)
def DPA (σ : ST) (N : NET) (A : AS) (d m : Nat) : Prop := ∀ k i v, k < m → (spL N A d k)[i]? = some v → SlotOK σ N A d k i v
theorem SlotOK.fr {P : Nat → Nat → Prop} {σ σ' : ST} {k i v : Nat} (h : SlotOK σ N A d k i v) (hF : Fr P σ σ') (hP : ¬ P 22 (10 * k + i) ∧ ¬ P 23 (10 * k + i)) : SlotOK σ' N A d k i v := by
  unfold SlotOK
  rw [hF.1 22 _ hP.1, hF.1 23 _ hP.2]
  exact h
theorem DPA.fr {P : Nat → Nat → Prop} {σ σ' : ST} {m : Nat} (h : DPA σ N A d m) (hF : Fr P σ σ') (hP : ∀ a b, P a b → a ≠ 22 ∧ a ≠ 23) : DPA σ' N A d m := fun k i v hk hv => (h k i v hk hv).fr hF ⟨fun z => (hP _ _ z).1 rfl, fun z => (hP _ _ z).2 rfl⟩
/-- an end of a row: nothing, or (sight, place, point) -/
def es (e : Option (Nat × Nat × Nat)) : Int32 := match e with
  | none => -1
  | some q => nI (10 * q.1 + q.2.1)
noncomputable def er (N : NET) (A : AS) (d : Nat) (e : Option (Nat × Nat × Nat)) (j : Nat) : Nat := match e with
  | none => 1000
  | some q => if j ≤ q.1 then brD N A d q.1 q.2.2 j else 1000
def okS (N : NET) (A : AS) (d m : Nat) (e : Option (Nat × Nat × Nat)) : Prop := ∀ q, e = some q → q.1 < m ∧ (spL N A d q.1)[q.2.1]? = some q.2.2
theorem ev_val {S : Nat → List Nat} {of : Nat → Nat → Nat} {lg : Nat → Nat → Nat → Nat → Option Nat} {ls : Nat} {ρ : Nat → Nat} : ∀ k l c, ev S of lg ls ρ k = some (l, c) → ∀ j, j < k → ρ j = 1000 ∨ ρ j ∈ S j := by
  intro k
  induction k with
  | zero => intro l c _ j hj; omega
  | succ k ih =>
    intro l c h j hj
    obtain ⟨l0, c0, h0, h1⟩ := ev_inv h
    by_cases e : j = k
    · subst e
      rcases h1 with ⟨z, _⟩ | ⟨_, z, _⟩
      · exact Or.inl z
      · exact Or.inr z
    · exact ih l0 c0 h0 j (by omega)
theorem er_val (hN : WFN N) {σ : ST} {m : Nat} (hD : DPA σ N A d m) {e : Option (Nat × Nat × Nat)} (he : okS N A d m e) (j : Nat) : er N A d e j ≤ 1000 := by
  cases e with
  | none => exact Nat.le_refl _
  | some q =>
    obtain ⟨h1, h2⟩ := he q rfl
    show (if j ≤ q.1 then brD N A d q.1 q.2.2 j else 1000) ≤ 1000
    by_cases h : j ≤ q.1
    · rw [if_pos h]
      obtain ⟨-, hb, -⟩ := hD q.1 q.2.1 q.2.2 h1 h2
      rcases ev_val _ _ _ hb.1 j (by omega) with z | z
      · omega
      · have := h1000_D hN _ _ z; omega
    · rw [if_neg h]; exact Nat.le_refl _
theorem isRw_c (σ : ST) {c : Nat} (h : c = 5 ∨ c = 18 ∨ c = 20 ∨ c = 24 ∨ c = 25) : isRw σ c = true := decide_eq_true (Or.inl h)
theorem wr26 (hA : WFA N A) (hd : d < A 3 0) {c : Nat} (hc : c = 20 ∨ c = 24 ∨ c = 25) {R : Nat → Nat} : ∀ (m k i v t n : Nat) (σ : ST), k < m → m < n → SpX σ N A d (A 4 d) → DPA σ N A d (k + 1) → σ.1 3 15 = nI (A 4 d) → (spL N A d k)[i]? = some v → t + k < A 4 d → (∀ j, j ≤ k → R j = brD N A d k v j) → (∀ j, j < A 4 d → (j ≤ k → σ.1 c j = -5) ∧ (k < j → σ.1 c j = lcode (R j))) → ∃ σ', fX1_writeRow_L26 n c (nI (10 * k + i)) (nI t) σ = some ((), σ') ∧ (∀ j, j < A 4 d → σ'.1 c j = lcode (R j)) ∧ Fr (fun a _ => a = c) σ σ' := by
  obtain ⟨-, ⟨hd6, hdd⟩, -⟩ := id hA
  obtain ⟨h20, hdx, hinc⟩ := hdd d hd
  intro m
  induction m with
  | zero => intro k i v t n σ hk; omega
  | succ m ih =>
    intro k i v t n σ hk hn hS hD h15 hv ht hR hcell
    obtain ⟨n, rfl⟩ : ∃ m, n = m + 1 := ⟨n - 1, by omega⟩
    have hil := (List.getElem?_eq_some_iff.mp hv).1
    have hlen := spL_len N A d k
    have h19 := ((hS k (by omega)).2 i v hv).1
    obtain ⟨o1, o2, o3⟩ := hD k i v (by omega) hv
    have i1 : ib (nI (10 * k + i)) 200 = true := ib_nI (by omega) (by decide)
    have c1 : (nI (10 * k + i)).toNatClampNeg = 10 * k + i := cl_nI (by omega)
    have d10 : nI (10 * k + i) / 10 = nI k := by rw [show (10 : Int32) = nI 10 from rfl, div_nI (by omega) (by decide) (by decide)]; congr 1; omega
    have i2 : ib (nI k) 20 = true := ib_nI (by omega) (by decide)
    have c2 : (nI k).toNatClampNeg = k := cl_nI (by omega)
    have hF : Fr (fun a _ => a = c) σ (stI σ c k (nI v)) := Fr.rf.st rfl
    have hvk : v < 5 * nR N := spL_lt (List.mem_of_getElem? hv)
    have hvR : lcode (R k) = nI v := by
      rw [hR k (Nat.le_refl k), o2.2.1]
      unfold lcode
      rw [if_neg]
      have := o2.1
      intro e
      obtain ⟨l0, c0, z0, z1⟩ := ev_inv this
      rcases z1 with ⟨_, y, _⟩ | ⟨y, _⟩
      · have := (ev_last z0).2 k y.symm; omega
      · exact y (by rw [o2.2.1]; exact e)
    have hne1 : ¬ nI (10 * k + i) = -1 := fun e => by
      have := nI_nn (j := 10 * k + i) (by omega)
      rw [e] at this; exact this (by decide)
    have h23 : (stI σ c k (nI v)).1 23 (10 * k + i) = σ.1 23 (10 * k + i) := st_cell _ _ _ (by omega)
    have h15' : (stI σ c k (nI v)).1 3 15 = nI (A 4 d) := (st_cell _ _ _ (by omega)).trans h15
    have cell' : ∀ j, j < A 4 d → (j < k → (stI σ c k (nI v)).1 c j = -5) ∧ (k ≤ j → (stI σ c k (nI v)).1 c j = lcode (R j)) := fun j hj => by
      refine ⟨fun z => ?_, fun z => ?_⟩
      · rw [st_idx _ _ (by omega)]; exact (hcell j hj).1 (by omega)
      · by_cases e : j = k
        · subst e; rw [st_at, hvR]
        · rw [st_idx _ _ e]; exact (hcell j hj).2 (by omega)
    have hrw : isRw σ c = true := isRw_c σ (by omega)
    have body : fX1_writeRow_L26 (n + 1) c (nI (10 * k + i)) (nI t) σ = fX1_writeRow_L26 n c (σ.1 23 (10 * k + i)) (nI (t + 1)) (stI σ c k (nI v)) := by
      rw [uX1_writeRow_L26]
      unfold fX1_writeRow_B26
      rw [h15, if_neg (by rw [le_nI (by omega) (by omega)]; omega), if_neg hne1]
      simp only [i1, c1, d10, hrw, i2, c2, Bool.and_self, ↓reduceIte, bindv, h19, h23, nI_1]
    rw [body]
    rcases o3 with ⟨p1, p2⟩ | ⟨e, i', q, p1, p2, p3, p4, p5⟩
    · refine ⟨stI σ c k (nI v), ?_, fun j hj => ?_, hF⟩
      · obtain ⟨n, rfl⟩ : ∃ m, n = m + 1 := ⟨n - 1, by omega⟩
        rw [uX1_writeRow_L26]
        unfold fX1_writeRow_B26
        rw [p1, h15']
        by_cases hle : A 4 d ≤ t + 1
        · rw [if_pos (by rw [le_nI (by omega) (by omega)]; exact hle)]
        · rw [if_neg (by rw [le_nI (by omega) (by omega)]; exact hle), if_pos rfl]
      · by_cases z : k ≤ j
        · exact (cell' j hj).2 z
        · rw [(cell' j hj).1 (by omega), hR j (by omega), p2 j (by omega)]; rfl
    · rw [p3]
      obtain ⟨σ', q1, q2, q3⟩ := ih e i' q (t + 1) n (stI σ c k (nI v)) (by omega) (by omega) (hS.fr hF (fun a b z => by omega)) (fun k' i'' v' hk' hv' => (hD k' i'' v' (by omega) hv').fr hF ⟨by omega, by omega⟩) h15' p2 (by omega) (fun j hj => by rw [hR j (by omega)]; exact p4 j hj) (fun j hj => by
        refine ⟨fun z => (cell' j hj).1 (by omega), fun z => ?_⟩
        by_cases y : k ≤ j
        · exact (cell' j hj).2 y
        · rw [(cell' j hj).1 (by omega), hR j (by omega), p5 j z (by omega)]; rfl)
      exact ⟨σ', q1, q2, hF.tr q3⟩
theorem wr2 {c : Nat} (hc : c = 20 ∨ c = 24 ∨ c = 25) (x : Int32) {M : Nat} (hM : M ≤ 20) : ∀ (m t n : Nat) (σ : ST), t + m = M → m < n → σ.1 3 15 = nI M → (∀ j, j < t → σ.1 c j = -5) → ∃ σ', fX1_writeRow_L2 n x c (nI t) σ = fX1_writeRow_L26 FU c x 0 σ' ∧ (∀ j, j < M → σ'.1 c j = -5) ∧ Fr (fun a _ => a = c) σ σ' := by
  intro m
  induction m with
  | zero =>
    intro t n σ ht hn h15 h
    obtain ⟨n, rfl⟩ : ∃ m, n = m + 1 := ⟨n - 1, by omega⟩
    refine ⟨σ, ?_, fun j hj => h j (by omega), Fr.rf⟩
    rw [uX1_writeRow_L2]
    unfold fX1_writeRow_B2
    rw [h15, if_pos (by rw [le_nI (by omega) (by omega)]; omega)]
  | succ m ih =>
    intro t n σ ht hn h15 h
    obtain ⟨n, rfl⟩ : ∃ m, n = m + 1 := ⟨n - 1, by omega⟩
    have hF : Fr (fun a _ => a = c) σ (stI σ c t (-5)) := Fr.rf.st rfl
    obtain ⟨σ', q1, q2, q3⟩ := ih (t + 1) n (stI σ c t (-5)) (by omega) (by omega) ((st_cell _ _ _ (by omega)).trans h15) (fun j hj => by
      by_cases e : j = t
      · subst e; rw [st_at]
      · rw [st_idx _ _ e]; exact h j (by omega))
    refine ⟨σ', ?_, q2, hF.tr q3⟩
    rw [uX1_writeRow_L2]
    unfold fX1_writeRow_B2
    have i2 : ib (nI t) 20 = true := ib_nI (by omega) (by decide)
    have c2 : (nI t).toNatClampNeg = t := cl_nI (by omega)
    rw [h15, if_neg (by rw [le_nI (by omega) (by omega)]; omega)]
    simp only [isRw_c σ (show c = 5 ∨ c = 18 ∨ c = 20 ∨ c = 24 ∨ c = 25 by omega), i2, c2, Bool.and_self, ↓reduceIte, bindv, nI_1]
    exact q1
theorem X_writeRow (hA : WFA N A) (hd : d < A 3 0) {c : Nat} (hc : c = 20 ∨ c = 24 ∨ c = 25) {σ : ST} (hS : SpX σ N A d (A 4 d)) {m : Nat} (hm : m ≤ A 4 d) (hD : DPA σ N A d m) (h15 : σ.1 3 15 = nI (A 4 d)) {e : Option (Nat × Nat × Nat)} (he : okS N A d m e) : ∃ σ', fX1_writeRow (es e) c σ = some ((), σ') ∧ (∀ j, j < A 4 d → σ'.1 c j = lcode (er N A d e j)) ∧ Fr (fun a _ => a = c) σ σ' := by
  obtain ⟨-, ⟨hd6, hdd⟩, -⟩ := id hA
  obtain ⟨h20, hdx, hinc⟩ := hdd d hd
  obtain ⟨f40, hf40⟩ := FU_add 40 (by decide)
  obtain ⟨σ1, q1, q2, q3⟩ := wr2 hc (es e) h20 (A 4 d) 0 FU σ (by omega) (by rw [hf40]; omega) h15 (fun j hj => by omega)
  have h15' : σ1.1 3 15 = nI (A 4 d) := (q3.1 3 15 (by omega)).trans h15
  have q1' : fX1_writeRow (es e) c σ = fX1_writeRow_L26 FU c (es e) 0 σ1 := q1
  rw [q1']
  cases e with
  | none =>
    refine ⟨σ1, ?_, fun j hj => q2 j hj, q3⟩
    rw [hf40, show f40 + 40 = (f40 + 39) + 1 from rfl, uX1_writeRow_L26]
    unfold fX1_writeRow_B26
    rw [h15']
    by_cases hle : A 4 d ≤ 0
    · rw [if_pos (by rw [zl0, le_nI (by omega) (by omega)]; exact hle)]
    · rw [if_neg (by rw [zl0, le_nI (by omega) (by omega)]; exact hle), if_pos (show es none = -1 from rfl)]
  | some q =>
    obtain ⟨z1, z2⟩ := he q rfl
    obtain ⟨σ', r1, r2, r3⟩ := wr26 hA hd hc (R := er N A d (some q)) 20 q.1 q.2.1 q.2.2 0 FU σ1 (by omega) (by rw [hf40]; omega) (hS.fr q3 (fun a b z => by omega)) (fun k i v hk hv => (hD k i v (by omega) hv).fr q3 ⟨by omega, by omega⟩) h15' z2 (by omega) (fun j hj => if_pos hj) (fun j hj => ⟨fun _ => q2 j hj, fun z => by
      rw [q2 j hj, show er N A d (some q) j = 1000 from if_neg (by omega)]; rfl⟩)
    exact ⟨σ', r1, r2, q3.tr r3⟩
theorem cs2 {c1 c2 : Nat} (hc1 : c1 = 5 ∨ c1 = 18 ∨ c1 = 20 ∨ c1 = 24 ∨ c1 = 25) (hc2 : c2 = 5 ∨ c2 = 18 ∨ c2 = 20 ∨ c2 = 24 ∨ c2 = 25) {M : Nat} (hM : M ≤ 20) {σ : ST} (h15 : σ.1 3 15 = nI M) : ∀ (m t n : Nat), t + m = M → m < n → (∀ j, j < t → σ.1 c1 j = σ.1 c2 j) → ∃ r, r ≤ M ∧ fX1_countSame_L2 n c1 c2 (nI t) σ = some (nI r, σ) ∧ (∀ j, j < r → σ.1 c1 j = σ.1 c2 j) ∧ (r < M → σ.1 c1 r ≠ σ.1 c2 r) := by
  intro m
  induction m with
  | zero =>
    intro t n ht hn h
    obtain ⟨n, rfl⟩ : ∃ m, n = m + 1 := ⟨n - 1, by omega⟩
    refine ⟨t, by omega, ?_, h, fun z => by omega⟩
    rw [uX1_countSame_L2]
    unfold fX1_countSame_B2 fX1_countSame_J25
    rw [h15, if_pos (by rw [le_nI (by omega) (by omega)]; omega)]
  | succ m ih =>
    intro t n ht hn h
    obtain ⟨n, rfl⟩ : ∃ m, n = m + 1 := ⟨n - 1, by omega⟩
    have i2 : ib (nI t) 20 = true := ib_nI (by omega) (by decide)
    have k2 : (nI t).toNatClampNeg = t := cl_nI (by omega)
    rw [uX1_countSame_L2]
    unfold fX1_countSame_B2 fX1_countSame_J25
    rw [h15, if_neg (by rw [le_nI (by omega) (by omega)]; omega)]
    simp only [isRw_c σ hc1, isRw_c σ hc2, i2, k2, Bool.and_self, ↓reduceIte, bindv, nI_1]
    by_cases e : σ.1 c1 t = σ.1 c2 t
    · rw [if_pos e]
      exact ih (t + 1) n (by omega) (by omega) (fun j hj => by
        by_cases z : j = t
        · subst z; exact e
        · exact h j (by omega))
    · rw [if_neg e]
      exact ⟨t, by omega, rfl, h, fun _ => e⟩
theorem lcode_inj {x y : Nat} (hx : x ≤ 1000) (hy : y ≤ 1000) : lcode x = lcode y ↔ x = y := by
  constructor
  · intro h
    unfold lcode at h
    by_cases a : x = 1000
    · by_cases b : y = 1000
      · omega
      · rw [if_pos a, if_neg b] at h
        exact absurd h.symm (ne_m5 (by omega))
    · by_cases b : y = 1000
      · rw [if_neg a, if_pos b] at h
        exact absurd h (ne_m5 (by omega))
      · rw [if_neg a, if_neg b, eq_nI (by omega) (by omega)] at h
        exact h
  · intro h; rw [h]
/-- which of two rows comes first -/
theorem X_isRowFirst (hA : WFA N A) (hN : WFN N) (hd : d < A 3 0) {σ : ST} (hS : SpX σ N A d (A 4 d)) {m : Nat} (hm : m ≤ A 4 d) (hD : DPA σ N A d m) (h15 : σ.1 3 15 = nI (A 4 d)) {e e' : Option (Nat × Nat × Nat)} (he : okS N A d m e) (he' : okS N A d m e') : ∃ σ', ((fX1_isRowFirst (es e) (es e') σ = some (1, σ') ∧ lexle (A 4 d) (er N A d e) (er N A d e')) ∨ (fX1_isRowFirst (es e) (es e') σ = some (0, σ') ∧ lexle (A 4 d) (er N A d e') (er N A d e))) ∧ Fr (fun a _ => a = 24 ∨ a = 25) σ σ' := by
  obtain ⟨-, ⟨hd6, hdd⟩, -⟩ := id hA
  obtain ⟨h20, hdx, hinc⟩ := hdd d hd
  obtain ⟨f40, hf40⟩ := FU_add 40 (by decide)
  obtain ⟨σ1, p1, p2, p3⟩ := X_writeRow hA hd (c := 24) (by omega) hS hm hD h15 he
  have h15a : σ1.1 3 15 = nI (A 4 d) := (p3.1 3 15 (by omega)).trans h15
  obtain ⟨σ2, q1, q2, q3⟩ := X_writeRow hA hd (c := 25) (by omega) (hS.fr p3 (fun a b z => by omega)) hm (hD.fr p3 (fun a b z => by omega)) h15a he'
  have h15b : σ2.1 3 15 = nI (A 4 d) := (q3.1 3 15 (by omega)).trans h15a
  obtain ⟨r, r1, r2, r3, r4⟩ := cs2 (c1 := 24) (c2 := 25) (by omega) (by omega) h20 h15b (A 4 d) 0 FU (by omega) (by rw [hf40]; omega) (fun j hj => by omega)
  have v1 : ∀ j, j < A 4 d → σ2.1 24 j = lcode (er N A d e j) := fun j hj => (q3.1 24 j (by omega)).trans (p2 j hj)
  have b1 := er_val hN hD he
  have b2 := er_val hN hD he'
  have same : ∀ j, j < r → er N A d e j = er N A d e' j := fun j hj => by
    have := r3 j hj
    rw [v1 j (by omega), q2 j (by omega), lcode_inj (b1 j) (b2 j)] at this
    exact this
  refine ⟨σ2, ?_, (p3.mono (fun a b z => Or.inl z)).tr (q3.mono (fun a b z => Or.inr z))⟩
  have r2' : fX1_countSame 24 25 σ2 = some (nI r, σ2) := r2
  unfold fX1_isRowFirst
  rw [p1]
  simp only [cb, Option.bind_some, q1, r2', h15b]
  by_cases hr : A 4 d ≤ r
  · rw [if_pos (by rw [le_nI (by omega) (by omega)]; exact hr)]
    exact Or.inr ⟨rfl, Or.inl fun j hj => (same j (by omega)).symm⟩
  · have i2 : ib (nI r) 20 = true := ib_nI (by omega) (by decide)
    have k2 : (nI r).toNatClampNeg = r := cl_nI (by omega)
    have hne := r4 (by omega)
    rw [v1 r (by omega), q2 r (by omega)] at hne
    have hne' : er N A d e r ≠ er N A d e' r := fun z => hne (by rw [z])
    have w1 := b1 r
    have w2 := b2 r
    rw [if_neg (by rw [le_nI (by omega) (by omega)]; exact hr), if_pos i2, k2, v1 r (by omega), q2 r (by omega)]
    by_cases hA1 : er N A d e r = 1000
    · rw [if_pos (by rw [hA1]; rfl)]
      exact Or.inr ⟨rfl, Or.inr ⟨r, by omega, fun j hj => (same j hj).symm, by omega⟩⟩
    · rw [if_neg (by rw [lcode_n (by omega)]; exact ne_m5 (by omega)), if_pos i2]
      by_cases hB1 : er N A d e' r = 1000
      · rw [if_pos (by rw [hB1]; rfl)]
        exact Or.inl ⟨rfl, Or.inr ⟨r, by omega, same, by omega⟩⟩
      · rw [if_neg (by rw [lcode_n (show er N A d e' r < 1000 by omega)]; exact ne_m5 (by omega)), if_pos i2, if_pos i2, lcode_n (show er N A d e' r < 1000 by omega), lcode_n (show er N A d e r < 1000 by omega)]
        by_cases hle : er N A d e' r ≤ er N A d e r
        · rw [if_pos (by rw [le_nI (by omega) (by omega)]; exact hle)]
          exact Or.inr ⟨rfl, Or.inr ⟨r, by omega, fun j hj => (same j hj).symm, by omega⟩⟩
        · rw [if_neg (by rw [le_nI (by omega) (by omega)]; exact hle)]
          exact Or.inl ⟨rfl, Or.inr ⟨r, by omega, same, by omega⟩⟩
theorem X_leg {σ : ST} (hN : NX σ N) (hK : KX σ N) {p q M : Nat} (hp : p < 5 * nR N) (hq : q < 5 * nR N) (hM : M < 1000000000) : ∃ σ', fX1_legLength (nI p) (nI q) (nI M) σ = some (if wayOf N p q / 1000000000 ≤ M then nI (wayOf N p q / 1000000000) else -4, σ') ∧ KX σ' N ∧ Fr PK σ σ' := by
  have hFX : FX = 2000000000 := rfl
  obtain ⟨v, σ', k1, k2, k3, k4, k5⟩ := X_least hN hK hp hq
  have hw := wayOf_eq hN.1 k3
  refine ⟨σ', ?_, k4, k5⟩
  unfold fX1_legLength
  rw [k1]
  simp only [cb, Option.bind_some]
  rw [hw]
  unfold cnv
  by_cases hv : v < FX
  · rw [if_neg (by rw [show (2000000000 : Int32) = nI 2000000000 from rfl, eq_nI (by omega) (by omega)]; omega), if_pos (show v < 2000000000 by omega), show (10000 : Int32) = nI 10000 from rfl, div_nI (by omega) (by decide) (by decide), show (v / 10000 * 1000000000 + v % 10000) / 1000000000 = v / 10000 by omega]
    by_cases h : v / 10000 ≤ M
    · rw [if_pos (by rw [le_nI (by omega) (by omega)]; exact h), if_pos h]
    · rw [if_neg (by rw [le_nI (by omega) (by omega)]; exact h), if_neg h]
  · rw [if_pos (by rw [show (2000000000 : Int32) = nI 2000000000 from rfl, eq_nI (by omega) (by omega)]; omega), if_neg (show ¬ v < 2000000000 by omega), if_neg (by omega)]
end XRows
