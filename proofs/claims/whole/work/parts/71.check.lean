-- pure: check (own work)
section CheckP
variable {N : NET} {A : AS} {d : Nat}
def lo (l : Option Nat) : Int32 := match l with
  | none => -1
  | some e => nI e
def ansv (q : Option (Option Nat × Nat)) : Int32 := match q with
  | none => -4
  | some x => nI x.2
theorem ne_m1 {q : Nat} (h : q < 2147483648) : ¬ nI q = -1 := fun e => nI_nn h (by rw [e]; decide)
theorem ev_stop {S : Nat → List Nat} {of : Nat → Nat → Nat} {lg : Nat → Nat → Nat → Nat → Option Nat} {ls : Nat} {ρ : Nat → Nat} {k : Nat} (h : ev S of lg ls ρ k = none) : ∀ m, ev S of lg ls ρ (k + m) = none := by
  intro m
  induction m with
  | zero => exact h
  | succ m ih =>
    show (ev S of lg ls ρ (k + m)).bind _ = none
    rw [ih]; rfl
theorem X_findSlotL (hA : WFA N A) (hd : d < A 3 0) {σ : ST} (hS : SpX σ N A d (A 4 d)) {s : Nat} (hs : s < A 4 d) (x : Int32) : ∀ (m t n : Nat), t + m = (spL N A d s).length → m < n → (∃ i v, (spL N A d s)[i]? = some v ∧ x = nI v ∧ fX1_findSlot_L2 n (nI s) x (nI t) σ = some (nI (10 * s + i), σ)) ∨ ((∀ i v, t ≤ i → (spL N A d s)[i]? = some v → x ≠ nI v) ∧ fX1_findSlot_L2 n (nI s) x (nI t) σ = some (-1, σ)) := by
  have h20 := (hA.2.1.2 d hd).1
  have hlen := spL_len N A d s
  obtain ⟨s1, s2⟩ := hS s hs
  intro m
  induction m with
  | zero =>
    intro t n ht hn
    obtain ⟨n, rfl⟩ : ∃ m, n = m + 1 := ⟨n - 1, by omega⟩
    refine Or.inr ⟨fun i v hi hv => ?_, ?_⟩
    · rw [List.getElem?_eq_none (by omega)] at hv; cases hv
    · rw [uX1_findSlot_L2]
      unfold fX1_findSlot_B2
      rw [if_pos (ib_nI (show s < 20 by omega) (by decide)), cl_nI (by omega), s1, if_pos (show nI (spL N A d s).length ≤ nI t by rw [le_nI (by omega) (by omega)]; omega)]
  | succ m ih =>
    intro t n ht hn
    obtain ⟨n, rfl⟩ : ∃ m, n = m + 1 := ⟨n - 1, by omega⟩
    obtain ⟨q, hq⟩ : ∃ q, (spL N A d s)[t]? = some q := ⟨_, List.getElem?_eq_some_iff.mpr ⟨by omega, rfl⟩⟩
    obtain ⟨y1, -⟩ := s2 t q hq
    have t1 : nI s * 10 + nI t = nI (10 * s + t) := by rw [show (nI s : Int32) * 10 = nI (10 * s) from by rw [show (10 : Int32) = nI 10 from rfl, pk_mul, Nat.mul_comm], nI_add]
    rw [uX1_findSlot_L2]
    unfold fX1_findSlot_B2
    rw [if_pos (ib_nI (show s < 20 by omega) (by decide)), cl_nI (by omega), s1, if_neg (show ¬ nI (spL N A d s).length ≤ nI t by rw [le_nI (by omega) (by omega)]; omega), t1, if_pos (ib_nI (show 10 * s + t < 200 by omega) (by decide)), cl_nI (by omega), y1]
    by_cases hx : nI q = x
    · rw [if_pos hx]
      exact Or.inl ⟨t, q, hq, hx.symm, rfl⟩
    · rw [if_neg hx]
      simp only [bindv, nI_1]
      rcases ih (t + 1) n (by omega) (by omega) with h | ⟨h1, h2⟩
      · exact Or.inl h
      · refine Or.inr ⟨fun i v hi hv => ?_, h2⟩
        by_cases e : i = t
        · subst e; rw [hq] at hv; cases hv; exact fun z => hx z.symm
        · exact h1 i v (by omega) hv
theorem X_findSlot (hA : WFA N A) (hd : d < A 3 0) {σ : ST} (hS : SpX σ N A d (A 4 d)) {s : Nat} (hs : s < A 4 d) (x : Int32) : (∃ i v, (spL N A d s)[i]? = some v ∧ x = nI v ∧ fX1_findSlot (nI s) x σ = some (nI (10 * s + i), σ)) ∨ ((∀ v, v ∈ spL N A d s → x ≠ nI v) ∧ fX1_findSlot (nI s) x σ = some (-1, σ)) := by
  obtain ⟨f40, hf40⟩ := FU_add 40 (by decide)
  have hlen := spL_len N A d s
  rcases X_findSlotL hA hd hS hs x (spL N A d s).length 0 FU (by omega) (by rw [hf40]; omega) with h | ⟨h1, h2⟩
  · exact Or.inl h
  · refine Or.inr ⟨fun v hv => ?_, h2⟩
    obtain ⟨i, hi⟩ := List.getElem?_of_mem hv
    exact h1 i v (by omega) hi
/-- a row of spots -/
def FitR (N : NET) (A : AS) (d : Nat) (ρ : Nat → Nat) : Prop := ∀ j, j < A 4 d → ρ j = 1000 ∨ ρ j ∈ spL N A d j
theorem slot_fit (hN : WFN N) {s x : Nat} (hx : x < 5 * nR N ∨ x = 1000) : (lcode x = -5 ∨ ∃ v, v ∈ spL N A d s ∧ lcode x = nI v) ↔ (x = 1000 ∨ x ∈ spL N A d s) := by
  have hR := hN.1
  constructor
  · rintro (h | ⟨v, hv, h⟩)
    · refine Or.inl ?_
      rcases hx with z | z
      · rw [lcode_n (by omega)] at h; exact absurd h (ne_m5 (by omega))
      · exact z
    · rcases hx with z | z
      · have := spL_lt hv
        rw [lcode_n (by omega), eq_nI (by omega) (by omega)] at h
        rw [h]; exact Or.inr hv
      · exact Or.inl z
  · rintro (h | h)
    · rw [h]; exact Or.inl rfl
    · have := spL_lt h
      exact Or.inr ⟨x, h, lcode_n (by omega)⟩
theorem X_fitsL (hA : WFA N A) (hd : d < A 3 0) {σ : ST} (hN : WFN N) (hS : SpX σ N A d (A 4 d)) (h15 : σ.1 3 15 = nI (A 4 d)) {ρ : Nat → Nat} (hρ : ∀ j, j < A 4 d → σ.1 5 j = lcode (ρ j) ∧ (ρ j < 5 * nR N ∨ ρ j = 1000)) : ∀ (m t n : Nat), t + m = A 4 d → m < n → ((∀ j, t ≤ j → j < A 4 d → ρ j = 1000 ∨ ρ j ∈ spL N A d j) ∧ fX1_fits_L2 n 5 (nI t) σ = some (1, σ)) ∨ ((¬ ∀ j, t ≤ j → j < A 4 d → ρ j = 1000 ∨ ρ j ∈ spL N A d j) ∧ fX1_fits_L2 n 5 (nI t) σ = some (0, σ)) := by
  have h20 := (hA.2.1.2 d hd).1
  intro m
  induction m with
  | zero =>
    intro t n ht hn
    obtain ⟨n, rfl⟩ : ∃ m, n = m + 1 := ⟨n - 1, by omega⟩
    refine Or.inl ⟨fun j h1 h2 => by omega, ?_⟩
    rw [uX1_fits_L2]
    unfold fX1_fits_B2
    rw [h15, if_pos (show nI (A 4 d) ≤ nI t by rw [le_nI (by omega) (by omega)]; omega)]
  | succ m ih =>
    intro t n ht hn
    obtain ⟨n, rfl⟩ : ∃ m, n = m + 1 := ⟨n - 1, by omega⟩
    obtain ⟨r1, r2⟩ := hρ t (by omega)
    have hsf := slot_fit (A := A) (d := d) (s := t) hN r2
    have hw : isRw σ 5 = true := isRw_c σ (Or.inl rfl)
    rw [uX1_fits_L2]
    unfold fX1_fits_B2 fX1_fits_J32
    rw [h15, if_neg (show ¬ nI (A 4 d) ≤ nI t by rw [le_nI (by omega) (by omega)]; omega)]
    simp only [hw, ib_nI (show t < 20 by omega) (by decide), cl_nI (show t < 2147483648 by omega), Bool.and_self, ↓reduceIte, r1, bindv, nI_1]
    have next : (ρ t = 1000 ∨ ρ t ∈ spL N A d t) → ((∀ j, t ≤ j → j < A 4 d → ρ j = 1000 ∨ ρ j ∈ spL N A d j) ∧ fX1_fits_L2 n 5 (nI (t + 1)) σ = some (1, σ)) ∨ ((¬ ∀ j, t ≤ j → j < A 4 d → ρ j = 1000 ∨ ρ j ∈ spL N A d j) ∧ fX1_fits_L2 n 5 (nI (t + 1)) σ = some (0, σ)) := by
      intro h
      rcases ih (t + 1) n (by omega) (by omega) with ⟨h1, h2⟩ | ⟨h1, h2⟩
      · refine Or.inl ⟨fun j y1 y2 => ?_, h2⟩
        by_cases e : j = t
        · subst e; exact h
        · exact h1 j (by omega) y2
      · exact Or.inr ⟨fun z => h1 (fun j y1 y2 => z j (by omega) y2), h2⟩
    by_cases h5 : lcode (ρ t) = -5
    · rw [if_pos h5]
      exact next (hsf.mp (Or.inl h5))
    · rw [if_neg h5]
      rcases X_findSlot hA hd hS (show t < A 4 d by omega) (lcode (ρ t)) with ⟨i, v, g1, g2, g3⟩ | ⟨g1, g2⟩
      · rw [g3]
        simp only [cb, Option.bind_some]
        have := List.mem_of_getElem? g1
        have hl := (List.getElem?_eq_some_iff.mp g1).1
        have hlen := spL_len N A d t
        rw [if_neg (ne_m1 (by omega))]
        exact next (hsf.mp (Or.inr ⟨v, this, g2⟩))
      · rw [g2]
        simp only [cb, Option.bind_some, ↓reduceIte]
        refine Or.inr ⟨fun z => ?_, trivial⟩
        rcases hsf.mpr (z t (by omega) (by omega)) with y | ⟨v, y1, y2⟩
        · exact h5 y
        · exact g1 v y1 y2
theorem X_ticks {σ : ST} (hA : WFA N A) (hG : GD σ N A d) {e k : Nat} (he : e < k) (hk : k < A 4 d) : fX1_ticksBetween (nI e) (nI k) σ = some (nI (A (30 + d) k - A (30 + d) e), σ) := by
  obtain ⟨-, -, hR, -, hd, h12, -⟩ := hG
  obtain ⟨h20, -, hinc⟩ := hA.2.1.2 d hd
  have z1 := ((hR.2.1.2.2.2 d hd).2 e (by omega)).2.2.1
  have z2 := ((hR.2.1.2.2.2 d hd).2 k (by omega)).2.2.1
  have e3 : 26 + 5 * d + 3 = 29 + 5 * d := by omega
  have hlt := hinc e k he hk
  have W : isRw σ (29 + 5 * d) = true := by rw [← e3]; exact isRw_of hR hd (j := 3) (by omega)
  unfold fX1_ticksBetween
  simp only [bindv, h12, Option.elim, isDr_of hR hd, W, ib_nI (show e < 20 by omega) (by decide), ib_nI (show k < 20 by omega) (by decide), cl_nI (show e < 2147483648 by omega), cl_nI (show k < 2147483648 by omega), Bool.and_self, ↓reduceIte, e3, z1, z2, sub_nI (show A (30 + d) e ≤ A (30 + d) k by omega)]
theorem X_costL (hA : WFA N A) (hd : d < A 3 0) {ρ : Nat → Nat} (hfit : FitR N A d ρ) : ∀ (m k n c : Nat) (l : Option Nat) (σ : ST), k + m = A 4 d → m < n → GD σ N A d → (∀ j, j < A 4 d → σ.1 5 j = lcode (ρ j)) → ev (spL N A d) (ofD N A d) (lgD N A d) (A 5 1) ρ k = some (l, c) → ∃ σ', fX1_costOfRow_L7 n 5 (nI c) (lo l) (nI k) σ = some (ansv (ev (spL N A d) (ofD N A d) (lgD N A d) (A 5 1) ρ (A 4 d)), σ') ∧ GD σ' N A d := by
  obtain ⟨-, ⟨hd6, hdd⟩, ⟨g1, g2, g3, g4⟩, -⟩ := id hA
  obtain ⟨h20, hdx, hinc⟩ := hdd d hd
  intro m
  induction m with
  | zero =>
    intro k n c l σ hk hn hG hr he
    obtain ⟨n, rfl⟩ : ∃ m, n = m + 1 := ⟨n - 1, by omega⟩
    have : k = A 4 d := by omega
    subst this
    refine ⟨σ, ?_, hG⟩
    rw [uX1_costOfRow_L7]
    unfold fX1_costOfRow_B7
    rw [hG.2.2.2.2.2.2.1, if_pos (show nI (A 4 d) ≤ nI (A 4 d) by rw [le_nI (by omega) (by omega)]; omega), he]
    rfl
  | succ m ih =>
    intro k n c l σ hk hn hG hr he
    obtain ⟨n, rfl⟩ : ∃ m, n = m + 1 := ⟨n - 1, by omega⟩
    have hRb := hG.1.1.1
    have hw : isRw σ 5 = true := isRw_c σ (Or.inl rfl)
    rw [uX1_costOfRow_L7]
    unfold fX1_costOfRow_B7 fX1_costOfRow_J98 fX1_costOfRow_J101
    rw [hG.2.2.2.2.2.2.1, if_neg (show ¬ nI (A 4 d) ≤ nI k by rw [le_nI (by omega) (by omega)]; omega)]
    simp only [hw, ib_nI (show k < 20 by omega) (by decide), cl_nI (show k < 2147483648 by omega), Bool.and_self, ↓reduceIte, hr k (by omega), bindv, nI_1]
    by_cases hl : ρ k = 1000
    · rcases X_findSlot hA hd hG.2.2.2.2.2.2.2.1 (show k < A 4 d by omega) (lcode (ρ k)) with ⟨i, v, y1, y2, y3⟩ | ⟨y1, y2⟩
      · exfalso
        have := spL_lt (List.mem_of_getElem? y1)
        rw [hl] at y2
        exact ne_m5 (q := v) (by omega) y2.symm
      · rw [y2]
        simp only [cb, Option.bind_some, ↓reduceIte, hG.2.2.1.2.2.1.2, nI_add]
        exact ih (k + 1) n _ l σ (by omega) (by omega) hG hr (ev_left he hl)
    · have hm : ρ k ∈ spL N A d k := (hfit k (by omega)).resolve_left hl
      have hp := spL_lt hm
      rcases X_findSlot hA hd hG.2.2.2.2.2.2.2.1 (show k < A 4 d by omega) (lcode (ρ k)) with ⟨i, v, y1, y2, y3⟩ | ⟨y1, y2⟩
      · have hv := spL_lt (List.mem_of_getElem? y1)
        have hil := (List.getElem?_eq_some_iff.mp y1).1
        have hlen := spL_len N A d k
        rw [lcode_n (by omega), eq_nI (by omega) (by omega)] at y2
        subst y2
        have o1 := ((hG.2.2.2.2.2.2.2.1 k (by omega)).2 i (ρ k) y1).2
        rw [y3]
        simp only [cb, Option.bind_some]
        rw [if_neg (ne_m1 (by omega)), if_pos (ib_nI (show 10 * k + i < 200 by omega) (by decide)), cl_nI (by omega), o1]
        simp only [nI_add]
        cases l with
        | none =>
          rw [if_pos (show lo none = -1 from rfl)]
          exact ih (k + 1) n _ (some k) σ (by omega) (by omega) hG hr (ev_first he hl hm)
        | some e =>
          obtain ⟨he1, he2, he3, -⟩ := (ev_last he).2 e rfl
          have hpe := spL_lt he3
          rw [if_neg (show ¬ lo (some e) = -1 from ne_m1 (by omega))]
          have hlt := hinc e k he1 (by omega)
          have htk := (hdx k (by omega)).2.2.1
          have hbd : 4 * A 5 0 * (A (30 + d) k - A (30 + d) e) ≤ 400 * 10000 := Nat.mul_le_mul (by omega) (by omega)
          have most : nI (A 5 0) * 4 * nI (A (30 + d) k - A (30 + d) e) = nI (4 * A 5 0 * (A (30 + d) k - A (30 + d) e)) := by
            rw [show nI (A 5 0) * 4 = nI (4 * A 5 0) from by rw [zl4, pk_mul, Nat.mul_comm], pk_mul]
          obtain ⟨σ2, q1, q2, q3⟩ := X_leg hG.1 hG.2.1 hpe hp (M := 4 * A 5 0 * (A (30 + d) k - A (30 + d) e)) (by omega)
          have hG2 : GD σ2 N A d := hG.fr (q3.mono (fun a b z => by omega)) q2
          unfold fX1_longestLeg
          simp only [show lo (some e) = nI e from rfl, ib_nI (show e < 20 by omega) (by decide), cl_nI (show e < 2147483648 by omega), hw, Bool.and_self, hr k (show k < A 4 d by omega), ↓reduceIte, hr e (by omega), X_ticks hA hG he1 (show k < A 4 d by omega), Option.bind_some, hG.2.2.1.2.2.1.1, most, lcode_n (show ρ e < 1000 by omega), lcode_n (show ρ k < 1000 by omega), q1]
          by_cases hle : wayOf N (ρ e) (ρ k) / 1000000000 ≤ 4 * A 5 0 * (A (30 + d) k - A (30 + d) e)
          · have hlg : lgD N A d e (ρ e) k (ρ k) = some (wayOf N (ρ e) (ρ k) / 1000000000 / 4) := if_pos hle
            rw [if_pos hle, if_pos (show (0 : Int32) ≤ nI (wayOf N (ρ e) (ρ k) / 1000000000) by rw [zl0, le_nI (by omega) (by omega)]; omega), zl4, div_nI (by omega) (by decide) (by decide), nI_add, show c + ofD N A d k (ρ k) + wayOf N (ρ e) (ρ k) / 1000000000 / 4 = c + wayOf N (ρ e) (ρ k) / 1000000000 / 4 + ofD N A d k (ρ k) by omega]
            exact ih (k + 1) n _ (some k) σ2 (by omega) (by omega) hG2 (fun j hj => (q3.1 5 j (by omega)).trans (hr j hj)) (ev_next he hl hm hlg)
          · have hlg : lgD N A d e (ρ e) k (ρ k) = none := if_neg hle
            have hno : ev (spL N A d) (ofD N A d) (lgD N A d) (A 5 1) ρ (k + 1) = none := by
              unfold ev; rw [he]; simp [hl, hm, hlg]
            have hno' := ev_stop hno m
            rw [show k + 1 + m = A 4 d by omega] at hno'
            rw [if_neg hle, if_neg (show ¬ (0 : Int32) ≤ -4 by decide), hno']
            exact ⟨σ2, rfl, hG2⟩
      · exact absurd (lcode_n (show ρ k < 1000 by omega)) (y1 _ hm)
theorem M_isSpotL (hA : WFA N A) (hd : d < A 3 0) {σ : ST} (hS : SpM σ N A d (A 4 d)) {s : Nat} (hs : s < A 4 d) (x : Int32) : ∀ (m t n : Nat) (f : Int32), t + m = (spL N A d s).length → m < n → (f = 0 ∨ f = 1) → (fX5_isSpot_L15 n (nI s) x f (nI t) σ = some (1, σ) ∧ (f = 1 ∨ ∃ v, v ∈ spL N A d s ∧ x = nI v)) ∨ (fX5_isSpot_L15 n (nI s) x f (nI t) σ = some (0, σ) ∧ f = 0 ∧ ∀ i v, t ≤ i → (spL N A d s)[i]? = some v → x ≠ nI v) := by
  have h20 := (hA.2.1.2 d hd).1
  have hlen := spL_len N A d s
  obtain ⟨s1, s2⟩ := hS s hs
  intro m
  induction m with
  | zero =>
    intro t n f ht hn hf
    obtain ⟨n, rfl⟩ : ∃ m, n = m + 1 := ⟨n - 1, by omega⟩
    have e : fX5_isSpot_L15 (n + 1) (nI s) x f (nI t) σ = some (f, σ) := by
      rw [uX5_isSpot_L15]
      unfold fX5_isSpot_B15
      rw [if_pos (ib_nI (show s < 20 by omega) (by decide)), cl_nI (by omega), s1, if_pos (show nI (spL N A d s).length ≤ nI t by rw [le_nI (by omega) (by omega)]; omega), if_pos hf]
    rcases hf with hf | hf
    · subst hf
      refine Or.inr ⟨e, rfl, fun i v hi hv => ?_⟩
      rw [List.getElem?_eq_none (by omega)] at hv; cases hv
    · subst hf
      exact Or.inl ⟨e, Or.inl rfl⟩
  | succ m ih =>
    intro t n f ht hn hf
    obtain ⟨n, rfl⟩ : ∃ m, n = m + 1 := ⟨n - 1, by omega⟩
    obtain ⟨q, hq⟩ : ∃ q, (spL N A d s)[t]? = some q := ⟨_, List.getElem?_eq_some_iff.mpr ⟨by omega, rfl⟩⟩
    have y1 := s2 t q hq
    have t1 : (10 : Int32) * nI s + nI t = nI (10 * s + t) := by rw [show (10 : Int32) * nI s = nI (10 * s) from pk_mul 10 _, nI_add]
    rw [uX5_isSpot_L15]
    unfold fX5_isSpot_B15 fX5_isSpot_J46 fX5_isSpot_J51
    rw [if_pos (ib_nI (show s < 20 by omega) (by decide)), cl_nI (by omega), s1, if_neg (show ¬ nI (spL N A d s).length ≤ nI t by rw [le_nI (by omega) (by omega)]; omega)]
    simp only [t1, ib_nI (show 10 * s + t < 200 by omega) (by decide), cl_nI (show 10 * s + t < 2147483648 by omega), ↓reduceIte, y1, bindv, nI_1]
    have yes : (f = 1 ∨ ∃ v, v ∈ spL N A d s ∧ x = nI v) → fX5_isSpot_L15 n (nI s) x 1 (nI (t + 1)) σ = some (1, σ) := fun _ => by
      rcases ih (t + 1) n 1 (by omega) (by omega) (Or.inr rfl) with h | ⟨_, h, _⟩
      · exact h.1
      · exact absurd h (by decide)
    rcases hf with hf | hf
    · subst hf
      rw [if_pos rfl]
      by_cases hx : nI q = x
      · rw [if_pos hx]
        have hv : ∃ v, v ∈ spL N A d s ∧ x = nI v := ⟨q, List.mem_of_getElem? hq, hx.symm⟩
        exact Or.inl ⟨yes (Or.inr hv), Or.inr hv⟩
      · rw [if_neg hx]
        rcases ih (t + 1) n 0 (by omega) (by omega) (Or.inl rfl) with h | ⟨h1, h2, h3⟩
        · exact Or.inl h
        · refine Or.inr ⟨h1, rfl, fun i v hi hv => ?_⟩
          by_cases e : i = t
          · subst e; rw [hq] at hv; cases hv; exact fun z => hx z.symm
          · exact h3 i v (by omega) hv
    · subst hf
      rw [if_neg (show ¬ (1 : Int32) = 0 by decide)]
      exact Or.inl ⟨yes (Or.inl rfl), Or.inl rfl⟩
theorem M_isSpot (hA : WFA N A) (hd : d < A 3 0) {σ : ST} (hS : SpM σ N A d (A 4 d)) {s : Nat} (hs : s < A 4 d) (x : Int32) : ((x = -5 ∨ ∃ v, v ∈ spL N A d s ∧ x = nI v) ∧ fX5_isSpot (nI s) x σ = some (1, σ)) ∨ ((¬ (x = -5 ∨ ∃ v, v ∈ spL N A d s ∧ x = nI v)) ∧ fX5_isSpot (nI s) x σ = some (0, σ)) := by
  obtain ⟨f40, hf40⟩ := FU_add 40 (by decide)
  have hlen := spL_len N A d s
  unfold fX5_isSpot fX5_isSpot_J11
  by_cases h5 : x = -5
  · rw [if_pos h5]
    rcases M_isSpotL hA hd hS hs x (spL N A d s).length 0 FU 1 (by omega) (by rw [hf40]; omega) (Or.inr rfl) with ⟨h, _⟩ | ⟨_, h, _⟩
    · exact Or.inl ⟨Or.inl h5, h⟩
    · exact absurd h (by decide)
  · rw [if_neg h5]
    rcases M_isSpotL hA hd hS hs x (spL N A d s).length 0 FU 0 (by omega) (by rw [hf40]; omega) (Or.inl rfl) with ⟨h, h'⟩ | ⟨h, _, h'⟩
    · exact Or.inl ⟨Or.inr (h'.resolve_left (by decide)), h⟩
    · refine Or.inr ⟨?_, h⟩
      rintro (z | ⟨v, z1, z2⟩)
      · exact h5 z
      · obtain ⟨i, hi⟩ := List.getElem?_of_mem z1
        exact h' i v (by omega) hi z2
theorem M_fitL (hA : WFA N A) (hd : d < A 3 0) {σ : ST} (hN : WFN N) (hS : SpM σ N A d (A 4 d)) {ρ : Nat → Nat} (hρ : ∀ j, j < A 4 d → σ.1 14 j = lcode (ρ j) ∧ (ρ j < 5 * nR N ∨ ρ j = 1000)) : ∀ (m t n : Nat), t + m = A 4 d → m < n → ((∀ j, t ≤ j → j < A 4 d → ρ j = 1000 ∨ ρ j ∈ spL N A d j) ∧ fX5_check_L48 n (nI d) (nI (A 4 d)) 1 (nI t) σ = fX5_check_J78 (nI d) (nI (A 4 d)) 1 σ) ∨ ((¬ ∀ j, t ≤ j → j < A 4 d → ρ j = 1000 ∨ ρ j ∈ spL N A d j) ∧ fX5_check_L48 n (nI d) (nI (A 4 d)) 1 (nI t) σ = fX5_check_J78 (nI d) (nI (A 4 d)) 0 σ) := by
  have h20 := (hA.2.1.2 d hd).1
  intro m
  induction m with
  | zero =>
    intro t n ht hn
    obtain ⟨n, rfl⟩ : ∃ m, n = m + 1 := ⟨n - 1, by omega⟩
    refine Or.inl ⟨fun j h1 h2 => by omega, ?_⟩
    rw [uX5_check_L48]
    unfold fX5_check_B48
    rw [if_pos (show nI (A 4 d) ≤ nI t by rw [le_nI (by omega) (by omega)]; omega)]
  | succ m ih =>
    intro t n ht hn
    obtain ⟨n, rfl⟩ : ∃ m, n = m + 1 := ⟨n - 1, by omega⟩
    obtain ⟨r1, r2⟩ := hρ t (by omega)
    have hsf := slot_fit (A := A) (d := d) (s := t) hN r2
    rw [uX5_check_L48]
    unfold fX5_check_B48
    rw [if_neg (show ¬ nI (A 4 d) ≤ nI t by rw [le_nI (by omega) (by omega)]; omega), if_neg (show ¬ (1 : Int32) = 0 by decide), if_pos (ib_nI (show t < 20 by omega) (by decide)), cl_nI (by omega), r1]
    rcases M_isSpot hA hd hS (show t < A 4 d by omega) (lcode (ρ t)) with ⟨h1, h2⟩ | ⟨h1, h2⟩
    · rw [h2]
      simp only [cb, Option.bind_some, bindv, nI_1]
      have h := hsf.mp h1
      rcases ih (t + 1) n (by omega) (by omega) with ⟨h1, h2⟩ | ⟨h1, h2⟩
      · refine Or.inl ⟨fun j y1 y2 => ?_, h2⟩
        by_cases e : j = t
        · subst e; exact h
        · exact h1 j (by omega) y2
      · exact Or.inr ⟨fun z => h1 (fun j y1 y2 => z j (by omega) y2), h2⟩
    · rw [h2]
      simp only [cb, Option.bind_some, bindv, nI_1]
      refine Or.inr ⟨fun z => h1 (hsf.mpr (z t (by omega) (by omega))), ?_⟩
      obtain ⟨n, rfl⟩ : ∃ m, n = m + 1 := ⟨n - 1, by omega⟩
      rw [uX5_check_L48]
      unfold fX5_check_B48
      by_cases hle : nI (A 4 d) ≤ nI (t + 1)
      · rw [if_pos hle]
      · rw [if_neg hle, if_pos rfl]
theorem M_costL (hA : WFA N A) (hd : d < A 3 0) {ρ : Nat → Nat} (hfit : FitR N A d ρ) {σ : ST} (hB : MB σ N A d) (hr : ∀ j, j < A 4 d → σ.1 14 j = lcode (ρ j)) : ∀ (m k n c : Nat) (l : Option Nat), k + m = A 4 d → m < n → ev (spL N A d) (ofD N A d) (lgD N A d) (A 5 1) ρ k = some (l, c) → fX5_check_L94 n (nI d) (nI (A 4 d)) (nI c) (lo l) (nI k) σ = some (ansv (ev (spL N A d) (ofD N A d) (lgD N A d) (A 5 1) ρ (A 4 d)), σ) := by
  obtain ⟨-, ⟨hd6, hdd⟩, ⟨g1, g2, g3, g4⟩, -⟩ := id hA
  obtain ⟨h20, hdx, hinc⟩ := hdd d hd
  intro m
  induction m with
  | zero =>
    intro k n c l hk hn he
    obtain ⟨n, rfl⟩ : ∃ m, n = m + 1 := ⟨n - 1, by omega⟩
    have : k = A 4 d := by omega
    subst this
    rw [uX5_check_L94]
    unfold fX5_check_B94
    rw [if_pos (show nI (A 4 d) ≤ nI (A 4 d) by rw [le_nI (by omega) (by omega)]; omega), he]
    rfl
  | succ m ih =>
    intro k n c l hk hn he
    obtain ⟨n, rfl⟩ : ∃ m, n = m + 1 := ⟨n - 1, by omega⟩
    have hRb := hB.1.1.1
    rw [uX5_check_L94]
    unfold fX5_check_B94 fX5_check_J155 fX5_check_J193
    rw [if_neg (show ¬ nI (A 4 d) ≤ nI k by rw [le_nI (by omega) (by omega)]; omega)]
    simp only [ib_nI (show k < 20 by omega) (by decide), cl_nI (show k < 2147483648 by omega), ↓reduceIte, hr k (by omega), bindv, nI_1]
    by_cases hl : ρ k = 1000
    · rw [if_pos (show lcode (ρ k) = -5 by rw [hl]; rfl), hB.2.1.2.2.1.2, nI_add]
      exact ih (k + 1) n _ l (by omega) (by omega) (ev_left he hl)
    · have hm : ρ k ∈ spL N A d k := (hfit k (by omega)).resolve_left hl
      have hp := spL_lt hm
      have hlc : lcode (ρ k) = nI (ρ k) := lcode_n (by omega)
      simp only [hlc]
      rw [if_neg (ne_m5 (by omega))]
      have ho := M_offOf hB.1 hA hB.2.1 hd (show k < A 4 d by omega) hp
      cases l with
      | none =>
        rw [if_neg (show ¬ (0 : Int32) ≤ lo none by decide), if_pos (show (0 : Int32) < 1000000000 by decide), ho]
        simp only [cb, Option.bind_some]
        rw [zl0, nI_add, nI_add, Nat.zero_add]
        exact ih (k + 1) n _ (some k) (by omega) (by omega) (ev_first he hl hm)
      | some e =>
        obtain ⟨he1, he2, he3, -⟩ := (ev_last he).2 e rfl
        have hpe := spL_lt he3
        rw [if_pos (show (0 : Int32) ≤ lo (some e) from by rw [show lo (some e) = nI e from rfl, zl0, le_nI (by omega) (by omega)]; omega)]
        simp only [show lo (some e) = nI e from rfl, ib_nI (show e < 20 by omega) (by decide), cl_nI (show e < 2147483648 by omega), ↓reduceIte, hr e (by omega), lcode_n (show ρ e < 1000 by omega), hr k (show k < A 4 d by omega), hlc, M_step hA hd hB he1 (show k < A 4 d by omega) hpe hp, cb, Option.bind_some]
        cases hlg : lgD N A d e (ρ e) k (ρ k) with
        | none =>
          have hno : ev (spL N A d) (ofD N A d) (lgD N A d) (A 5 1) ρ (k + 1) = none := by
            unfold ev; rw [he]; simp [hl, hm, hlg]
          have hno' := ev_stop hno m
          rw [show k + 1 + m = A 4 d by omega] at hno'
          rw [hno', if_neg (show ¬ nI ((none : Option Nat).getD 1000000000) < 1000000000 by decide)]
          rfl
        | some x =>
          have hx := lgD_bd hA hd (show k < A 4 d by omega) hlg
          rw [if_pos (show nI ((some x).getD 1000000000) < 1000000000 by rw [show (1000000000 : Int32) = nI 1000000000 from rfl, show (some x).getD 1000000000 = x from rfl, lt_nI (by omega) (by omega)]; omega), ho]
          simp only [Option.bind_some, show (some x).getD 1000000000 = x from rfl, nI_add]
          rw [show c + (x + ofD N A d k (ρ k)) = c + x + ofD N A d k (ρ k) by omega]
          exact ih (k + 1) n _ (some k) (by omega) (by omega) (ev_next he hl hm hlg)
theorem st_check (a : Int32) : Step InvW (fX4_check a) (fX5_check a) := by
  rintro σX σM ⟨N, A, hA, hX, hM⟩
  have hI : InvW σX σM := ⟨N, A, hA, hX, hM⟩
  obtain ⟨w1, w2, w3, w4⟩ := WFA_iff.mp hA
  obtain ⟨r1, r2, r3, r4⟩ := RX_iff.mp hX.2.2.1
  obtain ⟨m1, m2, m3, m4⟩ := RM_iff.mp hM.2.2.1
  have h6 := w2.1
  unfold fX4_check fX5_check
  rcases drive_cases hA hX.2.2.1 hM.2.2.1 a with ⟨d, hd, e, h1, h2⟩ | ⟨h1, h2⟩
  · subst e
    have D := isDr_of hX.2.2.1 hd
    have h20 := (w2.2 d hd).1
    have hls := w4.1
    rw [h1, h2]
    simp only [cb, Option.bind_some, Option.elim, bindv, isDr_st, D, ↓reduceIte, r4.1, m4.1]
    rw [if_neg (show ¬ (1 : Int32) = 0 by decide)]
    have hrow : ∀ a, a ≠ 6 → aup A 6 0 0 a = A a := fun a h => au_row _ h
    have e6 : aup A 6 0 0 6 0 = 0 := au_at _ _ _ _
    generalize aup A 6 0 0 = A' at hrow e6
    have e4 : A' 4 d = A 4 d := by rw [hrow 4 (by omega)]
    have e3 : A' 3 0 = A 3 0 := by rw [hrow 3 (by omega)]
    have hA' : WFA N A' := WFA_iff.mpr ⟨w1.of (fun a ha => hrow a (by omega)), w2.of (fun a ha => hrow a (by omega)), w3.of (hrow 5 (by omega)), by omega, fun i hi => by omega⟩
    have hFX : Fr (fun a b => a = 0 ∧ b = 6) σX (stI σX 0 6 0) := Fr.rf.st ⟨rfl, rfl⟩
    have hFM : Fr (fun a b => a = 0 ∧ b = 19) σM (stI σM 0 19 0) := Fr.rf.st ⟨rfl, rfl⟩
    have hX' : GX (stI σX 0 6 0) N A' := hX.up hA' hFX.1 (fun a b z => by omega) rfl (RX_iff.mpr ⟨r1.of (fun a b z => hFX.1 a b (by omega)) (fun a ha => hrow a (by omega)), r2.of (fun a b z => hFX.1 a b (by omega)) (fun _ => rfl) rfl (fun a ha => hrow a (by omega)), r3.of (fun b hb => hFX.1 3 b (by omega)) (hrow 5 (by omega)), by rw [e6]; exact st_at _ _ _ _, fun i hi => by omega⟩) (by omega) (fun d' hd' => ⟨fun r hr => by rw [hrow 1 (by omega), hrow 2 (by omega)]; exact ⟨rfl, rfl, rfl, rfl⟩, by rw [hrow 4 (by omega)], fun a ha => hrow a (by omega), hrow 5 (by omega)⟩)
    have hM' : GM (stI σM 0 19 0) N A' := hM.up hFM (fun a b z => by omega) (RM_iff.mpr ⟨m1.of (fun a b z => hFM.1 a b (by omega)) (fun a ha => hrow a (by omega)), m2.of (fun a b z => hFM.1 a b (by omega)) (fun a ha => hrow a (by omega)), m3.of (fun b hb => hFM.1 0 b (by omega)) (hrow 5 (by omega)), by rw [e6]; exact st_at _ _ _ _, fun i hi => by omega⟩)
    have hd' : d < A' 3 0 := by omega
    obtain ⟨σ1, σ2, q1, q2, q3, q4, q5⟩ := M_ready hA' hM' hd'
    have e13 := q3.2.1.2.1.2.1 d (by omega)
    rw [if_pos hd', e4] at e13
    have xs : (stI σX 0 6 0).1 (26 + 5 * d) 0 = nI (A 4 d) := (hFX.1 _ _ (by omega)).trans (r2.2.2.2 d hd).1
    obtain ⟨f40, hf40⟩ := FU_add 40 (by decide)
    rw [q1]
    simp only [Option.bind_some, q2, ib_nI (show d < 6 by omega) (by decide), cl_nI (show d < 2147483648 by omega), ↓reduceIte, e13, xs]
    by_cases hn : A 6 0 = A 4 d
    · rw [hn, if_pos rfl, if_pos rfl]
      obtain ⟨σ3, p1, p2, p3⟩ := X_gather hA' hd' hX'
      have hrX : ∀ j, j < A' 4 d → σ3.1 5 j = lcode (A 7 j) ∧ (A 7 j < 5 * nR N ∨ A 7 j = 1000) := fun j hj => by
        rw [e4] at hj
        refine ⟨?_, w4.2 j (by omega)⟩
        rw [p3 5 j (Or.inl rfl), hFX.1 5 j (by omega)]; exact r4.2 j (by omega)
      have hrM : ∀ j, j < A' 4 d → σ2.1 14 j = lcode (A 7 j) ∧ (A 7 j < 5 * nR N ∨ A 7 j = 1000) := fun j hj => by
        rw [e4] at hj
        refine ⟨?_, w4.2 j (by omega)⟩
        rw [q5.1 14 j (by omega), hFM.1 14 j (by omega)]; exact m4.2 j (by omega)
      have fx := X_fitsL hA' hd' hX.1.1 p2.2.2.2.2.2.2.2.1 p2.2.2.2.2.2.2.1 hrX (A' 4 d) 0 FU (by omega) (by rw [hf40]; omega)
      have fm := M_fitL hA' hd' hX.1.1 q3.2.2.2.1 hrM (A' 4 d) 0 FU (by omega) (by rw [hf40]; omega)
      rw [p1]
      simp only [Option.bind_some]
      unfold fX5_check_J44 fX1_fits
      rw [← e4, zl0]
      rcases fx with ⟨y1, y2⟩ | ⟨y1, y2⟩
      · rcases fm with ⟨z1, z2⟩ | ⟨z1, z2⟩
        · have hfit : FitR N A' d (A 7) := fun j hj => y1 j (by omega) hj
          obtain ⟨σ4, c1, c2⟩ := X_costL hA' hd' hfit (A' 4 d) 0 FU 0 none σ3 (by omega) (by rw [hf40]; omega) p2 (fun j hj => (hrX j hj).1) rfl
          have c3 := M_costL hA' hd' hfit q3 (fun j hj => (hrM j hj).1) (A' 4 d) 0 FU 0 none (by omega) (by rw [hf40]; omega) rfl
          have c1' : fX1_costOfRow 5 σ3 = _ := c1
          rw [y2, z2]
          simp only [Option.bind_some]
          rw [if_neg (show ¬ (1 : Int32) = nI 0 by decide), c1']
          simp only [Option.bind_some]
          unfold fX5_check_J78
          rw [if_neg (show ¬ (1 : Int32) = 0 by decide)]
          exact ⟨_, _, _, rfl, c3, N, A', hA', c2.gx, q4⟩
        · exact absurd y1 z1
      · rcases fm with ⟨z1, z2⟩ | ⟨z1, z2⟩
        · exact absurd z1 y1
        · rw [y2, z2]
          simp only [Option.bind_some]
          unfold fX5_check_J78
          rw [if_pos (show (0 : Int32) = nI 0 from rfl), if_pos rfl]
          exact ⟨_, _, _, rfl, rfl, N, A', hA', p2.gx, q4⟩
    · have hne : ¬ nI (A 6 0) = nI (A 4 d) := by rw [eq_nI (by omega) (by omega)]; exact hn
      rw [if_neg hne, if_neg hne]
      have : fX5_check_J44 (nI d) (nI (A 6 0)) 0 σ2 = some (-3, σ2) := by
        unfold fX5_check_J44
        rw [hf40, uX5_check_L48]
        unfold fX5_check_B48 fX5_check_J78
        by_cases hle : nI (A 6 0) ≤ 0
        · rw [if_pos hle, if_pos rfl]
        · rw [if_neg hle, if_pos rfl, if_pos rfl]
      exact ⟨_, _, _, rfl, this, N, A', hA', hX', q4⟩
  · rw [h1, h2]
    simp only [cb, Option.bind_some, Option.elim, ↓reduceIte]
    exact ⟨_, _, _, rfl, rfl, hI⟩
end CheckP
