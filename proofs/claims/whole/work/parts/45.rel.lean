-- pure: the abstract state, and how either side holds it (own work)
abbrev AS : Type := Nat → Nat → Nat
def lcode (x : Nat) : Int32 := if x = 1000 then -5 else nI x
def WFA (N : NET) (A : AS) : Prop :=
  (A 0 0 ≤ 16 ∧ (∀ i, i < A 0 0 → A 1 i < 100 ∧ A 2 i < 100) ∧ ∀ r, r < nR N → nfr N r < A 0 0 ∧ nto N r < A 0 0) ∧
  (A 3 0 ≤ 6 ∧ ∀ d, d < A 3 0 → A 4 d ≤ 20 ∧ (∀ i, i < A 4 d → A (10 + d) i < 100 ∧ A (20 + d) i < 100 ∧ A (30 + d) i ≤ 10000 ∧ A (40 + d) i ≤ 60) ∧ ∀ i j, i < j → j < A 4 d → A (30 + d) i < A (30 + d) j) ∧
  (1 ≤ A 5 0 ∧ A 5 0 ≤ 100 ∧ 1 ≤ A 5 1 ∧ A 5 1 ≤ 9999) ∧ A 6 0 ≤ 20 ∧ ∀ i, i < A 6 0 → A 7 i < 5 * nR N ∨ A 7 i = 1000
/-- the reference's own state -/
def RM (σ : ST) (A : AS) : Prop :=
  (σ.1 0 2 = nI (A 0 0) ∧ ∀ i, i < A 0 0 → σ.1 1 i = nI (A 1 i) ∧ σ.1 2 i = nI (A 2 i)) ∧
  (σ.1 0 15 = nI (A 3 0) ∧ (∀ d, d < 6 → σ.1 13 d = nI (if d < A 3 0 then A 4 d else 0)) ∧ ∀ d, d < A 3 0 → ∀ i, i < A 4 d → σ.1 9 (20 * d + i) = nI (A (10 + d) i) ∧ σ.1 10 (20 * d + i) = nI (A (20 + d) i) ∧ σ.1 11 (20 * d + i) = nI (A (30 + d) i) ∧ σ.1 12 (20 * d + i) = nI (A (40 + d) i)) ∧
  (σ.1 0 16 = nI (A 5 0) ∧ σ.1 0 17 = nI (A 5 1)) ∧ σ.1 0 19 = nI (A 6 0) ∧ ∀ i, i < A 6 0 → σ.1 14 i = lcode (A 7 i)
/-- the class's own state -/
def RX (σ : ST) (A : AS) : Prop :=
  (σ.1 1 0 = nI (A 0 0) ∧ ∀ i, i < A 0 0 → σ.1 7 i = nI (A 1 i) ∧ σ.1 8 i = nI (A 2 i)) ∧
  (σ.1 0 4 = nI (A 3 0) ∧ σ.2.2 = A 3 0 ∧ (∀ d, σ.2.1 4 d = if d < A 3 0 then some (26 + 5 * d) else none) ∧ ∀ d, d < A 3 0 → σ.1 (26 + 5 * d) 0 = nI (A 4 d) ∧ ∀ i, i < A 4 d → σ.1 (27 + 5 * d) i = nI (A (10 + d) i) ∧ σ.1 (28 + 5 * d) i = nI (A (20 + d) i) ∧ σ.1 (29 + 5 * d) i = nI (A (30 + d) i) ∧ σ.1 (30 + 5 * d) i = nI (A (40 + d) i)) ∧
  (σ.1 3 0 = nI (A 5 0) ∧ σ.1 3 1 = nI (A 5 1)) ∧ σ.1 0 6 = nI (A 6 0) ∧ ∀ i, i < A 6 0 → σ.1 5 i = lcode (A 7 i)
theorem X_within (a l m : Int32) (σ : ST) : fX4_isWithin a l m σ = some (if l ≤ a ∧ a ≤ m then 1 else 0, σ) := by
  unfold fX4_isWithin
  by_cases h1 : a < l
  · rw [if_pos h1, if_neg (fun z => by rw [Int32.lt_iff_toInt_lt] at h1; rw [Int32.le_iff_toInt_le] at z; omega)]
  · rw [if_neg h1]
    by_cases h2 : m < a
    · rw [if_pos h2, if_neg (fun z => by rw [Int32.lt_iff_toInt_lt] at h2; rw [Int32.le_iff_toInt_le, Int32.le_iff_toInt_le] at z; omega)]
    · rw [if_neg h2, if_pos (by rw [Int32.lt_iff_toInt_lt] at h1 h2; rw [Int32.le_iff_toInt_le, Int32.le_iff_toInt_le]; omega)]
theorem M_within (a l m : Int32) (σ : ST) : fX5_within a l m σ = some (if l ≤ a ∧ a ≤ m then 1 else 0, σ) := X_within a l m σ
theorem num_of {a : Int32} {l m : Nat} (hl : l < 2147483648) (hm : m < 2147483648) (h : nI l ≤ a ∧ a ≤ nI m) : ∃ n, l ≤ n ∧ n ≤ m ∧ a = nI n := by
  have h2 : a.toInt ≤ (nI m).toInt := Int32.le_iff_toInt_le.mp h.2
  have h1 : (nI l).toInt ≤ a.toInt := Int32.le_iff_toInt_le.mp h.1
  rw [nI_toInt hm] at h2
  rw [nI_toInt hl] at h1
  refine ⟨a.toInt.toNat, by omega, by omega, ?_⟩
  apply Int32.toInt_inj.mp
  rw [nI_toInt (by omega)]
  omega
theorem idx_of {a : Int32} {n : Nat} (hn : n < 2147483648) (h1 : ¬ a < 0) (h2 : ¬ nI n ≤ a) : ∃ j, j < n ∧ a = nI j := by
  rw [Int32.lt_iff_toInt_lt] at h1
  rw [Int32.le_iff_toInt_le, nI_toInt hn] at h2
  have : (0 : Int32).toInt = 0 := rfl
  refine ⟨a.toInt.toNat, by omega, ?_⟩
  apply Int32.toInt_inj.mp
  rw [nI_toInt (by omega)]
  omega
theorem nI_nn {j : Nat} (h : j < 2147483648) : ¬ nI j < 0 := nI_pos h
/-- a number in range, or not: 1 and a natural number, or 0 -/
theorem range_of (a : Int32) {x : Int32} {n : Nat} (hx : x = nI n) (hn : n < 2147483648) (σ : ST) : ((∃ j, j < n ∧ a = nI j) ∧ (if a < 0 then some ((0 : Int32), σ) else if x ≤ a then some (0, σ) else some (1, σ)) = some (1, σ)) ∨ ((¬ ∃ j, j < n ∧ a = nI j) ∧ (if a < 0 then some ((0 : Int32), σ) else if x ≤ a then some (0, σ) else some (1, σ)) = some (0, σ)) := by
  subst hx
  by_cases h1 : a < 0
  · refine Or.inr ⟨fun ⟨j, hj, e⟩ => nI_nn (j := j) (by omega) (by rw [← e]; exact h1), by rw [if_pos h1]⟩
  · by_cases h2 : nI n ≤ a
    · refine Or.inr ⟨fun ⟨j, hj, e⟩ => ?_, by rw [if_neg h1, if_pos h2]⟩
      rw [e, le_nI hn (by omega)] at h2; omega
    · exact Or.inl ⟨idx_of hn h1 h2, by rw [if_neg h1, if_neg h2]⟩
theorem X_hasPoint {σ : ST} {N : NET} (hN : NX σ N) (a : Int32) : ((∃ p, p < 5 * nR N ∧ a = nI p) ∧ fX2_hasPoint a σ = some (1, σ)) ∨ ((¬ ∃ p, p < 5 * nR N ∧ a = nI p) ∧ fX2_hasPoint a σ = some (0, σ)) := range_of a (by rw [hN.2.1]; exact pk_mul 5 _) (by have := hN.1.1; omega) σ
theorem M_isPoint {σ : ST} {N : NET} (hN : NM σ N) (a : Int32) : ((∃ p, p < 5 * nR N ∧ a = nI p) ∧ fX5_isPoint a σ = some (1, σ)) ∨ ((¬ ∃ p, p < 5 * nR N ∧ a = nI p) ∧ fX5_isPoint a σ = some (0, σ)) := range_of a (by rw [hN.2.1]; exact pk_mul 5 _) (by have := hN.1.1; omega) σ
theorem X_hasRoad {σ : ST} {N : NET} (hN : NX σ N) (a : Int32) : ((∃ p, p < nR N ∧ a = nI p) ∧ fX2_hasRoad a σ = some (1, σ)) ∨ ((¬ ∃ p, p < nR N ∧ a = nI p) ∧ fX2_hasRoad a σ = some (0, σ)) := range_of a hN.2.1 (by have := hN.1.1; omega) σ
theorem M_isRoad {σ : ST} {N : NET} (hN : NM σ N) (a : Int32) : ((∃ p, p < nR N ∧ a = nI p) ∧ fX5_isRoad a σ = some (1, σ)) ∨ ((¬ ∃ p, p < nR N ∧ a = nI p) ∧ fX5_isRoad a σ = some (0, σ)) := range_of a hN.2.1 (by have := hN.1.1; omega) σ
/-- way and fees, on either side -/
theorem X_way {σ : ST} {N : NET} (hN : NX σ N) (hK : KX σ N) (a b : Int32) : ∃ σ', KX σ' N ∧ Fr PK σ σ' ∧ ((∃ p q, p < 5 * nR N ∧ q < 5 * nR N ∧ a = nI p ∧ b = nI q ∧ WaySpec N p q (wayOf N p q) ∧ fX4_way a b σ = some (if wayOf N p q < INF then nI (wayOf N p q / 1000000000) else -4, σ') ∧ fX4_fees a b σ = some (if wayOf N p q < INF then nI (wayOf N p q % 1000000000) else -4, σ')) ∨ ((¬ ∃ p q, p < 5 * nR N ∧ q < 5 * nR N ∧ a = nI p ∧ b = nI q) ∧ fX4_way a b σ = some (-1, σ') ∧ fX4_fees a b σ = some (-1, σ'))) := by
  have hFX : FX = 2000000000 := rfl
  unfold fX4_way fX4_fees
  rcases X_hasPoint hN a with ⟨⟨p, hp, e1⟩, h1⟩ | ⟨hno, h1⟩
  · rcases X_hasPoint hN b with ⟨⟨q, hq, e2⟩, h2⟩ | ⟨hno, h2⟩
    · obtain ⟨v, σ', k1, k2, k3, k4, k5⟩ := X_least hN hK hp hq
      have hw := wayOf_eq hN.1 k3
      refine ⟨σ', k4, k5, Or.inl ⟨p, q, hp, hq, e1, e2, by rw [hw]; exact k3, ?_, ?_⟩⟩
      · rw [h1, hw]
        simp only [cb, Option.bind_some]
        rw [if_neg (by decide), h2]
        simp only [Option.bind_some]
        rw [if_neg (by decide), e1, e2, k1]
        simp only [Option.bind_some]
        by_cases hv : v < FX
        · rw [if_neg (by rw [show (2000000000 : Int32) = nI 2000000000 from rfl, eq_nI (by omega) (by omega)]; omega), if_pos (cnv_fin.mpr hv), show (10000 : Int32) = nI 10000 from rfl, div_nI (by omega) (by decide) (by decide)]
          unfold cnv
          rw [if_pos (show v < 2000000000 by omega)]
          congr 3; omega
        · rw [if_pos (by rw [show (2000000000 : Int32) = nI 2000000000 from rfl, eq_nI (by omega) (by omega)]; omega), if_neg (fun z => hv (cnv_fin.mp z))]
      · rw [h1, hw]
        simp only [cb, Option.bind_some]
        rw [if_neg (by decide), h2]
        simp only [Option.bind_some]
        rw [if_neg (by decide), e1, e2, k1]
        simp only [Option.bind_some]
        by_cases hv : v < FX
        · rw [if_neg (by rw [show (2000000000 : Int32) = nI 2000000000 from rfl, eq_nI (by omega) (by omega)]; omega), if_pos (cnv_fin.mpr hv), show (10000 : Int32) = nI 10000 from rfl, rem_nI (by omega) (by decide) (by decide)]
          unfold cnv
          rw [if_pos (show v < 2000000000 by omega)]
          congr 3; omega
        · rw [if_pos (by rw [show (2000000000 : Int32) = nI 2000000000 from rfl, eq_nI (by omega) (by omega)]; omega), if_neg (fun z => hv (cnv_fin.mp z))]
    · refine ⟨σ, hK, Fr.rf, Or.inr ⟨fun ⟨p', q', _, hq', _, e⟩ => hno ⟨q', hq', e⟩, ?_, ?_⟩⟩ <;>
      · rw [h1]
        simp only [cb, Option.bind_some]
        rw [if_neg (by decide), h2]
        simp only [Option.bind_some]
        rw [if_pos trivial]
  · refine ⟨σ, hK, Fr.rf, Or.inr ⟨fun ⟨p', q', hp', _, e, _⟩ => hno ⟨p', hp', e⟩, ?_, ?_⟩⟩ <;>
    · rw [h1]
      simp only [cb, Option.bind_some]
      rw [if_pos trivial]
theorem M_way {σ : ST} {N : NET} (hN : NM σ N) (hC : CWM σ N) (a b : Int32) : ∃ σ', CWM σ' N ∧ Fr PW σ σ' ∧ ((∃ p q, p < 5 * nR N ∧ q < 5 * nR N ∧ a = nI p ∧ b = nI q ∧ fX5_way a b σ = some (if wayOf N p q < INF then nI (wayOf N p q / 1000000000) else -4, σ') ∧ fX5_fees a b σ = some (if wayOf N p q < INF then nI (wayOf N p q % 1000000000) else -4, σ')) ∨ ((¬ ∃ p q, p < 5 * nR N ∧ q < 5 * nR N ∧ a = nI p ∧ b = nI q) ∧ fX5_way a b σ = some (-1, σ') ∧ fX5_fees a b σ = some (-1, σ'))) := by
  have hR := hN.1.1
  have hINF : INF = 1000000000000000000 := rfl
  unfold fX5_way fX5_fees
  rcases M_isPoint hN a with ⟨⟨p, hp, e1⟩, h1⟩ | ⟨hno, h1⟩
  · rcases M_isPoint hN b with ⟨⟨q, hq, e2⟩, h2⟩ | ⟨hno, h2⟩
    · obtain ⟨σ', k1, k2, k3, k4⟩ := M_findWays hN hC
      obtain ⟨-, g1, g2, g3⟩ := k2 p q hp hq
      have hi : ib (nI (150 * p + q)) 22500 = true := ib_nI (by omega) (by decide)
      have hc : (nI (150 * p + q)).toNatClampNeg = 150 * p + q := cl_nI (by omega)
      have hx : (150 : Int32) * nI p + nI q = nI (150 * p + q) := by rw [show (150 : Int32) * nI p = nI (150 * p) from pk_mul 150 p, nI_add]
      refine ⟨σ', Or.inr ⟨k3, k2⟩, k4, Or.inl ⟨p, q, hp, hq, e1, e2, ?_, ?_⟩⟩
      · rw [h1]
        simp only [cb, Option.bind_some]
        rw [if_neg (by decide), h2]
        simp only [Option.bind_some]
        rw [if_neg (by decide), e1, e2, k1]
        simp only [Option.bind_some, hx, hi, hc, ↓reduceIte, bindv, g1]
        by_cases hv : wayOf N p q < INF
        · rw [if_neg (by rw [show (1000000000 : Int32) = nI 1000000000 from rfl, le_nI (by omega) (by omega)]; omega), if_pos hv]
        · rw [if_pos (by rw [show (1000000000 : Int32) = nI 1000000000 from rfl, le_nI (by omega) (by omega)]; omega), if_neg hv]
      · rw [h1]
        simp only [cb, Option.bind_some]
        rw [if_neg (by decide), h2]
        simp only [Option.bind_some]
        rw [if_neg (by decide), e1, e2, k1]
        simp only [Option.bind_some, hx, hi, hc, ↓reduceIte, g1, g2]
        by_cases hv : wayOf N p q < INF
        · rw [if_neg (by rw [show (1000000000 : Int32) = nI 1000000000 from rfl, le_nI (by omega) (by omega)]; omega), if_pos hv]
        · rw [if_pos (by rw [show (1000000000 : Int32) = nI 1000000000 from rfl, le_nI (by omega) (by omega)]; omega), if_neg hv]
    · refine ⟨σ, hC, Fr.rf, Or.inr ⟨fun ⟨p', q', _, hq', _, e⟩ => hno ⟨q', hq', e⟩, ?_, ?_⟩⟩ <;>
      · rw [h1]
        simp only [cb, Option.bind_some]
        rw [if_neg (by decide), h2]
        simp only [Option.bind_some]
        rw [if_pos trivial]
  · refine ⟨σ, hC, Fr.rf, Or.inr ⟨fun ⟨p', q', hp', _, e, _⟩ => hno ⟨p', hp', e⟩, ?_, ?_⟩⟩ <;>
    · rw [h1]
      simp only [cb, Option.bind_some]
      rw [if_pos trivial]
