-- pure: the class's least: its answer is the least way (own work)
theorem SolX.fee5940 {N : NET} (hN : WFN N) {g : Nat} {b : Nat → Nat} (h : SolX N 10000 FX g b) {t : Nat} (ht : t < 2 * nR N) (hb : b t < FX) : b t % 10000 ≤ 5940 := by
  have h1 := solX_fee hN h (b t) t ht rfl hb
  have h2 := rank_le b (b t) (2 * nR N)
  have := hN.1
  omega
/-- what goes through the turns behind one gone lane, to the greater base -/
theorem cnv_thv {N : NET} (hN : WFN N) {g : Nat} {b : Nat → Nat} (h : SolX N 10000 FX g b) (hb : ∀ t, t < 2 * nR N → b t < FX → b t ≤ 480005940) {r k q : Nat} (hr : r < nR N) (hk : k ≤ 4) (hq : q < 5 * nR N) : cnv (thv N b (pw N 10000 r k) q) = min (if arr (pw N BB r k) (fun t => cnv (b t)) (2 * (q / 5)) < INF then arr (pw N BB r k) (fun t => cnv (b t)) (2 * (q / 5)) + pw N BB (q / 5) (4 - q % 5) else INF) (if arr (pw N BB r k) (fun t => cnv (b t)) (2 * (q / 5) + 1) < INF then arr (pw N BB r k) (fun t => cnv (b t)) (2 * (q / 5) + 1) + pw N BB (q / 5) (q % 5) else INF) := by
  have hINF : INF = 1000000000000000000 := rfl
  have one : ∀ (t j : Nat), t < 2 * nR N → j ≤ 4 → cnv (if b t < FX then pw N 10000 r k + b t + pw N 10000 (q / 5) j else FX) = (if arr (pw N BB r k) (fun t => cnv (b t)) t < INF then arr (pw N BB r k) (fun t => cnv (b t)) t + pw N BB (q / 5) j else INF) := by
    intro t j ht hj
    by_cases hlt : b t < FX
    · have h1 := h.fee5940 hN ht hlt
      have h2 := hb t ht hlt
      obtain ⟨a1, a2⟩ := pw_bd hN hr hk
      obtain ⟨a3, a4⟩ := pw_bd hN (show q / 5 < nR N by omega) hj
      have e := cnv3 a1 a2 a3 a4 h2 h1
      have d1 := pw_dec N 10000 r k
      have d2 := pw_dec N 10000 (q / 5) j
      have d3 : pw N BB r k = k * nln N r * 1000000000 + (if k = 0 then 0 else nfe N r) := pw_dec N BB r k
      have d4 : pw N BB (q / 5) j = j * nln N (q / 5) * 1000000000 + (if j = 0 then 0 else nfe N (q / 5)) := pw_dec N BB (q / 5) j
      have hc : cnv (b t) ≤ 48000590000005940 := by
        unfold cnv; rw [if_pos (show b t < 2000000000 by omega)]; omega
      have ea : arr (pw N BB r k) (fun t => cnv (b t)) t = pw N BB r k + cnv (b t) := if_pos (cnv_fin.mpr hlt)
      rw [if_pos hlt, ea, if_pos (by rw [d3]; omega), d1, d2, d3, d4]
      exact e
    · have ea : arr (pw N BB r k) (fun t => cnv (b t)) t = INF := if_neg (fun z => hlt (cnv_fin.mp z))
      rw [if_neg hlt, ea, if_neg (by omega)]
      exact cnv_FX
  unfold thv
  rw [cnv_min, one _ _ (by omega) (by omega), one _ _ (by omega) (by omega)]
theorem add_min_if {x y c : Nat} (hx : x < INF → x + c < INF) (hy : y < INF → y + c < INF) : (if min x y < INF then min x y + c else INF) = min (if x < INF then x + c else INF) (if y < INF then y + c else INF) := by
  by_cases h1 : x < INF
  · have := hx h1
    rw [if_pos h1, if_pos (by omega)]
    by_cases h2 : y < INF
    · rw [if_pos h2]; omega
    · rw [if_neg h2]; omega
  · rw [if_neg h1]
    by_cases h2 : y < INF
    · have := hy h2
      rw [if_pos h2, if_pos (by omega)]; omega
    · rw [if_neg h2, if_neg (by omega)]; omega
theorem lst_candM {N : NET} {p q : Nat} {m : Nat → Nat} {w al : Nat} (hal : (alC N p q → al = pw N BB (p / 5) (dif p q)) ∧ (¬ alC N p q → al = INF)) (halt : al ≤ INF)
    (hw : w = min al (min (if m (2 * (q / 5)) < INF then m (2 * (q / 5)) + pw N BB (q / 5) (4 - q % 5) else INF) (if m (2 * (q / 5) + 1) < INF then m (2 * (q / 5) + 1) + pw N BB (q / 5) (q % 5) else INF))) : Lst INF (candM N p q m) w := by
  refine ⟨fun hlt => ?_, fun u hu => ?_, by omega⟩
  · by_cases h1 : w = al
    · left
      by_cases hc : alC N p q
      · exact ⟨hc.1, hc.2, by rw [h1]; exact hal.1 hc⟩
      · have := hal.2 hc; omega
    · by_cases ha : m (2 * (q / 5)) < INF
      · rw [if_pos ha] at hw
        by_cases hb : m (2 * (q / 5) + 1) < INF
        · rw [if_pos hb] at hw
          rcases Nat.le_total (m (2 * (q / 5)) + pw N BB (q / 5) (4 - q % 5)) (m (2 * (q / 5) + 1) + pw N BB (q / 5) (q % 5)) with z | z
          · exact Or.inr (Or.inr ⟨ha, by omega⟩)
          · exact Or.inr (Or.inl ⟨hb, by omega⟩)
        · rw [if_neg hb] at hw
          exact Or.inr (Or.inr ⟨ha, by omega⟩)
      · rw [if_neg ha] at hw
        by_cases hb : m (2 * (q / 5) + 1) < INF
        · rw [if_pos hb] at hw
          exact Or.inr (Or.inl ⟨hb, by omega⟩)
        · rw [if_neg hb] at hw
          omega
  · rcases hu with h | ⟨hm, e⟩ | ⟨hm, e⟩
    · have := hal.1 ⟨h.1, h.2.1⟩
      have := h.2.2
      omega
    · rw [if_pos hm] at hw; omega
    · rw [if_pos hm] at hw; omega
theorem X_least {σ : ST} {N : NET} (hN : NX σ N) (hK : KX σ N) {p q : Nat} (hp : p < 5 * nR N) (hq : q < 5 * nR N) : ∃ v σ', fX3_least (nI p) (nI q) σ = some (nI v, σ') ∧ v ≤ FX ∧ WaySpec N p q (cnv v) ∧ KX σ' N ∧ Fr PK σ σ' := by
  have hNw := hN.1
  have hR := hNw.1
  have hFX : FX = 2000000000 := rfl
  have hINF : INF = 1000000000000000000 := rfl
  by_cases hpq : p = q
  · subst hpq
    unfold fX3_least
    rw [if_pos rfl]
    exact ⟨0, σ, rfl, by omega, Or.inl ⟨rfl, rfl⟩, hK, Fr.rf⟩
  · have hr : p / 5 < nR N := by omega
    obtain ⟨σ1, k1, k2, k3, k4, k5⟩ := X_know hN hK (g := 2 * (p / 5)) (by omega)
    have hN1 := hN.fr k5 (fun a b z => by rcases z with z | z | z <;> omega)
    obtain ⟨σ2, l1, l2, l3, l4, l5⟩ := X_know hN1 k2 (g := 2 * (p / 5) + 1) (by omega)
    have hN2 := hN1.fr l5 (fun a b z => by rcases z with z | z | z <;> omega)
    have kn0 : σ2.1 16 (2 * (p / 5)) = 1 := (l4 _ (by omega)).trans k3
    obtain ⟨b0, c1, c2, c3⟩ : ∃ b, Row σ2 N (2 * (p / 5)) b ∧ SolX N 10000 FX (2 * (p / 5)) b ∧ ∀ t, t < 2 * nR N → b t < FX → b t ≤ 480005940 := by
      rcases l2 (2 * (p / 5)) (by omega) with z | ⟨-, z⟩
      · rw [kn0] at z; exact absurd z (by decide)
      · exact z
    obtain ⟨b1, d1, d2, d3⟩ : ∃ b, Row σ2 N (2 * (p / 5) + 1) b ∧ SolX N 10000 FX (2 * (p / 5) + 1) b ∧ ∀ t, t < 2 * nR N → b t < FX → b t ≤ 480005940 := by
      rcases l2 (2 * (p / 5) + 1) (by omega) with z | ⟨-, z⟩
      · rw [l3] at z; exact absurd z (by decide)
      · exact z
    obtain ⟨al, a1, a2, a3⟩ := X_along hN2 hp hq hpq
    obtain ⟨y1, y2⟩ := pw_bd hNw hr (k := 4 - p % 5) (by omega)
    obtain ⟨y3, y4⟩ := pw_bd hNw hr (k := p % 5) (by omega)
    have w1 := pw_dec N 10000 (p / 5) (4 - p % 5)
    have w0 := pw_dec N 10000 (p / 5) (p % 5)
    have t1 := X_through hN2 (g := 2 * (p / 5) + 1) (w := pw N 10000 (p / 5) (4 - p % 5)) (by omega) hq d1 d3 (by rw [w1]; omega)
    have t0 := X_through hN2 (g := 2 * (p / 5)) (w := pw N 10000 (p / 5) (p % 5)) (by omega) hq c1 c3 (by rw [w0]; omega)
    obtain ⟨-, e10, -, -, -, -, -, -, -, x3⟩ := hN2.2.2.1 (p / 5) hr
    have hir : ib (nI (p / 5)) 30 = true := ib_nI (by omega) (by decide)
    have hcr : (nI (p / 5)).toNatClampNeg = p / 5 := cl_nI (by omega)
    have dp : nI p / 5 = nI (p / 5) := div_nI (by omega) (by decide) (by decide)
    have mp : nI p - nI (p / 5) * 5 = nI (p % 5) := by rw [← dp]; exact rem_nI (by omega) (by decide) (by decide)
    have h4k : (4 : Int32) - nI (p % 5) = nI (4 - p % 5) := by rw [zl4]; exact sub_nI (by omega)
    have m2 : (2 : Int32) * nI (p / 5) = nI (2 * (p / 5)) := pk_mul 2 _
    have m21 : nI (2 * (p / 5)) + 1 = nI (2 * (p / 5) + 1) := nI_1 _
    have thle : ∀ (b : Nat → Nat) (w : Nat), thv N b w q ≤ FX ∨ FX < thv N b w q := fun b w => by omega
    have thF : ∀ (b : Nat → Nat) (w : Nat), w ≤ 8000099 → (∀ t, t < 2 * nR N → b t < FX → b t ≤ 480005940) → thv N b w q ≤ FX := by
      intro b w hw hb
      unfold thv
      have q1 := hb (2 * (q / 5)) (by omega)
      obtain ⟨z1, z2⟩ := pw_bd hNw (show q / 5 < nR N by omega) (k := 4 - q % 5) (by omega)
      have z3 := pw_dec N 10000 (q / 5) (4 - q % 5)
      by_cases h : b (2 * (q / 5)) < FX
      · have := q1 h
        rw [if_pos h]
        have : pw N 10000 (q / 5) (4 - q % 5) ≤ 8000099 := by rw [z3]; omega
        omega
      · rw [if_neg h]; omega
    have f1 := thF b1 (pw N 10000 (p / 5) (4 - p % 5)) (by rw [w1]; omega) d3
    have f0 := thF b0 (pw N 10000 (p / 5) (p % 5)) (by rw [w0]; omega) c3
    have alF : al ≤ FX := by
      by_cases hc : alC N p q
      · have hd : dif p q ≤ 4 := by have := hc.1; unfold dif; split <;> omega
        obtain ⟨z1, z2⟩ := pw_bd hNw hr hd
        rw [a2 hc, pw_dec]; omega
      · rw [a3 hc]; omega
    -- the answer
    have ans : fX3_least (nI p) (nI q) σ = some (nI (if nkd N (p / 5) ≠ 1 ∨ p % 5 = 0 then min (thv N b0 (pw N 10000 (p / 5) (p % 5)) q) (min (thv N b1 (pw N 10000 (p / 5) (4 - p % 5)) q) al) else min (thv N b1 (pw N 10000 (p / 5) (4 - p % 5)) q) al), σ2) := by
      have mn : ∀ x z : Nat, x ≤ FX → z ≤ FX → (if nI x < nI z then nI x else nI z) = nI (min x z) := by
        intro x z hx hz
        by_cases h : x < z
        · rw [if_pos (by rw [lt_nI (by omega) (by omega)]; exact h)]; congr 1; omega
        · rw [if_neg (by rw [lt_nI (by omega) (by omega)]; exact h)]; congr 1; omega
      have j87 : ∀ m, m ≤ FX → fX3_least_J87 (nI q) (nI (p / 5)) (nI (p % 5)) (nI m) σ2 = some (nI (min (thv N b0 (pw N 10000 (p / 5) (p % 5)) q) m), σ2) := by
        intro m hm
        unfold fX3_least_J87 fX3_least_J112
        rw [X_weight hN2 hr (by omega), m2]
        simp only [cb, Option.bind_some, t0, bindv, mn _ _ f0 hm]
      unfold fX3_least
      rw [if_neg (by rw [eq_nI (by omega) (by omega)]; exact hpq)]
      simp only [bindv, dp, mp, m2, m21, k1, l1, cb, Option.bind_some, a1, h4k, X_weight hN2 hr (show 4 - p % 5 ≤ 4 by omega), t1, mn _ _ f1 alF, hir, hcr, ↓reduceIte, e10]
      by_cases gk : nkd N (p / 5) = 1
      · rw [if_pos (by rw [gk]; rfl)]
        by_cases g0 : p % 5 = 0
        · rw [if_pos (by rw [g0]; rfl), if_pos (Or.inr g0)]
          exact j87 _ (by omega)
        · rw [if_neg (by rw [zl0, eq_nI (by omega) (by omega)]; exact g0), if_neg (fun z => z.elim (fun z => z gk) g0)]
          rfl
      · rw [if_neg (by rw [zl1, eq_nI (by omega) (by omega)]; exact gk), if_pos (Or.inl gk)]
        exact j87 _ (by omega)
    refine ⟨_, σ2, ans, ?_, ?_, l2, k5.tr l5⟩
    · split <;> omega
    · have bnd : ∀ (b : Nat → Nat), (∀ t, t < 2 * nR N → b t < FX → b t ≤ 480005940) → ∀ t, t < 2 * nR N → (fun t => cnv (b t)) t < INF → (fun t => cnv (b t)) t ≤ 300000000000000 := by
        intro b hb t ht h
        have h1 := cnv_fin.mp h
        have h2 := hb t ht h1
        show cnv (b t) ≤ _
        unfold cnv; rw [if_pos (show b t < 2000000000 by omega)]; omega
      refine ways_of hNw hr (by omega) hpq (solX_cnv hNw d2 (fun t ht h => by have := d3 t ht h; omega)) (fun _ => solX_cnv hNw c2 (fun t ht h => by have := c3 t ht h; omega)) (bnd b1 d3) (bnd b0 c3) ?_
      have pwB : ∀ r k, r < nR N → k ≤ 4 → pw N BB r k ≤ 800000000099 := by
        intro r k h1 h2
        obtain ⟨z1, z2⟩ := pw_bd hNw h1 h2
        have : pw N BB r k = k * nln N r * 1000000000 + (if k = 0 then 0 else nfe N r) := pw_dec N BB r k
        rw [this]; omega
      have arrF : ∀ (i : Nat) (b : Nat → Nat), i ≤ 800000000099 → (∀ t, t < 2 * nR N → b t < FX → b t ≤ 480005940) → ∀ t c, t < 2 * nR N → c ≤ 800000000099 → arr i (fun t => cnv (b t)) t < INF → arr i (fun t => cnv (b t)) t + c < INF := by
        intro i b hi hb t c ht hc h
        by_cases hf : cnv (b t) < INF
        · have e : arr i (fun t => cnv (b t)) t = i + cnv (b t) := if_pos hf
          have := bnd b hb t ht hf
          have : cnv (b t) ≤ 300000000000000 := this
          omega
        · have e : arr i (fun t => cnv (b t)) t = INF := if_neg hf
          omega
      refine lst_candM (al := cnv al) ⟨fun hc => ?_, fun hc => by rw [a3 hc]; exact cnv_FX⟩ cnv_le ?_
      · have hd : dif p q ≤ 4 := by have := hc.1; unfold dif; split <;> omega
        obtain ⟨z1, z2⟩ := pw_bd hNw hr hd
        have e : pw N BB (p / 5) (dif p q) = dif p q * nln N (p / 5) * 1000000000 + (if dif p q = 0 then 0 else nfe N (p / 5)) := pw_dec N BB _ _
        rw [a2 hc, pw_dec, e]
        unfold cnv
        rw [if_pos (by omega)]
        omega
      · have g1 := cnv_thv hNw d2 d3 hr (k := 4 - p % 5) (by omega) hq
        have g0 := cnv_thv hNw c2 c3 hr (k := p % 5) (by omega) hq
        have i1 := pwB (p / 5) (4 - p % 5) hr (by omega)
        have i0 := pwB (p / 5) (p % 5) hr (by omega)
        have cA := pwB (q / 5) (4 - q % 5) (by omega) (by omega)
        have cB := pwB (q / 5) (q % 5) (by omega) (by omega)
        by_cases hal : nkd N (p / 5) ≠ 1 ∨ p % 5 = 0
        · simp only [if_pos hal]
          rw [cnv_min, cnv_min, g1, g0, add_min_if (arrF _ _ i1 d3 _ _ (by omega) cA) (arrF _ _ i0 c3 _ _ (by omega) cA), add_min_if (arrF _ _ i1 d3 _ _ (by omega) cB) (arrF _ _ i0 c3 _ _ (by omega) cB)]
          generalize (if arr (pw N BB (p / 5) (4 - p % 5)) (fun t => cnv (b1 t)) (2 * (q / 5)) < INF then _ else _) = u1
          generalize (if arr (pw N BB (p / 5) (4 - p % 5)) (fun t => cnv (b1 t)) (2 * (q / 5) + 1) < INF then _ else _) = u2
          generalize (if arr (pw N BB (p / 5) (p % 5)) (fun t => cnv (b0 t)) (2 * (q / 5)) < INF then _ else _) = u3
          generalize (if arr (pw N BB (p / 5) (p % 5)) (fun t => cnv (b0 t)) (2 * (q / 5) + 1) < INF then _ else _) = u4
          omega
        · simp only [if_neg hal]
          rw [cnv_min, g1, add_min_if (arrF _ _ i1 d3 _ _ (by omega) cA) (fun h => by omega), add_min_if (arrF _ _ i1 d3 _ _ (by omega) cB) (fun h => by omega), if_neg (show ¬ INF < INF by omega), if_neg (show ¬ INF < INF by omega)]
          generalize hu1 : (if arr (pw N BB (p / 5) (4 - p % 5)) (fun t => cnv (b1 t)) (2 * (q / 5)) < INF then arr (pw N BB (p / 5) (4 - p % 5)) (fun t => cnv (b1 t)) (2 * (q / 5)) + pw N BB (q / 5) (4 - q % 5) else INF) = u1
          generalize hu2 : (if arr (pw N BB (p / 5) (4 - p % 5)) (fun t => cnv (b1 t)) (2 * (q / 5) + 1) < INF then arr (pw N BB (p / 5) (4 - p % 5)) (fun t => cnv (b1 t)) (2 * (q / 5) + 1) + pw N BB (q / 5) (q % 5) else INF) = u2
          have := @cnv_le al
          omega
