-- pure: the class's tables between lanes (own work)
def bx (x : Int32) (s : Nat) : Int32 := (x >>> (nI s &&& 31)) &&& 1
/-- a net, as the class holds it -/
def NX (σ : ST) (N : NET) : Prop := WFN N ∧ σ.1 1 3 = nI (nR N) ∧ (∀ r, r < nR N → σ.1 9 r = nI (nln N r) ∧ σ.1 10 r = nI (nkd N r) ∧ σ.1 11 r = nI (nfe N r) ∧ σ.1 14 (2 * r) = nI (nfr N r) ∧ σ.1 14 (2 * r + 1) = nI (nto N r) ∧ σ.1 13 (2 * r + 1) = nI (nfr N r) ∧ σ.1 13 (2 * r) = (if nkd N r = 1 then -1 else nI (nto N r)) ∧ nfr N r < 16 ∧ nto N r < 16 ∧ nkd N r < 4) ∧ ∀ r s, r < nR N → s < nR N → (bx (σ.1 12 r) s = 0 ↔ ¬ nba N r s)
theorem NX.fr {P : Nat → Nat → Prop} {σ σ' : ST} {N : NET} (h : NX σ N) (hF : Fr P σ σ') (hP : ∀ a b, P a b → a ≠ 1 ∧ (a ≤ 8 ∨ 15 ≤ a)) : NX σ' N := by
  have e : ∀ a b, a = 1 ∨ (9 ≤ a ∧ a ≤ 14) → σ'.1 a b = σ.1 a b := fun a b h1 => hF.1 a b (fun q => by
    have := hP a b q
    omega)
  obtain ⟨h1, h2, h3, h4⟩ := h
  refine ⟨h1, by rw [e 1 3 (by omega)]; exact h2, fun r hr => ?_, fun r s hr hs => by rw [e 12 _ (by omega)]; exact h4 r s hr hs⟩
  rw [e 9 r (by omega), e 10 r (by omega), e 11 r (by omega), e 14 _ (by omega), e 14 _ (by omega), e 13 _ (by omega), e 13 _ (by omega)]
  exact h3 r hr
theorem X_weight {σ : ST} {N : NET} (hN : NX σ N) {r k : Nat} (hr : r < nR N) (hk : k ≤ 4) : fX2_weightOfPart (nI r) (nI k) σ = some (nI (pw N 10000 r k), σ) := by
  have hR := hN.1.1
  obtain ⟨e9, -, e11, -⟩ := hN.2.2.1 r hr
  have hir : ib (nI r) 30 = true := ib_nI (by omega) (by decide)
  have hcr : (nI r).toNatClampNeg = r := cl_nI (by omega)
  unfold fX2_weightOfPart pw
  simp only [hir, hcr, ↓reduceIte, e9, e11]
  by_cases h0 : k = 0
  · rw [if_pos (by rw [h0]; decide), if_pos h0]
    rfl
  · rw [if_neg (by rw [zl0, le_nI (by omega) (by omega)]; omega), if_neg h0, show (10000 : Int32) = nI 10000 from rfl, pk_mul, pk_mul, nI_add]
theorem lane_end {σ : ST} {N : NET} (hN : NX σ N) {s : Nat} (hs : s < 2 * nR N) : σ.1 14 s = nI (lend N s) ∧ lend N s < 16 := by
  obtain ⟨-, -, -, e1, e2, -, -, h1, h2, -⟩ := hN.2.2.1 (s / 2) (by omega)
  unfold lend
  by_cases h : s % 2 = 0
  · rw [if_pos h, ← e1, show 2 * (s / 2) = s by omega]; exact ⟨rfl, h1⟩
  · rw [if_neg h, ← e2, show 2 * (s / 2) + 1 = s by omega]; exact ⟨rfl, h2⟩
theorem lane_start {σ : ST} {N : NET} (hN : NX σ N) {s t : Nat} (hs : s < 2 * nR N) (ht : t < 2 * nR N) : (σ.1 13 t = nI (lend N s) ∧ bx (σ.1 12 (s / 2)) (t / 2) = 0) ↔ edge N s t := by
  obtain ⟨-, -, -, -, -, e1, e2, h1, h2, h3⟩ := hN.2.2.1 (t / 2) (by omega)
  have hb := hN.2.2.2 (s / 2) (t / 2) (by omega) (by omega)
  have hl := (lane_end hN hs).2
  rw [hb]
  unfold edge
  by_cases h : t % 2 = 0
  · rw [if_pos h]
    rw [show 2 * (t / 2) = t by omega] at e2
    rw [e2]
    by_cases hk : nkd N (t / 2) = 1
    · rw [if_pos hk]
      refine ⟨fun z => absurd z.1 (fun q => ?_), fun z => absurd hk z.2.2⟩
      have h5 : (-1 : Int32).toInt = (nI (lend N s)).toInt := congrArg Int32.toInt q
      rw [nI_toInt (by omega)] at h5
      have : (-1 : Int32).toInt = -1 := rfl
      omega
    · rw [if_neg hk, eq_nI (by omega) (by omega)]
      exact ⟨fun z => ⟨z.2, z.1, hk⟩, fun z => ⟨z.2.1, z.1⟩⟩
  · rw [if_neg h]
    rw [show 2 * (t / 2) + 1 = t by omega] at e1
    rw [e1, eq_nI (by omega) (by omega)]
    exact ⟨fun z => ⟨z.2, z.1⟩, fun z => ⟨z.2, z.1⟩⟩
/-- the row of a gone lane -/
def Row (σ : ST) (N : NET) (g : Nat) (b : Nat → Nat) : Prop := ∀ t, t < 2 * nR N → σ.1 15 (60 * g + t) = nI (b t) ∧ b t ≤ FX
abbrev PR (g : Nat) : Nat → Nat → Prop := fun a b => a = 15 ∧ 60 * g ≤ b ∧ b < 60 * g + 60
/-- all lanes below n offered the weight w behind s -/
def Off (N : NET) (s w n : Nat) (b b' : Nat → Nat) : Prop := ∀ t, (t < n ∧ edge N s t → b' t = min (b t) w) ∧ (¬ (t < n ∧ edge N s t) → b' t = b t)
theorem turn_L {N : NET} (hNw : WFN N) {s w g : Nat} (hs : s < 2 * nR N) (hg : g < 2 * nR N) (hw : w < FX) {b0 : Nat → Nat} {bar : Int32} : ∀ (j t : Nat) (σ : ST) (b : Nat → Nat) (n : Nat), t + j = 2 * nR N → j < n → NX σ N → Row σ N g b → σ.1 12 (s / 2) = bar → Off N s w t b0 b → ∃ b' σ', fX3_turnFrom_L38 n (nI w) (nI (60 * g)) (nI (lend N s)) bar (nI (2 * nR N)) (nI t) σ = some ((), σ') ∧ Row σ' N g b' ∧ Off N s w (2 * nR N) b0 b' ∧ Fr (PR g) σ σ' := by
  have hR := hNw.1
  have hFX : FX = 2000000000 := rfl
  intro j
  induction j with
  | zero =>
    intro t σ b n ht hn hN hr hba ho
    obtain ⟨n, rfl⟩ : ∃ m, n = m + 1 := ⟨n - 1, by omega⟩
    refine ⟨b, σ, ?_, hr, by rw [show 2 * nR N = t by omega]; exact ho, Fr.rf⟩
    rw [uX3_turnFrom_L38]
    unfold fX3_turnFrom_B38
    rw [if_pos (by rw [le_nI (by omega) (by omega)]; omega)]
  | succ j ih =>
    intro t σ b n ht hn hN hr hba ho
    obtain ⟨n, rfl⟩ : ∃ m, n = m + 1 := ⟨n - 1, by omega⟩
    have htl : t < 2 * nR N := by omega
    obtain ⟨r1, r2⟩ := hr t htl
    have hit : ib (nI t) 60 = true := ib_nI (by omega) (by decide)
    have hct : (nI t).toNatClampNeg = t := cl_nI (by omega)
    have hio : ib (nI (60 * g + t)) 3600 = true := ib_nI (by omega) (by decide)
    have hco : (nI (60 * g + t)).toNatClampNeg = 60 * g + t := cl_nI (by omega)
    have hed := lane_start hN hs htl
    rw [hba] at hed
    have e0 : b t = b0 t := (ho t).2 (fun z => by omega)
    have next : ∀ (σ1 : ST) (b1 : Nat → Nat), Fr (PR g) σ σ1 → Row σ1 N g b1 → Off N s w (t + 1) b0 b1 → ∃ b' σ', fX3_turnFrom_L38 n (nI w) (nI (60 * g)) (nI (lend N s)) bar (nI (2 * nR N)) (nI (t + 1)) σ1 = some ((), σ') ∧ Row σ' N g b' ∧ Off N s w (2 * nR N) b0 b' ∧ Fr (PR g) σ σ' := by
      intro σ1 b1 hF hr1 ho1
      obtain ⟨b', σ', p1, p2, p3, p4⟩ := ih (t + 1) σ1 b1 n (by omega) (by omega) (hN.fr hF (fun a b z => by have := z.1; omega)) hr1 ((hF.1 12 _ (fun z => by have := z.1; omega)).trans hba) ho1
      exact ⟨b', σ', p1, p2, p3, hF.tr p4⟩
    have keep : (edge N s t → b t ≤ w) → Off N s w (t + 1) b0 b := by
      intro hk x
      refine ⟨fun z => ?_, fun z => (ho x).2 (fun y => z ⟨by omega, y.2⟩)⟩
      by_cases hx : x = t
      · subst hx
        have := hk z.2
        omega
      · exact (ho x).1 ⟨by omega, z.2⟩
    rw [uX3_turnFrom_L38]
    unfold fX3_turnFrom_B38 fX3_turnFrom_J95
    simp only [bindv, zl1, nI_add, hit, hct, hio, hco, ↓reduceIte, r1]
    rw [if_neg (by rw [le_nI (by omega) (by omega)]; omega)]
    have hsh : (bar >>> (nI t / 2 &&& 31) &&& nI 1) = bx bar (t / 2) := by
      rw [show nI t / 2 = nI (t / 2) from div_nI (by omega) (by decide) (by decide)]
      rfl
    rw [hsh]
    by_cases g1 : σ.1 13 t = nI (lend N s)
    · rw [if_pos g1]
      by_cases g2 : bx bar (t / 2) = 0
      · rw [if_pos g2]
        have he := hed.mp ⟨g1, g2⟩
        by_cases g3 : b t ≤ w
        · rw [if_pos (by rw [le_nI (by omega) (by omega)]; exact g3)]
          exact next σ b Fr.rf hr (keep (fun _ => g3))
        · rw [if_neg (by rw [le_nI (by omega) (by omega)]; exact g3)]
          refine next (stI σ 15 (60 * g + t) (nI w)) (va_up b t w) (Fr.rf.st ⟨rfl, by omega, by omega⟩) (fun x hx => ?_) (fun x => ?_)
          · by_cases hxt : x = t
            · subst hxt; rw [upc_s, st_at]; exact ⟨rfl, by omega⟩
            · rw [upc_n _ _ hxt, st_idx _ _ (by omega)]; exact hr x hx
          · by_cases hxt : x = t
            · subst hxt; rw [upc_s]
              exact ⟨fun _ => by omega, fun z => absurd ⟨by omega, he⟩ z⟩
            · rw [upc_n _ _ hxt]
              exact ⟨fun z => (ho x).1 ⟨by omega, z.2⟩, fun z => (ho x).2 (fun y => z ⟨by omega, y.2⟩)⟩
      · rw [if_neg g2]
        exact next σ b Fr.rf hr (keep (fun z => absurd (hed.mpr z).2 g2))
    · rw [if_neg g1]
      exact next σ b Fr.rf hr (keep (fun z => absurd (hed.mpr z).1 g1))
theorem X_turnFrom {σ : ST} {N : NET} (hN : NX σ N) {s w g : Nat} (hs : s < 2 * nR N) (hg : g < 2 * nR N) (hw : w < FX) {b : Nat → Nat} (hr : Row σ N g b) : ∃ b' σ', fX3_turnFrom (nI s) (nI w) (nI (60 * g)) σ = some ((), σ') ∧ Row σ' N g b' ∧ Off N s w (2 * nR N) b b' ∧ Fr (PR g) σ σ' := by
  have hR := hN.1.1
  have his : ib (nI s) 60 = true := ib_nI (by omega) (by decide)
  have hcs : (nI s).toNatClampNeg = s := cl_nI (by omega)
  have hd : nI s / 2 = nI (s / 2) := div_nI (by omega) (by decide) (by decide)
  have hi2 : ib (nI (s / 2)) 30 = true := ib_nI (by omega) (by decide)
  have hc2 : (nI (s / 2)).toNatClampNeg = s / 2 := cl_nI (by omega)
  obtain ⟨n, hn⟩ := FU_add 100 (by decide)
  unfold fX3_turnFrom
  simp only [bindv, his, hcs, hd, hi2, hc2, ↓reduceIte, (lane_end hN hs).1, hN.2.1, show (2 : Int32) * nI (nR N) = nI (2 * nR N) from pk_mul 2 _, zl0]
  exact turn_L hN.1 hs hg hw (2 * nR N) 0 σ b FU (by omega) (by rw [hn]; omega) hN hr rfl (fun t => ⟨fun z => by omega, fun _ => rfl⟩)
