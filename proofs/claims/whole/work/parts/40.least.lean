-- pure: the class's least ways (own work)
def KX (σ : ST) (N : NET) : Prop := ∀ g, g < 2 * nR N → σ.1 16 g = 0 ∨ (σ.1 16 g = 1 ∧ ∃ b, Row σ N g b ∧ SolX N 10000 FX g b ∧ ∀ t, t < 2 * nR N → b t < FX → b t ≤ 480005940)
theorem kfill_L {N : NET} (hNw : WFN N) {g : Nat} (hg : g < 2 * nR N) : ∀ (j t : Nat) (σ : ST) (n : Nat), t + j = 2 * nR N → j < n → (∀ x, x < t → σ.1 15 (60 * g + x) = nI FX ∧ σ.1 17 x = 0) → ∃ σ', (∃ n', fX3_know_L35 n (nI g) (nI (60 * g)) (nI (2 * nR N)) (nI t) σ = fX3_know_B35 (fun l1 l2 l3 l4 σ => fX3_know_L35 n' l1 l2 l3 l4 σ) (nI g) (nI (60 * g)) (nI (2 * nR N)) (nI (2 * nR N)) σ') ∧ Row σ' N g (fun _ => FX) ∧ Dn σ' N (fun _ => false) ∧ Fr (PQ g) σ σ' := by
  have hR := hNw.1
  intro j
  induction j with
  | zero =>
    intro t σ n ht hn h
    obtain ⟨n, rfl⟩ : ∃ m, n = m + 1 := ⟨n - 1, by omega⟩
    have : t = 2 * nR N := by omega
    subst this
    exact ⟨σ, ⟨n, uX3_know_L35 n _ _ _ _ σ⟩, fun x hx => ⟨(h x hx).1, Nat.le_refl _⟩, fun x hx => (h x hx).2, Fr.rf⟩
  | succ j ih =>
    intro t σ n ht hn h
    obtain ⟨n, rfl⟩ : ∃ m, n = m + 1 := ⟨n - 1, by omega⟩
    have hit : ib (nI t) 60 = true := ib_nI (by omega) (by decide)
    have hct : (nI t).toNatClampNeg = t := cl_nI (by omega)
    have hio : ib (nI (60 * g + t)) 3600 = true := ib_nI (by omega) (by decide)
    have hco : (nI (60 * g + t)).toNatClampNeg = 60 * g + t := cl_nI (by omega)
    obtain ⟨σ', ⟨n', e⟩, g1, g2, g3⟩ := ih (t + 1) (stI (stI σ 15 (60 * g + t) 2000000000) 17 t 0) n (by omega) (by omega) (fun x hx => by
      by_cases e : x = t
      · subst e; rw [st_cell _ _ _ (by decide), st_at, st_at]; exact ⟨rfl, rfl⟩
      · rw [st_cell _ _ _ (by decide), st_idx _ _ (by omega), st_idx _ _ e, st_cell _ _ _ (by decide)]
        exact h x (by omega))
    refine ⟨σ', ⟨n', ?_⟩, g1, g2, ((Fr.rf.st (Or.inl ⟨rfl, by omega, by omega⟩)).st (Or.inr rfl)).tr g3⟩
    rw [← e, uX3_know_L35]
    unfold fX3_know_B35
    rw [if_neg (by rw [le_nI (by omega) (by omega)]; omega)]
    simp only [nI_add, hio, hco, hit, hct, ↓reduceIte, bindv, nar0]
    rw [show nI t + 1 = nI (t + 1) from nI_1 t]
theorem X_know {σ : ST} {N : NET} (hN : NX σ N) (hK : KX σ N) {g : Nat} (hg : g < 2 * nR N) : ∃ σ', fX3_know (nI g) σ = some ((), σ') ∧ KX σ' N ∧ σ'.1 16 g = 1 ∧ (∀ g', g' ≠ g → σ'.1 16 g' = σ.1 16 g') ∧ Fr PK σ σ' := by
  have hNw := hN.1
  have hR := hNw.1
  have hig : ib (nI g) 60 = true := ib_nI (by omega) (by decide)
  have hcg : (nI g).toNatClampNeg = g := cl_nI (by omega)
  unfold fX3_know
  rcases hK g hg with h0 | ⟨h1, hb⟩
  · obtain ⟨n100, hn100⟩ := FU_add 100 (by decide)
    have hF1 : Fr PK σ (stI σ 16 g 1) := Fr.rf.st (Or.inr (Or.inl rfl))
    have hN1 := hN.fr hF1 (fun a b z => by rcases z with z | z | z <;> omega)
    obtain ⟨σ1, ⟨n', e⟩, g1, g2, g3⟩ := kfill_L hNw hg (2 * nR N) 0 (stI σ 16 g 1) FU (by omega) (by rw [hn100]; omega) (fun x hx => by omega)
    have hN2 := hN1.fr g3 (fun a b z => by rcases z with z | z <;> omega)
    obtain ⟨b1, σ2, p1, p2, p3, p4⟩ := X_turnFrom hN2 hg hg (w := 0) (by decide) g1
    have hN3 := hN2.fr p4 (fun a b z => by have := z.1; omega)
    have hD : Dj N g b1 (fun _ => false) 0 := by
      have val : ∀ t, t < 2 * nR N → b1 t = 0 ∨ b1 t = FX := fun t ht => by
        by_cases q : t < 2 * nR N ∧ edge N g t
        · left; rw [(p3 t).1 q]; omega
        · right; rw [(p3 t).2 q]
      refine ⟨fun t ht he => by rw [(p3 t).1 ⟨ht, he⟩]; omega, fun s t _ _ h => (by cases h), fun t ht hlt => ?_, fun s t _ _ h => (by cases h), fun s _ h => (by cases h), fun t ht hlt => ?_, rank_none (b := fn fun _ => false) (v := 1) (fun t => Nat.le_refl 1) _⟩
      · by_cases q : t < 2 * nR N ∧ edge N g t
        · exact Or.inl ⟨q.2, by rw [(p3 t).1 q]; omega⟩
        · have e : b1 t = FX := (p3 t).2 q
          omega
      · rcases val t ht with e | e <;> omega
    obtain ⟨b', σ', r1, r2, r3, r4, r5⟩ := know_rounds hNw hg (2 * nR N) 0 σ2 b1 (fun _ => false) FU (by omega) (by rw [hn100]; omega) hN3 p2 (fun t ht => (p4.1 17 t (fun z => by have := z.1; omega)).trans (g2 t ht)) hD
    have hFQ : Fr (PQ g) (stI σ 16 g 1) σ' := (g3.tr (p4.mono (fun a b z => Or.inl z))).tr r5
    have h16 : ∀ g', σ'.1 16 g' = (stI σ 16 g 1).1 16 g' := fun g' => hFQ.1 16 g' (fun z => by rcases z with z | z <;> omega)
    refine ⟨σ', ?_, fun g' hg' => ?_, (h16 g).trans (st_at _ _ _ _), fun g' hne => (h16 g').trans (st_idx _ _ hne), hF1.tr (hFQ.mono (fun a b z => by rcases z with z | z <;> omega))⟩
    · rw [if_pos hig, hcg, if_pos h0, if_pos hig]
      simp only [bindv, nar1]
      rw [show (nI g : Int32) * 60 = nI (60 * g) from by rw [show (60 : Int32) = nI 60 from rfl, pk_mul, Nat.mul_comm], hN1.2.1, show (2 : Int32) * nI (nR N) = nI (2 * nR N) from pk_mul 2 _, zl0, e]
      unfold fX3_know_B35
      rw [if_pos (by rw [le_nI (by omega) (by omega)]; omega), zl0, p1]
      simp only [cb, Option.bind_some]
      exact r1
    · by_cases e : g' = g
      · subst e
        exact Or.inr ⟨(h16 g').trans (st_at _ _ _ _), b', r2, r3, r4⟩
      · rw [h16 g', st_idx _ _ e]
        rcases hK g' hg' with z | ⟨z, b, hb1, hb2, hb3⟩
        · exact Or.inl z
        · refine Or.inr ⟨z, b, ?_, hb2, hb3⟩
          exact (hb1.fr (Fr.rf.st (P := fun a b => a = 16) rfl) (fun t ht z => by omega)).fr hFQ (fun t ht z => by rcases z with z | z <;> omega)
  · rw [if_pos hig, hcg, if_neg (by rw [h1]; decide)]
    exact ⟨σ, rfl, hK, h1, fun _ _ => rfl, Fr.rf⟩
def alC (N : NET) (p q : Nat) : Prop := q / 5 = p / 5 ∧ (p < q ∨ nkd N (p / 5) ≠ 1)
theorem zero_subI (x : Int32) : 0 - x = -x := by
  apply Int32.toBitVec_inj.mp
  simp
theorem X_along {σ : ST} {N : NET} (hN : NX σ N) {p q : Nat} (hp : p < 5 * nR N) (hq : q < 5 * nR N) (hpq : p ≠ q) : ∃ v, fX3_alongOneRoad (nI p) (nI q) σ = some (nI v, σ) ∧ (alC N p q → v = pw N 10000 (p / 5) (dif p q)) ∧ (¬ alC N p q → v = FX) := by
  have hR := hN.1.1
  have hr : p / 5 < nR N := by omega
  obtain ⟨-, e10, -, -, -, -, -, -, -, x3⟩ := hN.2.2.1 (p / 5) hr
  have hir : ib (nI (p / 5)) 30 = true := ib_nI (by omega) (by decide)
  have hcr : (nI (p / 5)).toNatClampNeg = p / 5 := cl_nI (by omega)
  unfold fX3_alongOneRoad
  simp only [bindv]
  rw [zl5, div_nI (show p < 2147483648 by omega) (by decide) (by decide), div_nI (show q < 2147483648 by omega) (by decide) (by decide)]
  by_cases hsr : q / 5 = p / 5
  · have hd4 : dif p q ≤ 4 := by unfold dif; split <;> omega
    have go : alC N p q → ∃ v, fX3_alongOneRoad_J32 (nI p) (nI q) (nI (p / 5)) σ = some (nI v, σ) ∧ (alC N p q → v = pw N 10000 (p / 5) (dif p q)) ∧ (¬ alC N p q → v = FX) := by
      intro hal
      refine ⟨pw N 10000 (p / 5) (dif p q), ?_, fun _ => rfl, fun z => absurd hal z⟩
      have e : (if 0 ≤ nI q - nI p then nI q - nI p else 0 - (nI q - nI p)) = nI (dif p q) := by
        by_cases hle : p ≤ q
        · rw [sub_nI hle, if_pos (nI_pos' (by omega))]
          unfold dif; rw [if_pos hle]
        · have hneg : nI q - nI p < 0 := pk_sneg (by omega) (by omega)
          rw [if_neg (fun h => by rw [Int32.le_iff_toInt_le] at h; rw [Int32.lt_iff_toInt_lt] at hneg; omega), zero_subI, neg_subI, sub_nI (by omega)]
          unfold dif; rw [if_neg hle]
      unfold fX3_alongOneRoad_J32
      rw [e, X_weight hN hr hd4]
      rfl
    rw [if_pos (by rw [hsr])]
    by_cases hle : p ≤ q
    · rw [if_pos ((le_nI (by omega) (by omega)).mpr hle)]
      exact go ⟨hsr, Or.inl (by omega)⟩
    · rw [if_neg (by rw [le_nI (by omega) (by omega)]; exact hle), if_pos hir, hcr, e10]
      by_cases hk : nkd N (p / 5) = 1
      · rw [if_pos (by rw [hk]; rfl)]
        exact ⟨FX, rfl, fun z => by
          rcases z.2 with h | h
          · omega
          · exact absurd hk h, fun _ => rfl⟩
      · rw [if_neg (by rw [zl1, eq_nI (by omega) (by omega)]; exact hk)]
        exact go ⟨hsr, Or.inr hk⟩
  · rw [if_neg (by rw [eq_nI (by omega) (by omega)]; exact hsr)]
    exact ⟨FX, rfl, fun z => absurd z.1 hsr, fun _ => rfl⟩
def thv (N : NET) (b : Nat → Nat) (w q : Nat) : Nat := min (if b (2 * (q / 5)) < FX then w + b (2 * (q / 5)) + pw N 10000 (q / 5) (4 - q % 5) else FX) (if b (2 * (q / 5) + 1) < FX then w + b (2 * (q / 5) + 1) + pw N 10000 (q / 5) (q % 5) else FX)
theorem pw_dec (N : NET) (B r k : Nat) : pw N B r k = k * nln N r * B + (if k = 0 then 0 else nfe N r) := by
  unfold pw
  by_cases h : k = 0
  · subst h; simp
  · rw [if_neg h, if_neg h]
theorem pw_bd {N : NET} (hN : WFN N) {r k : Nat} (hr : r < nR N) (hk : k ≤ 4) : k * nln N r ≤ 800 ∧ (if k = 0 then 0 else nfe N r) ≤ 99 := by
  obtain ⟨h1, h2, h3⟩ := hN.2 r hr
  have : k * nln N r ≤ 4 * 200 := Nat.mul_le_mul hk h2
  exact ⟨by omega, by split <;> omega⟩
theorem X_through {σ : ST} {N : NET} (hN : NX σ N) {g w q : Nat} (hg : g < 2 * nR N) (hq : q < 5 * nR N) {b : Nat → Nat} (hr : Row σ N g b) (hb : ∀ t, t < 2 * nR N → b t < FX → b t ≤ 480005940) (hw : w ≤ 8000099) : fX3_throughTurns (nI g) (nI w) (nI q) σ = some (nI (thv N b w q), σ) := by
  have hR := hN.1.1
  have hFX : FX = 2000000000 := rfl
  have hrr : q / 5 < nR N := by omega
  have i1 : ib (nI (60 * g + 2 * (q / 5))) 3600 = true := ib_nI (by omega) (by decide)
  have i2 : ib (nI (60 * g + (2 * (q / 5) + 1))) 3600 = true := ib_nI (by omega) (by decide)
  have c1 : (nI (60 * g + 2 * (q / 5))).toNatClampNeg = 60 * g + 2 * (q / 5) := cl_nI (by omega)
  have c2 : (nI (60 * g + (2 * (q / 5) + 1))).toNatClampNeg = 60 * g + (2 * (q / 5) + 1) := cl_nI (by omega)
  obtain ⟨r1, r2⟩ := hr (2 * (q / 5)) (by omega)
  obtain ⟨s1, s2⟩ := hr (2 * (q / 5) + 1) (by omega)
  have a1 := hb (2 * (q / 5)) (by omega)
  have a2 := hb (2 * (q / 5) + 1) (by omega)
  have e1 : nI g * 60 + 2 * nI (q / 5) = nI (60 * g + 2 * (q / 5)) := by
    rw [show (nI g : Int32) * 60 = nI (60 * g) from by rw [show (60 : Int32) = nI 60 from rfl, pk_mul, Nat.mul_comm], show (2 : Int32) * nI (q / 5) = nI (2 * (q / 5)) from pk_mul 2 _, nI_add]
  have e2 : nI (60 * g + 2 * (q / 5)) + 1 = nI (60 * g + (2 * (q / 5) + 1)) := nI_1 _
  have d5 : nI q / 5 = nI (q / 5) := div_nI (by omega) (by decide) (by decide)
  have m5 : nI q - nI (q / 5) * 5 = nI (q % 5) := by
    rw [← d5]; exact rem_nI (by omega) (by decide) (by decide)
  have h4k : (4 : Int32) - nI (q % 5) = nI (4 - q % 5) := by rw [zl4]; exact sub_nI (by omega)
  obtain ⟨p1, p2⟩ := pw_bd hN.1 hrr (k := 4 - q % 5) (by omega)
  obtain ⟨p3, p4⟩ := pw_bd hN.1 hrr (k := q % 5) (by omega)
  have w1 := pw_dec N 10000 (q / 5) (4 - q % 5)
  have w2 := pw_dec N 10000 (q / 5) (q % 5)
  have x1 : pw N 10000 (q / 5) (4 - q % 5) ≤ 8000099 := by rw [w1]; omega
  have x2 : pw N 10000 (q / 5) (q % 5) ≤ 8000099 := by rw [w2]; omega
  have far : ∀ v, v ≤ FX → (nI v = 2000000000 ↔ v = FX) := fun v hv => by
    rw [show (2000000000 : Int32) = nI 2000000000 from rfl, eq_nI (by omega) (by omega)]; omega
  have second : ∀ m, m ≤ FX → fX3_throughTurns_J75 (nI w) (nI (q / 5)) (nI (q % 5)) (nI (b (2 * (q / 5) + 1))) (nI m) σ = some (nI (min m (if b (2 * (q / 5) + 1) < FX then w + b (2 * (q / 5) + 1) + pw N 10000 (q / 5) (q % 5) else FX)), σ) := by
    intro m hm
    unfold fX3_throughTurns_J75 fX3_throughTurns_J105
    by_cases h : b (2 * (q / 5) + 1) < FX
    · have := a2 h
      rw [if_neg (by rw [far _ s2]; omega), X_weight hN hrr (by omega), if_pos h]
      simp only [cb, Option.bind_some, bindv, nI_add]
      by_cases h2 : w + b (2 * (q / 5) + 1) + pw N 10000 (q / 5) (q % 5) < m
      · rw [if_pos (by rw [lt_nI (by omega) (by omega)]; exact h2)]
        congr 3; omega
      · rw [if_neg (by rw [lt_nI (by omega) (by omega)]; exact h2)]
        congr 3; omega
    · rw [if_pos (by rw [far _ s2]; omega), if_neg h]
      congr 3; omega
  unfold fX3_throughTurns thv
  simp only [bindv, e1, d5, m5, i1, c1, e2, i2, c2, ↓reduceIte, r1, s1, h4k]
  by_cases h : b (2 * (q / 5)) < FX
  · have := a1 h
    rw [if_neg (by rw [far _ r2]; omega), X_weight hN hrr (by omega), if_pos h]
    simp only [cb, Option.bind_some, nI_add]
    exact second _ (by omega)
  · rw [if_pos (by rw [far _ r2]; omega), if_neg h]
    exact second FX (Nat.le_refl _)
theorem cnv3 {b : Nat} {x1 f1 x2 f2 : Nat} (hx1 : x1 ≤ 800) (hf1 : f1 ≤ 99) (hx2 : x2 ≤ 800) (hf2 : f2 ≤ 99) (hb : b ≤ 480005940) (hf : b % 10000 ≤ 5940) : cnv (x1 * 10000 + f1 + b + (x2 * 10000 + f2)) = x1 * 1000000000 + f1 + cnv b + (x2 * 1000000000 + f2) := by
  unfold cnv
  rw [if_pos (show x1 * 10000 + f1 + b + (x2 * 10000 + f2) < 2000000000 by omega), if_pos (show b < 2000000000 by omega)]
  omega
theorem cnv_min (a b : Nat) : cnv (min a b) = min (cnv a) (cnv b) := by
  rcases Nat.le_total a b with h | h
  · rw [Nat.min_eq_left h, Nat.min_eq_left (cnv_mono h)]
  · rw [Nat.min_eq_right h, Nat.min_eq_right (cnv_mono h)]
theorem cnv_FX : cnv FX = INF := by decide
