-- pure: the reference's goOn relaxes all lanes behind one (own work)
theorem FU_add (m : Nat) (h : m ≤ 10000000000000000000000000000000000000000) : ∃ n, FU = n + m := ⟨FU - m, (Nat.sub_add_cancel (by rw [FU_val]; exact h)).symm⟩
/-- one lane offered behind s -/
def Up1 (N : NET) (s t : Nat) (c c' : Nat → Nat) : Prop := (edge N s t ∧ c s + wt N BB t < c t → c' = va_up c t (c s + wt N BB t)) ∧ (¬ (edge N s t ∧ c s + wt N BB t < c t) → c' = c)
def Roomy (c : Nat → Nat) (s : Nat) : Prop := c s / 1000000000 + 800 < 1000000000 ∧ c s % 1000000000 + 99 < 1000000000
theorem M_comeS {σ : ST} {N : NET} {c : Nat → Nat} (hN : NM σ N) (hc : CMs σ c) {s t r : Nat} (hs : s < 2 * nR N) (hr : r < nR N) (htr : t / 2 = r) (hb : Roomy c s) : ∃ σ', fX5_come (nI t) (σ.1 17 s + 4 * σ.1 5 r) (σ.1 18 s + σ.1 7 r) σ = some (if c s + wt N BB t < c t then 1 else 0, σ') ∧ CMs σ' (if c s + wt N BB t < c t then va_up c t (c s + wt N BB t) else c) ∧ Fr P1718 σ σ' := by
  have hR := hN.1.1
  obtain ⟨h1, h2, h3⟩ := hc s (by omega)
  obtain ⟨-, -, e5, -, e7, -⟩ := hN.2.2.1 r hr
  obtain ⟨w1, w2, w3⟩ := hN.1.2 r hr
  obtain ⟨b1, b2⟩ := hb
  have key : (c s / 1000000000 + 4 * nln N r) * 1000000000 + (c s % 1000000000 + nfe N r) = c s + wt N BB t := by
    unfold wt BB
    rw [htr]
    omega
  obtain ⟨σ', q1, q2, q3⟩ := M_come hc (s := t) (l := c s / 1000000000 + 4 * nln N r) (f := c s % 1000000000 + nfe N r) (by omega) (by omega) (by omega)
  rw [key] at q1 q2
  refine ⟨σ', ?_, q2, q3⟩
  rw [h1, h2, e5, e7, zl4, pk_mul, nI_add, nI_add]
  exact q1
theorem edge_b (N : NET) (s r : Nat) : edge N s (2 * r + 1) ↔ ¬ nba N (s / 2) r ∧ nfr N r = lend N s := by
  unfold edge
  rw [show (2 * r + 1) / 2 = r by omega, if_neg (by omega)]
theorem edge_a (N : NET) (s r : Nat) : edge N s (2 * r) ↔ ¬ nba N (s / 2) r ∧ nto N r = lend N s ∧ nkd N r ≠ 1 := by
  unfold edge
  rw [show (2 * r) / 2 = r by omega, if_pos (by omega)]
theorem lend_lt {σ : ST} {N : NET} (hN : NM σ N) {s : Nat} (hs : s < 2 * nR N) : lend N s < 16 := by
  obtain ⟨-, -, -, -, -, h1, h2, -⟩ := hN.2.2.1 (s / 2) (by omega)
  unfold lend; split <;> assumption
theorem goOn_J92 {σ : ST} {N : NET} {c : Nat → Nat} (hN : NM σ N) (hc : CMs σ c) {s r : Nat} (hs : s < 2 * nR N) (hr : r < nR N) (hb : Roomy c s) (hba : ¬ nba N (s / 2) r) (k : Int32 → Int32 → Int32 → ST → Option (Int32 × ST)) {less : Int32} (hl : less = 0 ∨ less = 1) : ∃ c' σ' less', fX5_goOn_J92 k (nI s) less (nI r) σ = k (nI s) less' (nI (r + 1)) σ' ∧ CMs σ' c' ∧ Fr P1718 σ σ' ∧ Up1 N s (2 * r) c c' ∧ (less' = 0 ∨ less' = 1) ∧ (less' = 1 ↔ less = 1 ∨ (edge N s (2 * r) ∧ c s + wt N BB (2 * r) < c (2 * r))) := by
  have hR := hN.1.1
  obtain ⟨-, e4, -, e6, -, f1, f2, f3⟩ := hN.2.2.1 r hr
  have hle := lend_lt hN hs
  have hir : ib (nI r) 30 = true := ib_nI (by omega) (by decide)
  have his : ib (nI s) 60 = true := ib_nI (by omega) (by decide)
  have hcr : (nI r).toNatClampNeg = r := cl_nI (by omega)
  have hcs : (nI s).toNatClampNeg = s := cl_nI (by omega)
  have nochange : ¬ edge N s (2 * r) → ∃ c' σ' less', k (nI s) less (nI (r + 1)) σ = k (nI s) less' (nI (r + 1)) σ' ∧ CMs σ' c' ∧ Fr P1718 σ σ' ∧ Up1 N s (2 * r) c c' ∧ (less' = 0 ∨ less' = 1) ∧ (less' = 1 ↔ less = 1 ∨ (edge N s (2 * r) ∧ c s + wt N BB (2 * r) < c (2 * r))) := fun hne => ⟨c, σ, less, rfl, hc, Fr.rf, ⟨fun h => absurd h.1 hne, fun _ => rfl⟩, hl, ⟨fun h => Or.inl h, fun h => h.elim id (fun h => absurd h.1 hne)⟩⟩
  unfold fX5_goOn_J92 fX5_goOn_J164 fX5_goOn_J158 fX5_goOn_J163 fX5_goOn_J164
  simp only [hir, his, ↓reduceIte, hcr, hcs, M_knotOf hN hs, cb, Option.bind_some, e4, e6, bindv, zl1, nI_add]
  by_cases g1 : nto N r = lend N s
  · rw [if_pos (by rw [g1])]
    by_cases g2 : nkd N r = 1
    · rw [if_pos (by rw [g2])]
      exact nochange (fun h => ((edge_a N s r).mp h).2.2 g2)
    · rw [if_neg (by rw [eq_nI (by omega) (by omega)]; exact g2)]
      have hed : edge N s (2 * r) := (edge_a N s r).mpr ⟨hba, g1, g2⟩
      obtain ⟨σ', q1, q2, q3⟩ := M_comeS hN hc (t := 2 * r) hs hr (by omega) hb
      rw [show (2 : Int32) * nI r = nI (2 * r) from pk_mul 2 r, q1]
      by_cases g3 : c s + wt N BB (2 * r) < c (2 * r)
      · simp only [if_pos g3, Option.bind_some] at q2 ⊢
        rw [if_neg (by decide)]
        exact ⟨_, σ', nI 1, rfl, q2, q3, ⟨fun _ => rfl, fun h => absurd ⟨hed, g3⟩ h⟩, Or.inr rfl, ⟨fun _ => Or.inr ⟨hed, g3⟩, fun _ => rfl⟩⟩
      · simp only [if_neg g3, Option.bind_some] at q2 ⊢
        rw [if_pos trivial]
        rcases hl with rfl | rfl
        · rw [if_pos rfl]
          exact ⟨c, σ', 0, rfl, q2, q3, ⟨fun h => absurd h.2 g3, fun _ => rfl⟩, Or.inl rfl, ⟨fun h => Or.inl h, fun h => h.elim id (fun h => absurd h.2 g3)⟩⟩
        · rw [if_neg (by decide)]
          exact ⟨c, σ', nI 1, rfl, q2, q3, ⟨fun h => absurd h.2 g3, fun _ => rfl⟩, Or.inr rfl, ⟨fun _ => Or.inl rfl, fun _ => rfl⟩⟩
  · rw [if_neg (by rw [eq_nI (by omega) (by omega)]; exact g1)]
    exact nochange (fun h => g1 ((edge_a N s r).mp h).2.1)
theorem goOn_B {σ : ST} {N : NET} {c : Nat → Nat} (hN : NM σ N) (hc : CMs σ c) {s r : Nat} (hs : s < 2 * nR N) (hr : r < nR N) (hb : Roomy c s) (k : Int32 → Int32 → Int32 → ST → Option (Int32 × ST)) {less : Int32} (hl : less = 0 ∨ less = 1) : ∃ c1 c' σ' less', fX5_goOn_B4 k (nI s) less (nI r) σ = k (nI s) less' (nI (r + 1)) σ' ∧ CMs σ' c' ∧ Fr P1718 σ σ' ∧ Up1 N s (2 * r + 1) c c1 ∧ Up1 N s (2 * r) c1 c' ∧ (less' = 0 ∨ less' = 1) ∧ (less' = 1 ↔ less = 1 ∨ (edge N s (2 * r + 1) ∧ c s + wt N BB (2 * r + 1) < c (2 * r + 1)) ∨ (edge N s (2 * r) ∧ c1 s + wt N BB (2 * r) < c1 (2 * r))) := by
  have hR := hN.1.1
  obtain ⟨e3, -, -, -, -, f1, f2, f3⟩ := hN.2.2.1 r hr
  have hle := lend_lt hN hs
  have hir : ib (nI r) 30 = true := ib_nI (by omega) (by decide)
  have his : ib (nI s) 60 = true := ib_nI (by omega) (by decide)
  have hcr : (nI r).toNatClampNeg = r := cl_nI (by omega)
  have hcs : (nI s).toNatClampNeg = s := cl_nI (by omega)
  have hdv : (30 : Int32) * (nI s / 2) + nI r = nI (30 * (s / 2) + r) := by
    rw [show nI s / 2 = nI (s / 2) from div_nI (by omega) (by decide) (by decide), show (30 : Int32) * nI (s / 2) = nI (30 * (s / 2)) from pk_mul 30 (s / 2), nI_add]
  have hi9 : ib (nI (30 * (s / 2) + r)) 900 = true := ib_nI (by omega) (by decide)
  have hc9 : (nI (30 * (s / 2) + r)).toNatClampNeg = 30 * (s / 2) + r := cl_nI (by omega)
  have h8 := hN.2.2.2 (s / 2) r (by omega) hr
  -- up to the second half
  have second : ∀ (σ1 : ST) (c1 : Nat → Nat) (l1 : Int32), Fr P1718 σ σ1 → CMs σ1 c1 → Up1 N s (2 * r + 1) c c1 → ¬ nba N (s / 2) r → (l1 = 0 ∨ l1 = 1) → (l1 = 1 ↔ less = 1 ∨ (edge N s (2 * r + 1) ∧ c s + wt N BB (2 * r + 1) < c (2 * r + 1))) → ∃ c1 c' σ' less', fX5_goOn_J92 k (nI s) l1 (nI r) σ1 = k (nI s) less' (nI (r + 1)) σ' ∧ CMs σ' c' ∧ Fr P1718 σ σ' ∧ Up1 N s (2 * r + 1) c c1 ∧ Up1 N s (2 * r) c1 c' ∧ (less' = 0 ∨ less' = 1) ∧ (less' = 1 ↔ less = 1 ∨ (edge N s (2 * r + 1) ∧ c s + wt N BB (2 * r + 1) < c (2 * r + 1)) ∨ (edge N s (2 * r) ∧ c1 s + wt N BB (2 * r) < c1 (2 * r))) := by
    intro σ1 c1 l1 hF hc1 hu hnb hl1 hl1e
    have hcs1 : c1 s = c s := by
      by_cases hq : edge N s (2 * r + 1) ∧ c s + wt N BB (2 * r + 1) < c (2 * r + 1)
      · rw [hu.1 hq]
        by_cases hst : s = 2 * r + 1
        · exfalso; rw [← hst] at hq; omega
        · exact upc_n _ _ hst
      · rw [hu.2 hq]
    have hN1 := hN.fr hF (fun a b h => by rcases h with h | h <;> omega)
    obtain ⟨c', σ', less', q1, q2, q3, q4, q5, q6⟩ := goOn_J92 hN1 hc1 hs hr (by unfold Roomy; rw [hcs1]; exact hb) hnb k hl1
    refine ⟨c1, c', σ', less', q1, q2, hF.tr q3, hu, q4, q5, ?_⟩
    rw [q6, hl1e, or_assoc]
  unfold fX5_goOn_B4
  simp only [hdv]
  rw [hN.2.1, if_neg (by rw [le_nI (by omega) (by omega)]; omega), if_pos hi9, hc9]
  by_cases gb : nba N (s / 2) r
  · rw [if_neg (fun h => (h8.mp h) gb)]
    unfold fX5_goOn_J164
    simp only [bindv, zl1, nI_add]
    have n1 : ¬ edge N s (2 * r + 1) := fun h => ((edge_b N s r).mp h).1 gb
    have n0 : ¬ edge N s (2 * r) := fun h => ((edge_a N s r).mp h).1 gb
    exact ⟨c, c, σ, less, rfl, hc, Fr.rf, ⟨fun h => absurd h.1 n1, fun _ => rfl⟩, ⟨fun h => absurd h.1 n0, fun _ => rfl⟩, hl, ⟨fun h => Or.inl h, fun h => h.elim id (fun h => h.elim (fun h => absurd h.1 n1) (fun h => absurd h.1 n0))⟩⟩
  · rw [if_pos (h8.mpr gb)]
    unfold fX5_goOn_J86 fX5_goOn_J91
    simp only [hir, his, ↓reduceIte, hcr, hcs, M_knotOf hN hs, cb, Option.bind_some, e3]
    by_cases g1 : nfr N r = lend N s
    · rw [if_pos (by rw [g1])]
      have hed : edge N s (2 * r + 1) := (edge_b N s r).mpr ⟨gb, g1⟩
      obtain ⟨σ', q1, q2, q3⟩ := M_comeS hN hc (t := 2 * r + 1) hs hr (by omega) hb
      rw [show (2 : Int32) * nI r + 1 = nI (2 * r + 1) from by rw [show (2 : Int32) * nI r = nI (2 * r) from pk_mul 2 r]; exact nI_1 (2 * r), q1]
      by_cases g3 : c s + wt N BB (2 * r + 1) < c (2 * r + 1)
      · simp only [if_pos g3, Option.bind_some] at q2 ⊢
        rw [if_neg (by decide)]
        exact second σ' _ 1 q3 q2 ⟨fun _ => rfl, fun h => absurd ⟨hed, g3⟩ h⟩ gb (Or.inr rfl) ⟨fun _ => Or.inr ⟨hed, g3⟩, fun _ => rfl⟩
      · simp only [if_neg g3, Option.bind_some] at q2 ⊢
        rw [if_pos trivial]
        have hu : Up1 N s (2 * r + 1) c c := ⟨fun h => absurd h.2 g3, fun _ => rfl⟩
        rcases hl with rfl | rfl
        · rw [if_pos rfl]
          exact second σ' c 0 q3 q2 hu gb (Or.inl rfl) ⟨fun h => Or.inl h, fun h => h.elim id (fun h => absurd h.2 g3)⟩
        · rw [if_neg (by decide)]
          exact second σ' c 1 q3 q2 hu gb (Or.inr rfl) ⟨fun _ => Or.inl rfl, fun _ => rfl⟩
    · rw [if_neg (by rw [eq_nI (by omega) (by omega)]; exact g1)]
      have n1 : ¬ edge N s (2 * r + 1) := fun h => g1 ((edge_b N s r).mp h).2
      exact second σ c less Fr.rf hc ⟨fun h => absurd h.1 n1, fun _ => rfl⟩ gb hl ⟨fun h => Or.inl h, fun h => h.elim id (fun h => absurd h.1 n1)⟩
/-- all lanes below n offered behind s -/
def Rlx (N : NET) (s n : Nat) (c c' : Nat → Nat) : Prop := ∀ t, (t < n ∧ edge N s t → c' t = min (c t) (c s + wt N BB t)) ∧ (¬ (t < n ∧ edge N s t) → c' t = c t)
theorem Rlx.self {N : NET} {s n : Nat} {c c' : Nat → Nat} (h : Rlx N s n c c') : c' s = c s := by
  by_cases hq : s < n ∧ edge N s s
  · rw [(h s).1 hq]; omega
  · exact (h s).2 hq
theorem Rlx.two {N : NET} {s r : Nat} {c c1 c2 c3 : Nat → Nat} (h : Rlx N s (2 * r) c c1) (h1 : Up1 N s (2 * r + 1) c1 c2) (h2 : Up1 N s (2 * r) c2 c3) : Rlx N s (2 * r + 2) c c3 := by
  have hs1 := h.self
  have hs2 : c2 s = c s := by
    by_cases hq : edge N s (2 * r + 1) ∧ c1 s + wt N BB (2 * r + 1) < c1 (2 * r + 1)
    · rw [h1.1 hq]
      by_cases hst : s = 2 * r + 1
      · exfalso; rw [← hst] at hq; omega
      · rw [upc_n _ _ hst]; exact hs1
    · rw [h1.2 hq]; exact hs1
  have a2 : ∀ t, t ≠ 2 * r + 1 → c2 t = c1 t := fun t ht => by
    by_cases hq : edge N s (2 * r + 1) ∧ c1 s + wt N BB (2 * r + 1) < c1 (2 * r + 1)
    · rw [h1.1 hq, upc_n _ _ ht]
    · rw [h1.2 hq]
  have a3 : ∀ t, t ≠ 2 * r → c3 t = c2 t := fun t ht => by
    by_cases hq : edge N s (2 * r) ∧ c2 s + wt N BB (2 * r) < c2 (2 * r)
    · rw [h2.1 hq, upc_n _ _ ht]
    · rw [h2.2 hq]
  intro t
  by_cases t1 : t = 2 * r + 1
  · subst t1
    have e0 : c1 (2 * r + 1) = c (2 * r + 1) := (h _).2 (fun q => by omega)
    rw [a3 _ (by omega)]
    refine ⟨fun hq => ?_, fun hq => ?_⟩
    · by_cases hlt : c1 s + wt N BB (2 * r + 1) < c1 (2 * r + 1)
      · rw [h1.1 ⟨hq.2, hlt⟩, upc_s]; omega
      · rw [h1.2 (fun z => hlt z.2)]; omega
    · rw [h1.2 (fun z => hq ⟨by omega, z.1⟩)]; exact e0
  · by_cases t0 : t = 2 * r
    · subst t0
      have e0 : c2 (2 * r) = c (2 * r) := (a2 _ (by omega)).trans ((h _).2 (fun q => by omega))
      refine ⟨fun hq => ?_, fun hq => ?_⟩
      · by_cases hlt : c2 s + wt N BB (2 * r) < c2 (2 * r)
        · rw [h2.1 ⟨hq.2, hlt⟩, upc_s]; omega
        · rw [h2.2 (fun z => hlt z.2)]; omega
      · rw [h2.2 (fun z => hq ⟨by omega, z.1⟩)]; exact e0
    · rw [a3 t t0, a2 t t1]
      refine ⟨fun hq => (h t).1 ⟨by omega, hq.2⟩, fun hq => (h t).2 (fun z => hq ⟨by omega, z.2⟩)⟩
theorem goOn_L {N : NET} {c0 : Nat → Nat} {s : Nat} (hs : s < 2 * nR N) (hb : Roomy c0 s) : ∀ (j r : Nat) (σ : ST) (c : Nat → Nat) (less : Int32) (n : Nat), r + j = nR N → j < n → NM σ N → CMs σ c → Rlx N s (2 * r) c0 c → (less = 0 ∨ less = 1) → (less = 1 ↔ ∃ t, t < 2 * r ∧ edge N s t ∧ c0 s + wt N BB t < c0 t) → ∃ c' σ' less', fX5_goOn_L4 n (nI s) less (nI r) σ = some (less', σ') ∧ CMs σ' c' ∧ Fr P1718 σ σ' ∧ Rlx N s (2 * nR N) c0 c' ∧ (less' = 0 ∨ less' = 1) ∧ (less' = 1 ↔ ∃ t, t < 2 * nR N ∧ edge N s t ∧ c0 s + wt N BB t < c0 t) := by
  intro j
  induction j with
  | zero =>
    intro r σ c less n hr hn hN hc hx hl hle
    obtain ⟨n, rfl⟩ : ∃ m, n = m + 1 := ⟨n - 1, by omega⟩
    have hR := hN.1.1
    refine ⟨c, σ, less, ?_, hc, Fr.rf, by rw [← hr]; exact hx, hl, by rw [← hr]; exact hle⟩
    show fX5_goOn_B4 _ (nI s) less (nI r) σ = _
    unfold fX5_goOn_B4
    rw [hN.2.1, if_pos (by rw [le_nI (by omega) (by omega)]; omega), if_pos hl]
  | succ j ih =>
    intro r σ c less n hr hn hN hc hx hl hle
    obtain ⟨n, rfl⟩ : ∃ m, n = m + 1 := ⟨n - 1, by omega⟩
    have hcs := hx.self
    obtain ⟨c1, c', σ', less', q1, q2, q3, q4, q5, q6, q7⟩ := goOn_B hN hc hs (r := r) (by omega) (by unfold Roomy; rw [hcs]; exact hb) (fun l1 l2 l3 σ => fX5_goOn_L4 n l1 l2 l3 σ) hl
    have hx' : Rlx N s (2 * (r + 1)) c0 c' := hx.two q4 q5
    have e1 : c (2 * r + 1) = c0 (2 * r + 1) := (hx _).2 (fun q => by omega)
    have e0 : c (2 * r) = c0 (2 * r) := (hx _).2 (fun q => by omega)
    have ne : ∀ x : Nat, x ≠ 2 * r + 1 → c1 x = c x := fun x hxx => by
      by_cases hq : edge N s (2 * r + 1) ∧ c s + wt N BB (2 * r + 1) < c (2 * r + 1)
      · rw [q4.1 hq, upc_n _ _ hxx]
      · rw [q4.2 hq]
    have e0' : c1 (2 * r) = c0 (2 * r) := (ne _ (by omega)).trans e0
    have es' : c1 s = c0 s := by
      by_cases hst : s = 2 * r + 1
      · have : ¬ (edge N s (2 * r + 1) ∧ c s + wt N BB (2 * r + 1) < c (2 * r + 1)) := fun hq => by rw [← hst] at hq; omega
        rw [q4.2 this]; exact hcs
      · rw [ne s hst]; exact hcs
    have hle' : less' = 1 ↔ ∃ t, t < 2 * (r + 1) ∧ edge N s t ∧ c0 s + wt N BB t < c0 t := by
      rw [q7, hle, hcs, e1, es', e0']
      constructor
      · rintro (⟨t, h1, h2, h3⟩ | ⟨h2, h3⟩ | ⟨h2, h3⟩)
        · exact ⟨t, by omega, h2, h3⟩
        · exact ⟨_, by omega, h2, h3⟩
        · exact ⟨_, by omega, h2, h3⟩
      · rintro ⟨t, h1, h2, h3⟩
        rcases (show t < 2 * r ∨ t = 2 * r + 1 ∨ t = 2 * r by omega) with h | rfl | rfl
        · exact Or.inl ⟨t, h, h2, h3⟩
        · exact Or.inr (Or.inl ⟨h2, h3⟩)
        · exact Or.inr (Or.inr ⟨h2, h3⟩)
    obtain ⟨c'', σ'', less'', p1, p2, p3, p4, p5, p6⟩ := ih (r + 1) σ' c' less' n (by omega) (by omega) (hN.fr q3 (fun a b h => by rcases h with h | h <;> omega)) q2 hx' q6 hle'
    exact ⟨c'', σ'', less'', q1.trans p1, p2, q3.tr p3, p4, p5, p6⟩
theorem M_goOn {σ : ST} {N : NET} {c : Nat → Nat} (hN : NM σ N) (hc : CMs σ c) {s : Nat} (hs : s < 2 * nR N) (hb : Roomy c s) : ∃ c' σ' less, fX5_goOn (nI s) σ = some (less, σ') ∧ CMs σ' c' ∧ Fr P1718 σ σ' ∧ Rlx N s (2 * nR N) c c' ∧ (less = 0 ∨ less = 1) ∧ (less = 1 ↔ ∃ t, t < 2 * nR N ∧ edge N s t ∧ c s + wt N BB t < c t) := by
  have hR := hN.1.1
  obtain ⟨n, hn⟩ := FU_add 100 (by decide)
  unfold fX5_goOn
  rw [hn]
  exact goOn_L hs hb (nR N) 0 σ c 0 (n + 100) (by omega) (by omega) hN hc (fun t => ⟨fun h => by omega, fun _ => rfl⟩) (Or.inl rfl) ⟨fun h => absurd h (by decide), fun ⟨t, h, _⟩ => by omega⟩
