-- pure: the reference's table of ways (own work)
theorem lst_congr {I : Nat} {P Q : Nat → Prop} {v : Nat} (h : ∀ u, P u ↔ Q u) (hl : Lst I P v) : Lst I Q v := ⟨fun z => (h v).mp (hl.1 z), fun u hu => hl.2.1 u ((h u).mpr hu), hl.2.2⟩
theorem lst_add {I x v : Nat} {P : Nat → Prop} (h : Lst I P v) (hx : x < I) : Lst I (fun u => P u ∨ u = x) (min v x) := by
  obtain ⟨h1, h2, h3⟩ := h
  refine ⟨fun _ => ?_, fun u hu => ?_, by omega⟩
  · rcases Nat.lt_or_ge v x with q | q
    · left; rw [show min v x = v by omega]; exact h1 (by omega)
    · right; omega
  · rcases hu with hu | rfl
    · have := h2 u hu; omega
    · omega
def At2 (σ : ST) (a v : Nat) : Prop := σ.1 15 a = nI (v / 1000000000) ∧ σ.1 16 a = nI (v % 1000000000) ∧ v ≤ INF
abbrev P1516 (k : Nat) : Nat → Nat → Prop := fun a b => (a = 15 ∨ a = 16) ∧ b = k
theorem M_offer {σ : ST} {a v l f : Nat} (ha : a < 22500) (hv : At2 σ a v) (hl : l < 1000000000) (hf : f < 1000000000) : ∃ σ', fX5_offer (nI a) (nI l) (nI f) σ = some ((), σ') ∧ At2 σ' a (min v (l * 1000000000 + f)) ∧ Fr (P1516 a) σ σ' := by
  obtain ⟨h1, h2, h3⟩ := hv
  have hINF : INF = 1000000000000000000 := rfl
  have hib : ib (nI a) 22500 = true := ib_nI ha (by decide)
  have hcl : (nI a).toNatClampNeg = a := cl_nI (by omega)
  have upd : l * 1000000000 + f ≤ v → ∃ σ', fX5_offer_J30 (nI a) (nI l) (nI f) σ = some ((), σ') ∧ At2 σ' a (min v (l * 1000000000 + f)) ∧ Fr (P1516 a) σ σ' := by
    intro hle
    refine ⟨stI (stI σ 15 a (nI l)) 16 a (nI f), ?_, ?_, (Fr.rf.st ⟨Or.inl rfl, rfl⟩).st ⟨Or.inr rfl, rfl⟩⟩
    · unfold fX5_offer_J30
      simp only [bindv, hib, hcl, ↓reduceIte]
    · rw [show min v (l * 1000000000 + f) = l * 1000000000 + f by omega]
      refine ⟨?_, ?_, by omega⟩
      · rw [st_cell _ _ _ (by decide), st_at]; congr 1; omega
      · rw [st_at]; congr 1; omega
  have keep : v ≤ l * 1000000000 + f → ∃ σ', some ((), σ) = some ((), σ') ∧ At2 σ' a (min v (l * 1000000000 + f)) ∧ Fr (P1516 a) σ σ' := by
    intro hle
    rw [show min v (l * 1000000000 + f) = v by omega]
    exact ⟨σ, rfl, ⟨h1, h2, h3⟩, Fr.rf⟩
  unfold fX5_offer
  rw [if_pos hib, if_pos hib, if_pos hib, hcl, h1, h2]
  by_cases g1 : l < v / 1000000000
  · rw [if_pos ((lt_nI (by omega) (by omega)).mpr g1)]
    exact upd (by omega)
  · rw [if_neg (by rw [lt_nI (by omega) (by omega)]; exact g1)]
    by_cases g2 : l = v / 1000000000
    · rw [if_pos (by rw [g2])]
      by_cases g3 : v % 1000000000 ≤ f
      · rw [if_pos ((le_nI (by omega) (by omega)).mpr g3)]
        exact keep (by omega)
      · rw [if_neg (by rw [le_nI (by omega) (by omega)]; exact g3)]
        exact upd (by omega)
    · rw [if_neg (by rw [eq_nI (by omega) (by omega)]; exact g2)]
      exact keep (by omega)
def candU (N : NET) (p q : Nat) (d : Nat → Nat) (n u : Nat) : Prop := along N p q u ∨ (∃ s, s < n ∧ d s < INF ∧ edge N s (2 * (q / 5) + 1) ∧ u = d s + pw N BB (q / 5) (q % 5)) ∨ ∃ s, s < n ∧ d s < INF ∧ edge N s (2 * (q / 5)) ∧ u = d s + pw N BB (q / 5) (4 - q % 5)
theorem candU_no {N : NET} {p q : Nat} {d : Nat → Nat} {n : Nat} (h1 : ¬ (d n < INF ∧ edge N n (2 * (q / 5) + 1))) (h2 : ¬ (d n < INF ∧ edge N n (2 * (q / 5)))) (u : Nat) : candU N p q d n u ↔ candU N p q d (n + 1) u := by
  unfold candU
  constructor
  · rintro (h | ⟨s, hs, a, b, c⟩ | ⟨s, hs, a, b, c⟩)
    · exact Or.inl h
    · exact Or.inr (Or.inl ⟨s, by omega, a, b, c⟩)
    · exact Or.inr (Or.inr ⟨s, by omega, a, b, c⟩)
  · rintro (h | ⟨s, hs, a, b, c⟩ | ⟨s, hs, a, b, c⟩)
    · exact Or.inl h
    · rcases Nat.lt_or_ge s n with z | z
      · exact Or.inr (Or.inl ⟨s, z, a, b, c⟩)
      · have : s = n := by omega
        subst this; exact absurd ⟨a, b⟩ h1
    · rcases Nat.lt_or_ge s n with z | z
      · exact Or.inr (Or.inr ⟨s, z, a, b, c⟩)
      · have : s = n := by omega
        subst this; exact absurd ⟨a, b⟩ h2
theorem candU_split {N : NET} {p q : Nat} {d : Nat → Nat} {n u : Nat} : candU N p q d (n + 1) u ↔ candU N p q d n u ∨ (d n < INF ∧ edge N n (2 * (q / 5) + 1) ∧ u = d n + pw N BB (q / 5) (q % 5)) ∨ (d n < INF ∧ edge N n (2 * (q / 5)) ∧ u = d n + pw N BB (q / 5) (4 - q % 5)) := by
  unfold candU
  constructor
  · rintro (h | ⟨s, hs, a, b, c⟩ | ⟨s, hs, a, b, c⟩)
    · exact Or.inl (Or.inl h)
    · rcases Nat.lt_or_ge s n with z | z
      · exact Or.inl (Or.inr (Or.inl ⟨s, z, a, b, c⟩))
      · have : s = n := by omega
        subst this; exact Or.inr (Or.inl ⟨a, b, c⟩)
    · rcases Nat.lt_or_ge s n with z | z
      · exact Or.inl (Or.inr (Or.inr ⟨s, z, a, b, c⟩))
      · have : s = n := by omega
        subst this; exact Or.inr (Or.inr ⟨a, b, c⟩)
  · rintro ((h | ⟨s, hs, a, b, c⟩ | ⟨s, hs, a, b, c⟩) | ⟨a, b, c⟩ | ⟨a, b, c⟩)
    · exact Or.inl h
    · exact Or.inr (Or.inl ⟨s, by omega, a, b, c⟩)
    · exact Or.inr (Or.inr ⟨s, by omega, a, b, c⟩)
    · exact Or.inr (Or.inl ⟨n, by omega, a, b, c⟩)
    · exact Or.inr (Or.inr ⟨n, by omega, a, b, c⟩)
def Small (c : Nat → Nat) : Prop := ∀ t, t < 60 → c t < INF → c t / 1000000000 ≤ 48000 ∧ c t % 1000000000 ≤ 4752000
theorem Jst.small {N : NET} {ini c : Nat → Nat} (h : Jst N ini c) : Small c := fun t ht hc => by
  obtain ⟨h1, h2⟩ := h.2.2 t ht hc
  have := rank_le c INF 60
  omega
theorem CMs.fr {P : Nat → Nat → Prop} {σ σ' : ST} {c : Nat → Nat} (h : CMs σ c) (hF : Fr P σ σ') (hP : ∀ a b, P a b → a ≠ 17 ∧ a ≠ 18) : CMs σ' c := fun s hs => by
  obtain ⟨h1, h2, h3⟩ := h s hs
  exact ⟨(hF.1 17 s (fun z => (hP _ _ z).1 rfl)).trans h1, (hF.1 18 s (fun z => (hP _ _ z).2 rfl)).trans h2, h3⟩
theorem reach_J217 {σ : ST} {N : NET} {c : Nat → Nat} (hN : NM σ N) (hc : CMs σ c) (hsm : Small c) {p q s v a : Nat} (hq : q < 5 * nR N) (hs : s < 2 * nR N) (hcs : c s < INF) (ha : a < 22500) (hv : At2 σ a v) (hba : ¬ nba N (s / 2) (q / 5)) (k : Int32 → Int32 → Int32 → Int32 → ST → Option (Unit × ST)) (P : Nat → Prop) (hl : Lst INF P v) : ∃ σ' v', fX5_reach_J217 k (nI a) (nI (q / 5)) (nI (q % 5)) (nI s) σ = k (nI a) (nI (q / 5)) (nI (q % 5)) (nI (s + 1)) σ' ∧ At2 σ' a v' ∧ Fr (P1516 a) σ σ' ∧ Lst INF (fun u => P u ∨ (c s < INF ∧ edge N s (2 * (q / 5)) ∧ u = c s + pw N BB (q / 5) (4 - q % 5))) v' := by
  have hR := hN.1.1
  have hr : q / 5 < nR N := by omega
  obtain ⟨-, e4, e5, e6, -, x1, x2, x3⟩ := hN.2.2.1 (q / 5) hr
  have hle := lend_lt hN hs
  have hir : ib (nI (q / 5)) 30 = true := ib_nI (by omega) (by decide)
  have his : ib (nI s) 60 = true := ib_nI (by omega) (by decide)
  have hcr : (nI (q / 5)).toNatClampNeg = q / 5 := cl_nI (by omega)
  have hcl : (nI s).toNatClampNeg = s := cl_nI (by omega)
  obtain ⟨y1, y2, y3⟩ := hc s (by omega)
  obtain ⟨z1, z2⟩ := hsm s (by omega) hcs
  have hINF : INF = 1000000000000000000 := rfl
  have same : ¬ edge N s (2 * (q / 5)) → ∃ σ' v', k (nI a) (nI (q / 5)) (nI (q % 5)) (nI (s + 1)) σ = k (nI a) (nI (q / 5)) (nI (q % 5)) (nI (s + 1)) σ' ∧ At2 σ' a v' ∧ Fr (P1516 a) σ σ' ∧ Lst INF (fun u => P u ∨ (c s < INF ∧ edge N s (2 * (q / 5)) ∧ u = c s + pw N BB (q / 5) (4 - q % 5))) v' := fun hne => ⟨σ, v, rfl, hv, Fr.rf, lst_congr (fun u => ⟨fun h => Or.inl h, fun h => h.elim id (fun h => absurd h.2.1 hne)⟩) hl⟩
  have h4k : (4 : Int32) - nI (q % 5) = nI (4 - q % 5) := by rw [zl4]; exact sub_nI (by omega)
  unfold fX5_reach_J217 fX5_reach_J287
  simp only [hir, his, ↓reduceIte, hcr, hcl, M_knotOf hN hs, cb, Option.bind_some, e4, e5, e6, bindv, zl1, nI_add]
  by_cases g1 : nto N (q / 5) = lend N s
  · rw [if_pos (by rw [g1])]
    by_cases g2 : nkd N (q / 5) = 1
    · rw [if_pos (by rw [g2])]
      exact same (fun h => ((edge_a N s _).mp h).2.2 g2)
    · rw [if_neg (by rw [eq_nI (by omega) (by omega)]; exact g2)]
      have hed : edge N s (2 * (q / 5)) := (edge_a N s _).mpr ⟨hba, g1, g2⟩
      obtain ⟨a1, a2, a3, a4⟩ := pw_lt hN.1 hr (k := 4 - q % 5) (by omega)
      obtain ⟨w1, w2, w3⟩ := hN.1.2 (q / 5) hr
      simp only [h4k, M_feeOf hN hr (show 4 - q % 5 < 2147483648 by omega), Option.bind_some, y1, y2, pk_mul, nI_add]
      have hfe : (if 4 - q % 5 = 0 then 0 else nfe N (q / 5)) ≤ 99 := by split <;> omega
      obtain ⟨σ', q1, q2, q3⟩ := M_offer (l := c s / 1000000000 + (4 - q % 5) * nln N (q / 5)) (f := c s % 1000000000 + (if 4 - q % 5 = 0 then 0 else nfe N (q / 5))) ha hv (by omega) (by omega)
      have key : (c s / 1000000000 + (4 - q % 5) * nln N (q / 5)) * 1000000000 + (c s % 1000000000 + (if 4 - q % 5 = 0 then 0 else nfe N (q / 5))) = c s + pw N BB (q / 5) (4 - q % 5) := by rw [a1]; omega
      rw [q1]
      simp only [Option.bind_some]
      rw [key] at q2
      refine ⟨σ', _, rfl, q2, q3, lst_congr (fun u => ?_) (lst_add hl (x := c s + pw N BB (q / 5) (4 - q % 5)) (by rw [a1]; omega))⟩
      exact ⟨fun h => h.elim Or.inl (fun h => Or.inr ⟨hcs, hed, h⟩), fun h => h.elim Or.inl (fun h => Or.inr h.2.2)⟩
  · rw [if_neg (by rw [eq_nI (by omega) (by omega)]; exact g1)]
    exact same (fun h => g1 ((edge_a N s _).mp h).2.1)
theorem reach_L {N : NET} {c : Nat → Nat} (hNw : WFN N) (hsm : Small c) {p q a : Nat} (hq : q < 5 * nR N) (ha : a < 22500) : ∀ (j s : Nat) (σ : ST) (v n : Nat), s + j = 2 * nR N → j < n → NM σ N → CMs σ c → At2 σ a v → Lst INF (candU N p q c s) v → ∃ σ' v', fX5_reach_L121 n (nI a) (nI (q / 5)) (nI (q % 5)) (nI s) σ = some ((), σ') ∧ At2 σ' a v' ∧ Fr (P1516 a) σ σ' ∧ Lst INF (candU N p q c (2 * nR N)) v' := by
  have hR := hNw.1
  have hINF : INF = 1000000000000000000 := rfl
  have hr : q / 5 < nR N := by omega
  intro j
  induction j with
  | zero =>
    intro s σ v n hsj hn hN hc hv hl
    obtain ⟨n, rfl⟩ : ∃ m, n = m + 1 := ⟨n - 1, by omega⟩
    refine ⟨σ, v, ?_, hv, Fr.rf, by rw [show 2 * nR N = s by omega]; exact hl⟩
    rw [uX5_reach_L121]
    unfold fX5_reach_B121
    rw [hN.2.1, show (2 : Int32) * nI (nR N) = nI (2 * nR N) from pk_mul 2 _, if_pos (by rw [le_nI (by omega) (by omega)]; omega)]
  | succ j ih =>
    intro s σ v n hsj hn hN hc hv hl
    obtain ⟨n, rfl⟩ : ∃ m, n = m + 1 := ⟨n - 1, by omega⟩
    have hs : s < 2 * nR N := by omega
    have hle := lend_lt hN hs
    obtain ⟨y1, y2, y3⟩ := hc s (by omega)
    obtain ⟨e3, -, e5, -, -, x1, x2, x3⟩ := hN.2.2.1 (q / 5) hr
    have h8 := hN.2.2.2 (s / 2) (q / 5) (by omega) hr
    have hir : ib (nI (q / 5)) 30 = true := ib_nI (by omega) (by decide)
    have his : ib (nI s) 60 = true := ib_nI (by omega) (by decide)
    have hcr : (nI (q / 5)).toNatClampNeg = q / 5 := cl_nI (by omega)
    have hcl : (nI s).toNatClampNeg = s := cl_nI (by omega)
    have hdv : (30 : Int32) * (nI s / 2) + nI (q / 5) = nI (30 * (s / 2) + q / 5) := by
      rw [show nI s / 2 = nI (s / 2) from div_nI (by omega) (by decide) (by decide), show (30 : Int32) * nI (s / 2) = nI (30 * (s / 2)) from pk_mul 30 (s / 2), nI_add]
    have hi9 : ib (nI (30 * (s / 2) + q / 5)) 900 = true := ib_nI (by omega) (by decide)
    have hc9 : (nI (30 * (s / 2) + q / 5)).toNatClampNeg = 30 * (s / 2) + q / 5 := cl_nI (by omega)
    -- going on with the next lane
    have next : ∀ (σ1 : ST) (v1 : Nat), Fr (P1516 a) σ σ1 → At2 σ1 a v1 → Lst INF (candU N p q c (s + 1)) v1 → ∃ σ' v', fX5_reach_L121 n (nI a) (nI (q / 5)) (nI (q % 5)) (nI (s + 1)) σ1 = some ((), σ') ∧ At2 σ' a v' ∧ Fr (P1516 a) σ σ' ∧ Lst INF (candU N p q c (2 * nR N)) v' := by
      intro σ1 v1 hF hv1 hl1
      obtain ⟨σ', v', p1, p2, p3, p4⟩ := ih (s + 1) σ1 v1 n (by omega) (by omega) (hN.fr hF (fun a b h => by rcases h.1 with h | h <;> omega)) (hc.fr hF (fun a b h => by rcases h.1 with h | h <;> omega)) hv1 hl1
      exact ⟨σ', v', p1, p2, hF.tr p3, p4⟩
    rw [uX5_reach_L121]
    unfold fX5_reach_B121
    simp only [hdv]
    rw [hN.2.1, show (2 : Int32) * nI (nR N) = nI (2 * nR N) from pk_mul 2 _, if_neg (by rw [le_nI (by omega) (by omega)]; omega), if_pos his, hcl, y1]
    by_cases hfin : c s < INF
    · rw [if_neg (by rw [show (1000000000 : Int32) = nI 1000000000 from rfl, le_nI (by omega) (by omega)]; omega), if_pos hi9, hc9]
      obtain ⟨z1, z2⟩ := hsm s (by omega) hfin
      by_cases gb : nba N (s / 2) (q / 5)
      · rw [if_neg (fun h => (h8.mp h) gb)]
        unfold fX5_reach_J287
        simp only [bindv, zl1, nI_add]
        exact next σ v Fr.rf hv (lst_congr (candU_no (fun z => ((edge_b N s _).mp z.2).1 gb) (fun z => ((edge_a N s _).mp z.2).1 gb)) hl)
      · rw [if_pos (h8.mpr gb)]
        have second : ∀ (σ1 : ST) (v1 : Nat), Fr (P1516 a) σ σ1 → At2 σ1 a v1 → Lst INF (fun u => candU N p q c s u ∨ (c s < INF ∧ edge N s (2 * (q / 5) + 1) ∧ u = c s + pw N BB (q / 5) (q % 5))) v1 → ∃ σ' v', fX5_reach_J217 (fun l3 l4 l5 l7 σ => fX5_reach_L121 n l3 l4 l5 l7 σ) (nI a) (nI (q / 5)) (nI (q % 5)) (nI s) σ1 = some ((), σ') ∧ At2 σ' a v' ∧ Fr (P1516 a) σ σ' ∧ Lst INF (candU N p q c (2 * nR N)) v' := by
          intro σ1 v1 hF hv1 hl1
          obtain ⟨σ2, v2, p1, p2, p3, p4⟩ := reach_J217 (p := p) (hN.fr hF (fun a b h => by rcases h.1 with h | h <;> omega)) (hc.fr hF (fun a b h => by rcases h.1 with h | h <;> omega)) hsm hq hs hfin ha hv1 gb (fun l3 l4 l5 l7 σ => fX5_reach_L121 n l3 l4 l5 l7 σ) _ hl1
          rw [p1]
          exact next σ2 v2 (hF.tr p3) p2 (lst_congr (fun u => by rw [candU_split, or_assoc]) p4)
        simp only [hir, ↓reduceIte, hcr, M_knotOf hN hs, cb, Option.bind_some, e3]
        by_cases g1 : nfr N (q / 5) = lend N s
        · rw [if_pos (by rw [g1])]
          have hed : edge N s (2 * (q / 5) + 1) := (edge_b N s _).mpr ⟨gb, g1⟩
          obtain ⟨a1, a2, a3, a4⟩ := pw_lt hN.1 hr (k := q % 5) (by omega)
          obtain ⟨w1, w2, w3⟩ := hN.1.2 (q / 5) hr
          simp only [his, ↓reduceIte, M_feeOf hN hr (show q % 5 < 2147483648 by omega), Option.bind_some, y1, y2, e5, pk_mul, nI_add]
          have hfe : (if q % 5 = 0 then 0 else nfe N (q / 5)) ≤ 99 := by split <;> omega
          obtain ⟨σ1, q1, q2, q3⟩ := M_offer (l := c s / 1000000000 + (q % 5) * nln N (q / 5)) (f := c s % 1000000000 + (if q % 5 = 0 then 0 else nfe N (q / 5))) ha hv (by omega) (by omega)
          have key : (c s / 1000000000 + (q % 5) * nln N (q / 5)) * 1000000000 + (c s % 1000000000 + (if q % 5 = 0 then 0 else nfe N (q / 5))) = c s + pw N BB (q / 5) (q % 5) := by rw [a1]; omega
          rw [q1]
          simp only [Option.bind_some]
          rw [key] at q2
          exact second σ1 _ q3 q2 (lst_congr (fun u => ⟨fun h => h.elim Or.inl (fun h => Or.inr ⟨hfin, hed, h⟩), fun h => h.elim Or.inl (fun h => Or.inr h.2.2)⟩) (lst_add hl (x := c s + pw N BB (q / 5) (q % 5)) (by rw [a1]; omega)))
        · rw [if_neg (by rw [eq_nI (by omega) (by omega)]; exact g1)]
          exact second σ v Fr.rf hv (lst_congr (fun u => ⟨fun h => Or.inl h, fun h => h.elim id (fun h => absurd ((edge_b N s _).mp h.2.1).2 g1)⟩) hl)
    · rw [if_pos (by rw [show (1000000000 : Int32) = nI 1000000000 from rfl, le_nI (by omega) (by omega)]; omega)]
      unfold fX5_reach_J287
      simp only [bindv, zl1, nI_add]
      exact next σ v Fr.rf hv (lst_congr (candU_no (fun z => hfin z.1) (fun z => hfin z.1)) hl)
theorem neg_subI (a b : Int32) : -(a - b) = b - a := by
  apply Int32.toBitVec_inj.mp
  simp [BitVec.neg_sub]
theorem M_reach {σ : ST} {N : NET} {c : Nat → Nat} (hN : NM σ N) (hc : CMs σ c) (hsm : Small c) {p q : Nat} (hp : p < 5 * nR N) (hq : q < 5 * nR N) (hsol : Sol N BB INF (iniP N p) c) : ∃ σ' w, fX5_reach (nI p) (nI q) σ = some ((), σ') ∧ WaySpec N p q w ∧ At2 σ' (150 * p + q) w ∧ Fr (P1516 (150 * p + q)) σ σ' := by
  have hNw := hN.1
  have hR := hNw.1
  have hINF : INF = 1000000000000000000 := rfl
  have hr : q / 5 < nR N := by omega
  have ha : 150 * p + q < 22500 := by omega
  have hia : ib (nI (150 * p + q)) 22500 = true := ib_nI ha (by decide)
  have hca : (nI (150 * p + q)).toNatClampNeg = 150 * p + q := cl_nI (by omega)
  have hir : ib (nI (q / 5)) 30 = true := ib_nI (by omega) (by decide)
  have hcr : (nI (q / 5)).toNatClampNeg = q / 5 := cl_nI (by omega)
  unfold fX5_reach fX5_reach_J34
  simp only [bindv]
  rw [show (150 : Int32) * nI p + nI q = nI (150 * p + q) from by rw [show (150 : Int32) * nI p = nI (150 * p) from pk_mul 150 p, nI_add], zl5, rem_nI (show q < 2147483648 by omega) (by decide) (by decide), div_nI (show q < 2147483648 by omega) (by decide) (by decide), rem_nI (show p < 2147483648 by omega) (by decide) (by decide), div_nI (show p < 2147483648 by omega) (by decide) (by decide)]
  simp only [hia, ↓reduceIte, hca, hir, hcr]
  by_cases hpq : p = q
  · subst hpq
    simp only [↓reduceIte]
    refine ⟨_, 0, rfl, Or.inl ⟨rfl, rfl⟩, ⟨?_, ?_, by omega⟩, (Fr.rf.st ⟨Or.inl rfl, rfl⟩).st ⟨Or.inr rfl, rfl⟩⟩
    · rw [st_cell _ _ _ (by decide), st_at]; rfl
    · rw [st_at]; rfl
  · have hne : ¬ nI p = nI q := by rw [eq_nI (by omega) (by omega)]; exact hpq
    simp only [if_neg hne]
    obtain ⟨σ2, hσ2⟩ : ∃ σ2, σ2 = stI (stI σ 15 (150 * p + q) 1000000000) 16 (150 * p + q) 0 := ⟨_, rfl⟩
    have hF2 : Fr (P1516 (150 * p + q)) σ σ2 := by rw [hσ2]; exact (Fr.rf.st ⟨Or.inl rfl, rfl⟩).st ⟨Or.inr rfl, rfl⟩
    have hv2 : At2 σ2 (150 * p + q) INF := by
      rw [hσ2]
      refine ⟨?_, ?_, Nat.le_refl _⟩
      · rw [st_cell _ _ _ (by decide), st_at]; exact congrArg nI (show 1000000000 = INF / 1000000000 by decide)
      · rw [st_at]; exact congrArg nI (show 0 = INF % 1000000000 by decide)
    rw [← hσ2]
    have hN2 := hN.fr hF2 (fun a b h => by rcases h.1 with h | h <;> omega)
    have hc2 := hc.fr hF2 (fun a b h => by rcases h.1 with h | h <;> omega)
    obtain ⟨-, -, e5, e6, -, -, -, x3⟩ := hN2.2.2.1 (q / 5) hr
    obtain ⟨n100, hn100⟩ := FU_add 100 (by decide)
    have fin : ∀ (σ3 : ST) (v : Nat), Fr (P1516 (150 * p + q)) σ σ3 → At2 σ3 (150 * p + q) v → Lst INF (fun u => along N p q u) v → ∃ σ' w, fX5_reach_J118 (nI (150 * p + q)) (nI (q / 5)) (nI (q % 5)) σ3 = some ((), σ') ∧ WaySpec N p q w ∧ At2 σ' (150 * p + q) w ∧ Fr (P1516 (150 * p + q)) σ σ' := by
      intro σ3 v hF hv hl
      unfold fX5_reach_J118
      rw [zl0]
      obtain ⟨σ', v', p1, p2, p3, p4⟩ := reach_L (p := p) hNw hsm hq ha (2 * nR N) 0 σ3 v FU (by omega) (by rw [hn100]; omega) (hN.fr hF (fun a b h => by rcases h.1 with h | h <;> omega)) (hc.fr hF (fun a b h => by rcases h.1 with h | h <;> omega)) hv (lst_congr (fun u => ⟨fun h => Or.inl h, fun h => h.elim id (fun h => h.elim (fun ⟨s, hs, _⟩ => by omega) (fun ⟨s, hs, _⟩ => by omega))⟩) hl)
      exact ⟨σ', v', p1, Or.inr ⟨hpq, c, hsol, p4⟩, p2, hF.tr p3⟩
    have noAl : (∀ u, ¬ along N p q u) → ∃ σ' w, fX5_reach_J118 (nI (150 * p + q)) (nI (q / 5)) (nI (q % 5)) σ2 = some ((), σ') ∧ WaySpec N p q w ∧ At2 σ' (150 * p + q) w ∧ Fr (P1516 (150 * p + q)) σ σ' := fun hno => fin σ2 INF hF2 hv2 ⟨fun h => by omega, fun u hu => absurd hu (hno u), Nat.le_refl _⟩
    have yesAl : q / 5 = p / 5 → (p < q ∨ nkd N (p / 5) ≠ 1) → ∃ σ' w, fX5_reach_J93 (nI (150 * p + q)) (nI (q / 5)) (nI (q % 5)) (nI (dif p q)) σ2 = some ((), σ') ∧ WaySpec N p q w ∧ At2 σ' (150 * p + q) w ∧ Fr (P1516 (150 * p + q)) σ σ' := by
      intro hsr hk
      have hd4 : dif p q ≤ 4 ∧ dif p q ≠ 0 := by unfold dif; split <;> omega
      obtain ⟨a1, a2, a3, a4⟩ := pw_lt hNw hr (k := dif p q) hd4.1
      have a5 := a4 hd4.2
      obtain ⟨w1, w2, w3⟩ := hNw.2 (q / 5) hr
      unfold fX5_reach_J93
      simp only [hir, ↓reduceIte, hcr, e5, bindv, pk_mul, M_feeOf hN2 hr (show dif p q * nln N (q / 5) < 2147483648 by omega), cb, Option.bind_some]
      rw [if_neg (show ¬ dif p q * nln N (q / 5) = 0 by omega)]
      obtain ⟨σ3, q1, q2, q3⟩ := M_offer (l := dif p q * nln N (q / 5)) (f := nfe N (q / 5)) ha hv2 (by omega) (by omega)
      rw [q1]
      simp only [Option.bind_some]
      have e : dif p q * nln N (q / 5) * 1000000000 + nfe N (q / 5) = pw N BB (p / 5) (dif p q) := by rw [← hsr, a1, if_neg hd4.2]
      rw [e] at q2
      have hlt : pw N BB (p / 5) (dif p q) < INF := by rw [← e]; omega
      refine fin σ3 _ (hF2.tr q3) q2 (lst_congr (fun u => ⟨fun h => h.elim False.elim (fun h => ⟨hsr, hk, h⟩), fun h => Or.inr h.2.2⟩) (lst_add (P := fun _ => False) (v := INF) ⟨fun h => by omega, fun u hu => hu.elim, Nat.le_refl _⟩ hlt))
    by_cases hsr : q / 5 = p / 5
    · rw [if_pos (by rw [hsr])]
      by_cases hlt : p < q
      · have hd : nI (q % 5) - nI (p % 5) = nI (dif p q) := by
          rw [sub_nI (by omega)]
          congr 1
          unfold dif
          rw [if_pos (by omega)]; omega
        have hdp : 0 < dif p q := by unfold dif; split <;> omega
        have hdl : dif p q < 5 := by unfold dif; split <;> omega
        rw [hd, zl0, if_pos (by rw [lt_nI (by omega) (by omega)]; exact hdp)]
        unfold fX5_reach_J80
        rw [zl0, if_pos (by rw [le_nI (by omega) (by omega)]; omega)]
        exact yesAl hsr (Or.inl hlt)
      · have hneg : nI (q % 5) - nI (p % 5) < 0 := pk_sneg (by omega) (by omega)
        rw [if_neg (fun h => by rw [Int32.lt_iff_toInt_lt] at h hneg; have : (0 : Int32).toInt = 0 := rfl; omega), e6]
        by_cases hk : nkd N (q / 5) = 1
        · rw [if_pos (by rw [hk]; rfl)]
          exact noAl (fun u hu => by
            rcases hu.2.1 with h | h
            · omega
            · rw [← hsr] at h; exact h hk)
        · rw [if_neg (by rw [zl1, eq_nI (by omega) (by omega)]; exact hk)]
          unfold fX5_reach_J80
          rw [if_neg (fun h => by rw [Int32.le_iff_toInt_le] at h; rw [Int32.lt_iff_toInt_lt] at hneg; have : (0 : Int32).toInt = 0 := rfl; omega), neg_subI, sub_nI (by omega), show p % 5 - q % 5 = dif p q by unfold dif; rw [if_neg (by omega)]; omega]
          exact yesAl hsr (Or.inr (by rw [← hsr]; exact hk))
    · rw [if_neg (by rw [eq_nI (by omega) (by omega)]; exact fun h => hsr h.symm)]
      exact noAl (fun u hu => hsr hu.1)
