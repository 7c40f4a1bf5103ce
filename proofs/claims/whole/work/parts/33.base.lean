-- pure: plain facts of numbers and stores (own work)
theorem ib_nI {n N : Nat} (h : n < N) (hN : N < 2 ^ 31) : ib (nI n) N = true := decide_eq_true (nI_in h hN)
theorem cl_nI {n : Nat} (h : n < 2147483648) : (nI n).toNatClampNeg = n := nI_clamp h
theorem lt_nI {a b : Nat} (ha : a < 2147483648) (hb : b < 2147483648) : nI a < nI b ↔ a < b := nI_ltI ha hb
theorem le_nI {a b : Nat} (ha : a < 2147483648) (hb : b < 2147483648) : nI a ≤ nI b ↔ a ≤ b := nI_leI ha hb
theorem eq_nI {a b : Nat} (ha : a < 2147483648) (hb : b < 2147483648) : nI a = nI b ↔ a = b := nI_eq ha hb
theorem div_nI {a d : Nat} (ha : a < 2147483648) (h0 : 0 < d) (hd : d < 2147483648) : nI a / nI d = nI (a / d) := pk_div ha h0 hd
theorem rem_nI {a d : Nat} (ha : a < 2147483648) (h0 : 0 < d) (hd : d < 2147483648) : nI a - nI a / nI d * nI d = nI (a % d) := pk_rem ha h0 hd
theorem sub_nI {a b : Nat} (h : b ≤ a) : nI a - nI b = nI (a - b) := pk_sub h
theorem zl0 : (0 : Int32) = nI 0 := rfl
theorem zl1 : (1 : Int32) = nI 1 := rfl
theorem zl2 : (2 : Int32) = nI 2 := rfl
theorem zl4 : (4 : Int32) = nI 4 := rfl
theorem zl5 : (5 : Int32) = nI 5 := rfl
/-- only the ints at the places P may differ -/
def Fr (P : Nat → Nat → Prop) (σ σ' : ST) : Prop := (∀ a b, ¬ P a b → σ'.1 a b = σ.1 a b) ∧ σ'.2 = σ.2
theorem Fr.rf {P : Nat → Nat → Prop} {σ : ST} : Fr P σ σ := ⟨fun _ _ _ => rfl, rfl⟩
theorem Fr.tr {P : Nat → Nat → Prop} {σ τ υ : ST} (h : Fr P σ τ) (g : Fr P τ υ) : Fr P σ υ := ⟨fun a b hab => (g.1 a b hab).trans (h.1 a b hab), g.2.trans h.2⟩
theorem Fr.mono {P Q : Nat → Nat → Prop} {σ τ : ST} (h : Fr P σ τ) (hPQ : ∀ a b, P a b → Q a b) : Fr Q σ τ := ⟨fun a b hab => h.1 a b (fun q => hab (hPQ a b q)), h.2⟩
theorem Fr.st {P : Nat → Nat → Prop} {σ τ : ST} (h : Fr P σ τ) {k i : Nat} {x : Int32} (hP : P k i) : Fr P σ (stI τ k i x) := ⟨fun a b hab => (show (if a = k ∧ b = i then x else τ.1 a b) = _ by
  rw [if_neg (fun e => hab (by rw [e.1, e.2]; exact hP))]
  exact h.1 a b hab), h.2⟩
theorem st_at (σ : ST) (k i : Nat) (x : Int32) : (stI σ k i x).1 k i = x := if_pos ⟨rfl, rfl⟩
theorem st_ne (σ : ST) {k i a b : Nat} (x : Int32) (h : ¬ (a = k ∧ b = i)) : (stI σ k i x).1 a b = σ.1 a b := if_neg h
theorem st_cell (σ : ST) {k i a : Nat} (x : Int32) (b : Nat) (h : a ≠ k) : (stI σ k i x).1 a b = σ.1 a b := if_neg (fun e => h e.1)
theorem st_idx (σ : ST) {k i b : Nat} (x : Int32) (h : b ≠ i) : (stI σ k i x).1 k b = σ.1 k b := if_neg (fun e => h e.2)
theorem upc_s {α : Type} (f : Nat → α) (k : Nat) (v : α) : va_up f k v k = v := if_pos rfl
theorem upc_n {α : Type} (f : Nat → α) {k j : Nat} (v : α) (h : j ≠ k) : va_up f k v j = f j := if_neg h
/-- a net, as the reference holds it -/
def NM (σ : ST) (N : NET) : Prop := WFN N ∧ σ.1 0 8 = nI (nR N) ∧ (∀ r, r < nR N → σ.1 3 r = nI (nfr N r) ∧ σ.1 4 r = nI (nto N r) ∧ σ.1 5 r = nI (nln N r) ∧ σ.1 6 r = nI (nkd N r) ∧ σ.1 7 r = nI (nfe N r) ∧ nfr N r < 16 ∧ nto N r < 16 ∧ nkd N r < 4) ∧ ∀ r s, r < nR N → s < nR N → (σ.1 8 (30 * r + s) = 0 ↔ ¬ nba N r s)
theorem NM.fr {P : Nat → Nat → Prop} {σ σ' : ST} {N : NET} (h : NM σ N) (hF : Fr P σ σ') (hP : ∀ a b, P a b → 9 ≤ a ∨ (a = 0 ∧ b ≠ 8)) : NM σ' N := by
  have e : ∀ a b, a ≤ 8 → (a = 0 → b = 8) → σ'.1 a b = σ.1 a b := fun a b h1 h2 => hF.1 a b (fun q => by
    rcases hP a b q with h | ⟨h, h'⟩
    · omega
    · exact h' (h2 h))
  obtain ⟨h1, h2, h3, h4⟩ := h
  refine ⟨h1, by rw [e 0 8 (by omega) (by omega)]; exact h2, fun r hr => ?_, fun r s hr hs => by rw [e 8 _ (by omega) (by omega)]; exact h4 r s hr hs⟩
  rw [e 3 r (by omega) (by omega), e 4 r (by omega) (by omega), e 5 r (by omega) (by omega), e 6 r (by omega) (by omega), e 7 r (by omega) (by omega)]
  exact h3 r hr
theorem M_knotOf {σ : ST} {N : NET} (h : NM σ N) {s : Nat} (hs : s < 2 * nR N) : fX5_knotOf (nI s) σ = some (nI (lend N s), σ) := by
  have hR := h.1.1
  obtain ⟨e3, e4, -⟩ := h.2.2.1 (s / 2) (by omega)
  unfold fX5_knotOf lend
  rw [zl2, rem_nI (by omega) (by decide) (by decide), div_nI (by omega) (by decide) (by decide), if_pos (ib_nI (show s / 2 < 30 by omega) (by decide)), if_pos (ib_nI (show s / 2 < 30 by omega) (by decide)), cl_nI (by omega), e3, e4, zl0]
  by_cases h2 : s % 2 = 0
  · rw [if_pos (by rw [h2]), if_pos h2]
  · rw [if_neg (by rw [eq_nI (by omega) (by omega)]; exact h2), if_neg h2]
theorem M_feeOf {σ : ST} {N : NET} (h : NM σ N) {r l : Nat} (hr : r < nR N) (hl : l < 2147483648) : fX5_feeOf (nI r) (nI l) σ = some (nI (if l = 0 then 0 else nfe N r), σ) := by
  have hR := h.1.1
  obtain ⟨-, -, -, -, e7, -⟩ := h.2.2.1 r hr
  unfold fX5_feeOf
  rw [if_pos (ib_nI (show r < 30 by omega) (by decide)), cl_nI (by omega), e7, zl0]
  by_cases h0 : l = 0
  · rw [if_pos (by rw [h0]; exact (le_nI (by omega) (by omega)).mpr (Nat.le_refl 0)), if_pos h0]
  · rw [if_neg (by rw [le_nI hl (by omega)]; omega), if_neg h0]
/-- the values of come: a length and fees in one number -/
def CMs (σ : ST) (c : Nat → Nat) : Prop := ∀ s, s < 60 → σ.1 17 s = nI (c s / 1000000000) ∧ σ.1 18 s = nI (c s % 1000000000) ∧ c s ≤ INF
abbrev P1718 : Nat → Nat → Prop := fun a _ => a = 17 ∨ a = 18
theorem M_come {σ : ST} {c : Nat → Nat} (hc : CMs σ c) {s l f : Nat} (hs : s < 60) (hl : l < 1000000000) (hf : f < 1000000000) : ∃ σ', fX5_come (nI s) (nI l) (nI f) σ = some (if l * 1000000000 + f < c s then 1 else 0, σ') ∧ CMs σ' (if l * 1000000000 + f < c s then va_up c s (l * 1000000000 + f) else c) ∧ Fr P1718 σ σ' := by
  obtain ⟨h1, h2, h3⟩ := hc s hs
  have hINF : INF = 1000000000000000000 := rfl
  have hib : ib (nI s) 60 = true := ib_nI hs (by decide)
  have hcl : (nI s).toNatClampNeg = s := cl_nI (by omega)
  have upd : ∃ σ', fX5_come_J32 (nI s) (nI l) (nI f) σ = some (1, σ') ∧ CMs σ' (va_up c s (l * 1000000000 + f)) ∧ Fr P1718 σ σ' := by
    refine ⟨stI (stI σ 17 s (nI l)) 18 s (nI f), ?_, fun t ht => ?_, (Fr.rf.st (Or.inl rfl)).st (Or.inr rfl)⟩
    · unfold fX5_come_J32
      simp only [bindv, hib, hcl, ↓reduceIte]
    · by_cases hts : t = s
      · subst hts
        rw [upc_s, st_cell _ _ _ (by decide), st_at, st_at]
        exact ⟨by congr 1; omega, by congr 1; omega, by omega⟩
      · rw [upc_n _ _ hts, st_cell _ _ _ (by decide), st_idx _ _ hts, st_idx _ _ hts, st_cell _ _ _ (by decide)]
        exact hc t ht
  unfold fX5_come
  rw [if_pos hib, if_pos hib, if_pos hib, hcl, h1, h2]
  by_cases g1 : c s / 1000000000 < l
  · rw [if_pos ((lt_nI (by omega) (by omega)).mpr g1), if_neg (show ¬ l * 1000000000 + f < c s by omega), if_neg (show ¬ l * 1000000000 + f < c s by omega)]
    exact ⟨σ, rfl, hc, Fr.rf⟩
  · rw [if_neg (by rw [lt_nI (by omega) (by omega)]; exact g1)]
    by_cases g2 : l = c s / 1000000000
    · rw [if_pos (by rw [g2])]
      by_cases g3 : f < c s % 1000000000
      · rw [if_pos ((lt_nI (by omega) (by omega)).mpr g3), if_pos (show l * 1000000000 + f < c s by omega), if_pos (show l * 1000000000 + f < c s by omega)]
        exact upd
      · rw [if_neg (by rw [lt_nI (by omega) (by omega)]; exact g3), if_neg (show ¬ l * 1000000000 + f < c s by omega), if_neg (show ¬ l * 1000000000 + f < c s by omega)]
        exact ⟨σ, rfl, hc, Fr.rf⟩
    · rw [if_neg (by rw [eq_nI (by omega) (by omega)]; exact g2), if_pos (show l * 1000000000 + f < c s by omega), if_pos (show l * 1000000000 + f < c s by omega)]
      exact upd
