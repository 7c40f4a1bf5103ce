-- pure: the two sides' least ways are the same number (own work)
def Lst (I : Nat) (P : Nat → Prop) (v : Nat) : Prop := (v < I → P v) ∧ (∀ u, P u → v ≤ u) ∧ v ≤ I
theorem lst_uniq {I : Nat} {P : Nat → Prop} {v w : Nat} (h : Lst I P v) (h' : Lst I P w) : v = w := by
  obtain ⟨a1, a2, a3⟩ := h
  obtain ⟨b1, b2, b3⟩ := h'
  by_cases hv : v < I
  · have := b2 v (a1 hv)
    have := a2 w (b1 (by omega))
    omega
  · by_cases hw : w < I
    · have := a2 w (b1 hw); omega
    · omega
def dif (p q : Nat) : Nat := if p ≤ q then q - p else p - q
def along (N : NET) (p q u : Nat) : Prop := q / 5 = p / 5 ∧ (p < q ∨ nkd N (p / 5) ≠ 1) ∧ u = pw N BB (p / 5) (dif p q)
def cand (N : NET) (p q : Nat) (d : Nat → Nat) (u : Nat) : Prop := along N p q u ∨ (∃ s, s < 2 * nR N ∧ d s < INF ∧ edge N s (2 * (q / 5) + 1) ∧ u = d s + pw N BB (q / 5) (q % 5)) ∨ ∃ s, s < 2 * nR N ∧ d s < INF ∧ edge N s (2 * (q / 5)) ∧ u = d s + pw N BB (q / 5) (4 - q % 5)
def candM (N : NET) (p q : Nat) (m : Nat → Nat) (u : Nat) : Prop := along N p q u ∨ (m (2 * (q / 5) + 1) < INF ∧ u = m (2 * (q / 5) + 1) + pw N BB (q / 5) (q % 5)) ∨ (m (2 * (q / 5)) < INF ∧ u = m (2 * (q / 5)) + pw N BB (q / 5) (4 - q % 5))
def iniP (N : NET) (p t : Nat) : Nat := if t = 2 * (p / 5) + 1 then pw N BB (p / 5) (4 - p % 5) else if t = 2 * (p / 5) ∧ (nkd N (p / 5) ≠ 1 ∨ p % 5 = 0) then pw N BB (p / 5) (p % 5) else INF
def WaySpec (N : NET) (p q w : Nat) : Prop := (p = q ∧ w = 0) ∨ (p ≠ q ∧ ∃ d, Sol N BB INF (iniP N p) d ∧ Lst INF (cand N p q d) w)
theorem BB_pos : 0 < BB := by decide
theorem waySpec_uniq {N : NET} (hN : WFN N) {p q w w' : Nat} (h : WaySpec N p q w) (h' : WaySpec N p q w') : w = w' := by
  rcases h with ⟨e, rfl⟩ | ⟨e, d, hd, hl⟩
  · rcases h' with ⟨_, rfl⟩ | ⟨e', _⟩
    · rfl
    · exact absurd e e'
  · rcases h' with ⟨e', _⟩ | ⟨_, d', hd', hl'⟩
    · exact absurd e' e
    · have hdd : ∀ s, s < 2 * nR N → d s = d' s := fun s hs => sol_uniq hN BB_pos hd hd' hs
      refine lst_uniq hl ?_
      have hc : ∀ u, cand N p q d' u ↔ cand N p q d u := by
        intro u
        unfold cand
        constructor
        · rintro (h | ⟨s, hs, h1, h2, h3⟩ | ⟨s, hs, h1, h2, h3⟩)
          · exact Or.inl h
          · exact Or.inr (Or.inl ⟨s, hs, by rw [hdd s hs]; exact h1, h2, by rw [hdd s hs]; exact h3⟩)
          · exact Or.inr (Or.inr ⟨s, hs, by rw [hdd s hs]; exact h1, h2, by rw [hdd s hs]; exact h3⟩)
        · rintro (h | ⟨s, hs, h1, h2, h3⟩ | ⟨s, hs, h1, h2, h3⟩)
          · exact Or.inl h
          · exact Or.inr (Or.inl ⟨s, hs, by rw [← hdd s hs]; exact h1, h2, by rw [← hdd s hs]; exact h3⟩)
          · exact Or.inr (Or.inr ⟨s, hs, by rw [← hdd s hs]; exact h1, h2, by rw [← hdd s hs]; exact h3⟩)
      exact ⟨fun h => (hc _).mp (hl'.1 h), fun u hu => hl'.2.1 u ((hc u).mpr hu), hl'.2.2⟩
noncomputable def wayOf (N : NET) (p q : Nat) : Nat := @dite _ (∃ w, WaySpec N p q w) (Classical.propDecidable _) (fun h => Classical.choose h) (fun _ => 0)
theorem wayOf_eq {N : NET} (hN : WFN N) {p q w : Nat} (h : WaySpec N p q w) : wayOf N p q = w := by
  have hx : ∃ w, WaySpec N p q w := ⟨w, h⟩
  unfold wayOf
  rw [dif_pos hx]
  exact waySpec_uniq hN (Classical.choose_spec hx) h
theorem comb {N : NET} {ini m d : Nat → Nat} (hd : ∀ t, d t = min (ini t) (if m t < INF then m t + wt N BB t else INF)) (h1 : ∀ s t, s < 2 * nR N → t < 2 * nR N → edge N s t → d s < INF → m t ≤ d s) (h2 : ∀ t, t < 2 * nR N → m t < INF → ∃ s, s < 2 * nR N ∧ edge N s t ∧ d s < INF ∧ d s ≤ m t) (hi : ∀ t, ini t ≤ INF) (hf : ∀ t, t < 2 * nR N → m t < INF → m t + wt N BB t < INF) : Sol N BB INF ini d := by
  have hb : ∀ s t, s < 2 * nR N → t < 2 * nR N → edge N s t → d s < INF → d t ≤ d s + wt N BB t := by
    intro s t hs ht he hc
    have := h1 s t hs ht he hc
    rw [hd t, if_pos (by omega)]
    omega
  intro t ht
  refine ⟨by rw [hd t]; omega, fun s hs he hc => hb s t hs ht he hc, fun hc => ?_, by rw [hd t]; have := hi t; omega⟩
  by_cases hm : m t < INF
  · have e := hd t
    rw [if_pos hm] at e
    by_cases hle : ini t ≤ m t + wt N BB t
    · left; omega
    · right
      obtain ⟨s, hs, he, hc2, hle2⟩ := h2 t ht hm
      have := hb s t hs ht he hc2
      exact ⟨s, hs, he, hc2, by omega⟩
  · have e := hd t
    rw [if_neg hm] at e
    left; omega
theorem comb_cand {N : NET} {m d : Nat → Nat} (h1 : ∀ s t, s < 2 * nR N → t < 2 * nR N → edge N s t → d s < INF → m t ≤ d s) (h2 : ∀ t, t < 2 * nR N → m t < INF → ∃ s, s < 2 * nR N ∧ edge N s t ∧ d s < INF ∧ d s ≤ m t) {p q w : Nat} (hq : q / 5 < nR N) (hw : Lst INF (candM N p q m) w) : Lst INF (cand N p q d) w := by
  obtain ⟨g1, g2, g3⟩ := hw
  have low : ∀ u, cand N p q d u → w ≤ u := by
    rintro u (h | ⟨s, hs, hc, he, e⟩ | ⟨s, hs, hc, he, e⟩)
    · exact g2 u (Or.inl h)
    · have := h1 s _ hs (by omega) he hc
      have := g2 (m (2 * (q / 5) + 1) + pw N BB (q / 5) (q % 5)) (Or.inr (Or.inl ⟨by omega, rfl⟩))
      omega
    · have := h1 s _ hs (by omega) he hc
      have := g2 (m (2 * (q / 5)) + pw N BB (q / 5) (4 - q % 5)) (Or.inr (Or.inr ⟨by omega, rfl⟩))
      omega
  refine ⟨fun hw => ?_, low, g3⟩
  rcases g1 hw with h | ⟨hm, e⟩ | ⟨hm, e⟩
  · exact Or.inl h
  · obtain ⟨s, hs, he, hc, hle⟩ := h2 _ (by omega) hm
    have h3 := low (d s + pw N BB (q / 5) (q % 5)) (Or.inr (Or.inl ⟨s, hs, hc, he, rfl⟩))
    exact Or.inr (Or.inl ⟨s, hs, hc, he, by omega⟩)
  · obtain ⟨s, hs, he, hc, hle⟩ := h2 _ (by omega) hm
    have h3 := low (d s + pw N BB (q / 5) (4 - q % 5)) (Or.inr (Or.inr ⟨s, hs, hc, he, rfl⟩))
    exact Or.inr (Or.inr ⟨s, hs, hc, he, by omega⟩)
/-- the arrivals out of one gone lane g, begun with the weight i -/
def arr (i : Nat) (b : Nat → Nat) (t : Nat) : Nat := if b t < INF then i + b t else INF
theorem ways_of {N : NET} (hN : WFN N) {p q w : Nat} (hp : p / 5 < nR N) (hq : q / 5 < nR N) (hpq : p ≠ q) {b1 b0 : Nat → Nat} (hb1 : SolX N BB INF (2 * (p / 5) + 1) b1) (hb0 : nkd N (p / 5) ≠ 1 ∨ p % 5 = 0 → SolX N BB INF (2 * (p / 5)) b0)
    (f1 : ∀ t, t < 2 * nR N → b1 t < INF → b1 t ≤ 300000000000000) (f0 : ∀ t, t < 2 * nR N → b0 t < INF → b0 t ≤ 300000000000000)
    (hw : Lst INF (candM N p q (fun t => min (arr (pw N BB (p / 5) (4 - p % 5)) b1 t) (if nkd N (p / 5) ≠ 1 ∨ p % 5 = 0 then arr (pw N BB (p / 5) (p % 5)) b0 t else INF))) w) : WaySpec N p q w := by
  have hR := hN.1
  have hP := hN.2 (p / 5) hp
  have pwb : ∀ k, k ≤ 4 → pw N BB (p / 5) k ≤ 800000000099 := by
    intro k hk
    unfold pw BB
    split
    · omega
    · have : k * nln N (p / 5) ≤ 4 * 200 := Nat.mul_le_mul hk hP.2.1
      omega
  have hi1 := pwb (4 - p % 5) (by omega)
  have hi0 := pwb (p % 5) (by omega)
  have hwt : ∀ t, t < 2 * nR N → wt N BB t ≤ 800000000099 := by
    intro t ht
    have h := hN.2 (t / 2) (by omega)
    unfold wt BB
    have : 4 * nln N (t / 2) ≤ 4 * 200 := Nat.mul_le_mul (Nat.le_refl 4) h.2.1
    omega
  generalize hi1e : pw N BB (p / 5) (4 - p % 5) = i1 at hw hi1
  generalize hi0e : pw N BB (p / 5) (p % 5) = i0 at hw hi0
  have hINF : INF = 1000000000000000000 := rfl
  have hm : ∀ t, (fun t => min (arr i1 b1 t) (if nkd N (p / 5) ≠ 1 ∨ p % 5 = 0 then arr i0 b0 t else INF)) t = min (arr i1 b1 t) (if nkd N (p / 5) ≠ 1 ∨ p % 5 = 0 then arr i0 b0 t else INF) := fun t => rfl
  generalize hme : (fun t => min (arr i1 b1 t) (if nkd N (p / 5) ≠ 1 ∨ p % 5 = 0 then arr i0 b0 t else INF)) = m at hw hm
  have a1le : ∀ t, b1 t < INF → arr i1 b1 t = i1 + b1 t := fun t h => if_pos h
  have a1no : ∀ t, ¬ b1 t < INF → arr i1 b1 t = INF := fun t h => if_neg h
  have a0le : ∀ t, b0 t < INF → arr i0 b0 t = i0 + b0 t := fun t h => if_pos h
  have a0no : ∀ t, ¬ b0 t < INF → arr i0 b0 t = INF := fun t h => if_neg h
  -- a finite arrival comes out of one of the two
  have mcase : ∀ t, t < 2 * nR N → m t < INF → (b1 t < INF ∧ m t = i1 + b1 t) ∨ ((nkd N (p / 5) ≠ 1 ∨ p % 5 = 0) ∧ b0 t < INF ∧ m t = i0 + b0 t) := by
    intro t ht h
    rw [hm t] at h ⊢
    by_cases hal : nkd N (p / 5) ≠ 1 ∨ p % 5 = 0
    · rw [if_pos hal] at h ⊢
      by_cases h1 : b1 t < INF
      · rw [a1le t h1] at h ⊢
        by_cases h0 : b0 t < INF
        · rw [a0le t h0] at h ⊢
          rcases Nat.le_total (i1 + b1 t) (i0 + b0 t) with q | q
          · left; exact ⟨h1, by omega⟩
          · right; exact ⟨hal, h0, by omega⟩
        · rw [a0no t h0] at h ⊢
          left; exact ⟨h1, by omega⟩
      · rw [a1no t h1] at h ⊢
        by_cases h0 : b0 t < INF
        · rw [a0le t h0] at h ⊢
          right; exact ⟨hal, h0, by omega⟩
        · rw [a0no t h0] at h; omega
    · rw [if_neg hal] at h ⊢
      by_cases h1 : b1 t < INF
      · rw [a1le t h1] at h ⊢
        left; exact ⟨h1, by omega⟩
      · rw [a1no t h1] at h; omega
  have mle1 : ∀ t, b1 t < INF → m t ≤ i1 + b1 t := by
    intro t h; rw [hm t, a1le t h]; omega
  have mle0 : ∀ t, (nkd N (p / 5) ≠ 1 ∨ p % 5 = 0) → b0 t < INF → m t ≤ i0 + b0 t := by
    intro t hal h; rw [hm t, if_pos hal, a0le t h]; omega
  have hf : ∀ t, t < 2 * nR N → m t < INF → m t + wt N BB t < INF := by
    intro t ht h
    have hw := hwt t ht
    rcases mcase t ht h with ⟨h1, e⟩ | ⟨-, h0, e⟩
    · have := f1 t ht h1; omega
    · have := f0 t ht h0; omega
  have hini1 : iniP N p (2 * (p / 5) + 1) = i1 := by unfold iniP; rw [if_pos rfl]; exact hi1e
  have hini0 : (nkd N (p / 5) ≠ 1 ∨ p % 5 = 0) → iniP N p (2 * (p / 5)) = i0 := by
    intro hal; unfold iniP; rw [if_neg (by omega), if_pos ⟨rfl, hal⟩]; exact hi0e
  have hinic : ∀ t, iniP N p t < INF → (t = 2 * (p / 5) + 1 ∧ iniP N p t = i1) ∨ (t = 2 * (p / 5) ∧ (nkd N (p / 5) ≠ 1 ∨ p % 5 = 0) ∧ iniP N p t = i0) := by
    intro t h
    by_cases h1 : t = 2 * (p / 5) + 1
    · left; exact ⟨h1, by rw [h1]; exact hini1⟩
    · by_cases h0 : t = 2 * (p / 5) ∧ (nkd N (p / 5) ≠ 1 ∨ p % 5 = 0)
      · right; exact ⟨h0.1, h0.2, by rw [h0.1]; exact hini0 h0.2⟩
      · unfold iniP at h; rw [if_neg h1, if_neg h0] at h; omega
  have hinile : ∀ t, iniP N p t ≤ INF := by
    intro t
    rcases Nat.lt_or_ge (iniP N p t) INF with h | h
    · omega
    · unfold iniP at h ⊢
      by_cases h1 : t = 2 * (p / 5) + 1
      · rw [if_pos h1, hi1e]; omega
      · rw [if_neg h1]
        by_cases h0 : t = 2 * (p / 5) ∧ (nkd N (p / 5) ≠ 1 ∨ p % 5 = 0)
        · rw [if_pos h0, hi0e]; omega
        · rw [if_neg h0]; exact Nat.le_refl _
  obtain ⟨d, hd⟩ : ∃ d : Nat → Nat, ∀ t, d t = min (iniP N p t) (if m t < INF then m t + wt N BB t else INF) := ⟨fun t => min (iniP N p t) (if m t < INF then m t + wt N BB t else INF), fun t => rfl⟩
  have H1 : ∀ s t, s < 2 * nR N → t < 2 * nR N → edge N s t → d s < INF → m t ≤ d s := by
    intro s t hs ht he hc
    have e := hd s
    by_cases hms : m s < INF
    · rw [if_pos hms] at e
      rcases Nat.le_total (iniP N p s) (m s + wt N BB s) with q | q
      · have e2 : d s = iniP N p s := by omega
        rcases hinic s (by omega) with ⟨rfl, e3⟩ | ⟨rfl, hal, e3⟩
        · have := (hb1 t ht).1 he
          have := mle1 t (by omega); omega
        · have := (hb0 hal t ht).1 he
          have := mle0 t hal (by omega); omega
      · have e2 : d s = m s + wt N BB s := by omega
        rcases mcase s hs hms with ⟨h1, e3⟩ | ⟨hal, h0, e3⟩
        · have h4 := (hb1 t ht).2.1 s hs he h1
          have h5 := hwt s hs
          have h6 := f1 s hs h1
          have := mle1 t (by omega); omega
        · have h4 := (hb0 hal t ht).2.1 s hs he h0
          have h5 := hwt s hs
          have h6 := f0 s hs h0
          have := mle0 t hal (by omega); omega
    · rw [if_neg hms] at e
      have e2 : d s = iniP N p s := by have := hinile s; omega
      rcases hinic s (by omega) with ⟨rfl, e3⟩ | ⟨rfl, hal, e3⟩
      · have := (hb1 t ht).1 he
        have := mle1 t (by omega); omega
      · have := (hb0 hal t ht).1 he
        have := mle0 t hal (by omega); omega
  have H2 : ∀ t, t < 2 * nR N → m t < INF → ∃ s, s < 2 * nR N ∧ edge N s t ∧ d s < INF ∧ d s ≤ m t := by
    intro t ht h
    have dle : ∀ s x, m s ≤ x → x < INF → d s ≤ x + wt N BB s := by
      intro s x h1 h2; rw [hd s, if_pos (by omega)]; omega
    rcases mcase t ht h with ⟨h1, e⟩ | ⟨hal, h0, e⟩
    · rcases (hb1 t ht).2.2.1 h1 with ⟨he, e0⟩ | ⟨s, hs, he, hc, e0⟩
      · have : d (2 * (p / 5) + 1) ≤ i1 := by rw [hd, hini1]; omega
        exact ⟨_, by omega, he, by omega, by omega⟩
      · have h5 := f1 s hs hc
        have h6 := dle s _ (mle1 s hc) (by omega)
        have h7 := hwt s hs
        exact ⟨s, hs, he, by omega, by omega⟩
    · rcases (hb0 hal t ht).2.2.1 h0 with ⟨he, e0⟩ | ⟨s, hs, he, hc, e0⟩
      · have : d (2 * (p / 5)) ≤ i0 := by rw [hd, hini0 hal]; omega
        exact ⟨_, by omega, he, by omega, by omega⟩
      · have h5 := f0 s hs hc
        have h6 := dle s _ (mle0 s hal hc) (by omega)
        have h7 := hwt s hs
        exact ⟨s, hs, he, by omega, by omega⟩
  exact Or.inr ⟨hpq, d, comb hd H1 H2 hinile hf, comb_cand H1 H2 hq hw⟩
