-- pure: nets, lanes, and the equations of least ways (own work)
abbrev NET : Type := Nat → Nat → Nat
abbrev nR (N : NET) : Nat := N 0 0
abbrev nfr (N : NET) (r : Nat) : Nat := N 1 r
abbrev nto (N : NET) (r : Nat) : Nat := N 2 r
abbrev nln (N : NET) (r : Nat) : Nat := N 3 r
abbrev nkd (N : NET) (r : Nat) : Nat := N 4 r
abbrev nfe (N : NET) (r : Nat) : Nat := N 5 r
abbrev nba (N : NET) (r s : Nat) : Prop := N (6 + r) s ≠ 0
def WFN (N : NET) : Prop := nR N ≤ 30 ∧ ∀ r, r < nR N → 1 ≤ nln N r ∧ nln N r ≤ 200 ∧ nfe N r ≤ 99
def lend (N : NET) (t : Nat) : Nat := if t % 2 = 0 then nfr N (t / 2) else nto N (t / 2)
def edge (N : NET) (s t : Nat) : Prop := ¬ nba N (s / 2) (t / 2) ∧ if t % 2 = 0 then nto N (t / 2) = lend N s ∧ nkd N (t / 2) ≠ 1 else nfr N (t / 2) = lend N s
/-- the weight of k quarters of a road, to the base B -/
def pw (N : NET) (B r k : Nat) : Nat := if k = 0 then 0 else k * nln N r * B + nfe N r
def wt (N : NET) (B t : Nat) : Nat := 4 * nln N (t / 2) * B + nfe N (t / 2)
theorem pw4 (N : NET) (B r : Nat) : pw N B r 4 = 4 * nln N r * B + nfe N r := rfl
def Sol (N : NET) (B I : Nat) (ini c : Nat → Nat) : Prop := ∀ t, t < 2 * nR N → c t ≤ ini t ∧ (∀ s, s < 2 * nR N → edge N s t → c s < I → c t ≤ c s + wt N B t) ∧ (c t < I → c t = ini t ∨ ∃ s, s < 2 * nR N ∧ edge N s t ∧ c s < I ∧ c t = c s + wt N B t) ∧ c t ≤ I
theorem sol_le {N : NET} (hN : WFN N) {B I : Nat} (hB : 0 < B) {ini c c' : Nat → Nat} (h : Sol N B I ini c) (h' : Sol N B I ini c') : ∀ v t, t < 2 * nR N → c t = v → v < I → c' t ≤ v := by
  intro v
  induction v using Nat.strongRecOn with
  | ind v ih =>
    intro t ht hv hI
    obtain ⟨h1, h2, h3, h4⟩ := h t ht
    obtain ⟨g1, g2, g3, g4⟩ := h' t ht
    rcases h3 (by omega) with e | ⟨s, hs, he, hc, e⟩
    · omega
    · have hw : 0 < wt N B t := by
        have := (hN.2 (t / 2) (by omega)).1
        unfold wt
        have : 0 < 4 * nln N (t / 2) * B := Nat.mul_pos (by omega) hB
        omega
      have h5 := ih (c s) (by omega) s hs rfl hc
      have h6 := g2 s hs he (by omega)
      omega
theorem sol_uniq {N : NET} (hN : WFN N) {B I : Nat} (hB : 0 < B) {ini c c' : Nat → Nat} (h : Sol N B I ini c) (h' : Sol N B I ini c') {t : Nat} (ht : t < 2 * nR N) : c t = c' t := by
  have h4 := (h t ht).2.2.2
  have g4 := (h' t ht).2.2.2
  by_cases hc : c t < I
  · have h1 := sol_le hN hB h h' (c t) t ht rfl hc
    have h2 := sol_le hN hB h' h (c' t) t ht rfl (by omega)
    omega
  · by_cases hc' : c' t < I
    · have h2 := sol_le hN hB h' h (c' t) t ht rfl hc'
      omega
    · omega
/-- from a lane that was gone: what lies between it and the turn onto each lane -/
def SolX (N : NET) (B I g : Nat) (b : Nat → Nat) : Prop := ∀ t, t < 2 * nR N → (edge N g t → b t = 0) ∧ (∀ s, s < 2 * nR N → edge N s t → b s < I → b t ≤ b s + wt N B s) ∧ (b t < I → (edge N g t ∧ b t = 0) ∨ ∃ s, s < 2 * nR N ∧ edge N s t ∧ b s < I ∧ b t = b s + wt N B s) ∧ b t ≤ I
def BB : Nat := 1000000000
def INF : Nat := 1000000000000000000
def FX : Nat := 2000000000
def cnv (v : Nat) : Nat := if v < 2000000000 then v / 10000 * 1000000000 + v % 10000 else 1000000000000000000
-- how many lanes lie nearer
def rank (b : Nat → Nat) (v : Nat) : Nat → Nat
  | 0 => 0
  | n + 1 => rank b v n + (if b n < v then 1 else 0)
theorem rank_le (b : Nat → Nat) (v n : Nat) : rank b v n ≤ n := by
  induction n with
  | zero => exact Nat.le_refl _
  | succ n ih => unfold rank; split <;> omega
theorem rank_mono (b : Nat → Nat) {v w : Nat} (h : v ≤ w) (n : Nat) : rank b v n ≤ rank b w n := by
  induction n with
  | zero => exact Nat.le_refl _
  | succ n ih =>
    unfold rank
    by_cases h1 : b n < v
    · rw [if_pos h1, if_pos (by omega)]; omega
    · rw [if_neg h1]; omega
theorem rank_lt (b : Nat → Nat) {v w s : Nat} (h : v < w) (hs : b s = v) : ∀ n, s < n → rank b v n < rank b w n := by
  intro n
  induction n with
  | zero => intro h; omega
  | succ n ih =>
    intro hn
    unfold rank
    have hm := rank_mono b (Nat.le_of_lt h) n
    by_cases hsn : s = n
    · subst hsn
      rw [if_neg (by omega), if_pos (by omega)]; omega
    · have := ih (by omega)
      by_cases h1 : b n < v
      · rw [if_pos h1, if_pos (by omega)]; omega
      · rw [if_neg h1]; omega
theorem solX_fee {N : NET} (hN : WFN N) {g : Nat} {b : Nat → Nat} (h : SolX N 10000 FX g b) : ∀ v t, t < 2 * nR N → b t = v → v < FX → v % 10000 ≤ 99 * rank b v (2 * nR N) := by
  intro v
  induction v using Nat.strongRecOn with
  | ind v ih =>
    intro t ht hv hI
    obtain ⟨h1, h2, h3, h4⟩ := h t ht
    rcases h3 (by omega) with ⟨-, e⟩ | ⟨s, hs, he, hc, e⟩
    · omega
    · have hw := hN.2 (s / 2) (by omega)
      have e2 : wt N 10000 s = 4 * nln N (s / 2) * 10000 + nfe N (s / 2) := rfl
      have h5 := ih (b s) (by omega) s hs rfl hc
      have h6 := rank_lt b (v := b s) (w := v) (s := s) (by omega) rfl (2 * nR N) hs
      have h7 := rank_le b v (2 * nR N)
      have := hN.1
      omega
theorem cnv_mono {v w : Nat} (h : v ≤ w) : cnv v ≤ cnv w := by
  unfold cnv
  by_cases h1 : v < 2000000000
  · rw [if_pos h1]
    split <;> omega
  · rw [if_neg h1, if_neg (by omega)]; exact Nat.le_refl _
theorem cnv_fin {v : Nat} : cnv v < INF ↔ v < FX := by
  unfold cnv INF FX
  constructor
  · intro h
    rcases Nat.lt_or_ge v 2000000000 with q | q
    · exact q
    · rw [if_neg (by omega)] at h; omega
  · intro h
    rw [if_pos h]; omega
theorem cnv_add {v l f : Nat} (h : v % 10000 + f < 10000) (hv : v + (l * 10000 + f) < 2000000000) : cnv (v + (l * 10000 + f)) = cnv v + (l * 1000000000 + f) := by
  unfold cnv
  rw [if_pos hv, if_pos (by omega)]
  omega
theorem cnv_le {v : Nat} : cnv v ≤ INF := by
  unfold cnv INF; split <;> omega
theorem solX_cnv {N : NET} (hN : WFN N) {g : Nat} {b : Nat → Nat} (h : SolX N 10000 FX g b) (hb : ∀ t, t < 2 * nR N → b t < FX → b t + 8100000 < FX) : SolX N BB INF g (fun t => cnv (b t)) := by
  have hR := hN.1
  have key : ∀ s, s < 2 * nR N → b s < FX → cnv (b s + wt N 10000 s) = cnv (b s) + wt N BB s := by
    intro s hs hc
    have h1 := solX_fee hN h (b s) s hs rfl hc
    have h2 := rank_le b (b s) (2 * nR N)
    have hw := hN.2 (s / 2) (by omega)
    have h3 := hb s hs hc
    unfold FX at h3
    exact cnv_add (l := 4 * nln N (s / 2)) (f := nfe N (s / 2)) (by omega) (by omega)
  intro t ht
  obtain ⟨h1, h2, h3, h4⟩ := h t ht
  refine ⟨fun he => ?_, fun s hs he hc => ?_, fun hc => ?_, cnv_le⟩
  · show cnv (b t) = 0
    rw [h1 he]; rfl
  · have hc' := cnv_fin.mp hc
    have := cnv_mono (h2 s hs he hc')
    rw [key s hs hc'] at this
    exact this
  · rcases h3 (cnv_fin.mp hc) with ⟨he, e⟩ | ⟨s, hs, he, hc', e⟩
    · exact Or.inl ⟨he, by show cnv (b t) = 0; rw [e]; rfl⟩
    · refine Or.inr ⟨s, hs, he, cnv_fin.mpr hc', ?_⟩
      show cnv (b t) = cnv (b s) + wt N BB s
      rw [e, key s hs hc']
