-- pure: the reference's comeFrom ends, and what it finds solves the equations (own work)
theorem rank_anti {c c' : Nat → Nat} {v : Nat} : ∀ n, (∀ t, t < n → c' t ≤ c t) → rank c v n ≤ rank c' v n := by
  intro n
  induction n with
  | zero => intro _; exact Nat.le_refl _
  | succ n ih =>
    intro h
    have h1 := ih (fun t ht => h t (by omega))
    have h2 := h n (by omega)
    unfold rank
    by_cases q : c n < v
    · rw [if_pos q, if_pos (by omega)]; omega
    · rw [if_neg q]; omega
theorem rank_anti_lt {c c' : Nat → Nat} {v s : Nat} (hs : v ≤ c s) (hs' : c' s < v) : ∀ n, s < n → (∀ t, t < n → c' t ≤ c t) → rank c v n < rank c' v n := by
  intro n
  induction n with
  | zero => intro h; omega
  | succ n ih =>
    intro hn h
    have h1 := rank_anti (v := v) n (fun t ht => h t (by omega))
    unfold rank
    by_cases q : s = n
    · subst q; rw [if_neg (by omega), if_pos hs']; omega
    · have h3 := ih (by omega) (fun t ht => h t (by omega))
      have h2 := h n (by omega)
      by_cases q : c n < v
      · rw [if_pos q, if_pos (by omega)]; omega
      · rw [if_neg q]; omega
theorem rank_pos {c : Nat → Nat} {v s : Nat} (hs : c s < v) : ∀ n, s < n → 1 ≤ rank c v n := by
  intro n
  induction n with
  | zero => intro h; omega
  | succ n ih =>
    intro hn
    unfold rank
    by_cases q : s = n
    · subst q; rw [if_pos hs]; omega
    · have := ih (by omega); omega
def sm (c : Nat → Nat) : Nat → Nat
  | 0 => 0
  | n + 1 => sm c n + c n
theorem sm_le {c c' : Nat → Nat} : ∀ n, (∀ t, t < n → c' t ≤ c t) → sm c' n ≤ sm c n := by
  intro n
  induction n with
  | zero => intro _; exact Nat.le_refl _
  | succ n ih => intro h; have := ih (fun t ht => h t (by omega)); have := h n (by omega); unfold sm; omega
theorem sm_lt {c c' : Nat → Nat} {s : Nat} (hs : c' s < c s) : ∀ n, s < n → (∀ t, t < n → c' t ≤ c t) → sm c' n < sm c n := by
  intro n
  induction n with
  | zero => intro h; omega
  | succ n ih =>
    intro hn h
    have h1 := sm_le n (fun t ht => h t (by omega))
    have h2 := h n (by omega)
    unfold sm
    by_cases q : s = n
    · subst q; omega
    · have := ih (by omega) (fun t ht => h t (by omega)); omega
theorem sm_bound {c : Nat → Nat} {v : Nat} : ∀ n, (∀ t, t < n → c t ≤ v) → sm c n ≤ n * v := by
  intro n
  induction n with
  | zero => intro _; exact Nat.zero_le _
  | succ n ih => intro h; have := ih (fun t ht => h t (by omega)); have := h n (by omega); unfold sm; rw [Nat.succ_mul]; omega
theorem Rlx.le {N : NET} {s n : Nat} {c c' : Nat → Nat} (h : Rlx N s n c c') (t : Nat) : c' t ≤ c t := by
  by_cases q : t < n ∧ edge N s t
  · rw [(h t).1 q]; omega
  · rw [(h t).2 q]; exact Nat.le_refl _
theorem Rlx.same {N : NET} {s n : Nat} {c c' : Nat → Nat} (h : Rlx N s n c c') (hn : ¬ ∃ t, t < n ∧ edge N s t ∧ c s + wt N BB t < c t) (t : Nat) : c' t = c t := by
  by_cases q : t < n ∧ edge N s t
  · rw [(h t).1 q]
    have : ¬ c s + wt N BB t < c t := fun z => hn ⟨t, q.1, q.2, z⟩
    omega
  · exact (h t).2 q
def Jst (N : NET) (ini c : Nat → Nat) : Prop := (∀ t, t < 2 * nR N → c t ≤ ini t) ∧ (∀ t, t < 2 * nR N → c t < INF → ini t ≤ c t ∨ ∃ s, s < 2 * nR N ∧ edge N s t ∧ c s < INF ∧ c s + wt N BB t ≤ c t) ∧ ∀ t, t < 60 → c t < INF → c t / 1000000000 ≤ 800 * rank c INF 60 ∧ c t % 1000000000 ≤ 99 * (c t / 1000000000)
theorem Jst.roomy {N : NET} {ini c : Nat → Nat} (h : Jst N ini c) {s : Nat} (hs : s < 60) (hc : c s < INF) : Roomy c s := by
  obtain ⟨h1, h2⟩ := h.2.2 s hs hc
  have h3 := rank_le c INF 60
  unfold Roomy
  omega
theorem rlx_J {N : NET} (hN : WFN N) {ini c c' : Nat → Nat} (h : Jst N ini c) {s : Nat} (hs : s < 2 * nR N) (hc : c s < INF) (hr : Rlx N s (2 * nR N) c c') : Jst N ini c' := by
  have hR := hN.1
  have hro := h.roomy (s := s) (by omega) hc
  have hss := hr.self
  obtain ⟨h1, h2, h3⟩ := h
  have hanti := rank_anti (c := c) (c' := c') (v := INF) 60 (fun t _ => hr.le t)
  have old : ∀ t, t < 2 * nR N → c' t = c t → c' t < INF → ini t ≤ c' t ∨ ∃ s, s < 2 * nR N ∧ edge N s t ∧ c' s < INF ∧ c' s + wt N BB t ≤ c' t := by
    intro t ht e hlt
    rcases h2 t ht (by omega) with g | ⟨s0, g1, g2, g3, g4⟩
    · left; omega
    · right
      have := hr.le s0
      exact ⟨s0, g1, g2, by omega, by omega⟩
  refine ⟨fun t ht => Nat.le_trans (hr.le t) (h1 t ht), fun t ht hlt => ?_, fun t ht hlt => ?_⟩
  · by_cases q : edge N s t ∧ c s + wt N BB t < c t
    · right
      refine ⟨s, hs, q.1, by omega, ?_⟩
      rw [(hr t).1 ⟨ht, q.1⟩, hss]; omega
    · refine old t ht ?_ hlt
      by_cases q2 : edge N s t
      · rw [(hr t).1 ⟨ht, q2⟩]
        have : ¬ c s + wt N BB t < c t := fun z => q ⟨q2, z⟩
        omega
      · exact (hr t).2 (fun z => q2 z.2)
  · by_cases q : (t < 2 * nR N ∧ edge N s t) ∧ c s + wt N BB t < c t
    · have e : c' t = c s + wt N BB t := by rw [(hr t).1 q.1]; omega
      obtain ⟨w1, w2, w3⟩ := hN.2 (t / 2) (by omega)
      obtain ⟨r1, r2⟩ := hro
      obtain ⟨g1, g2⟩ := h3 s (by omega) hc
      have ew : wt N BB t = 4 * nln N (t / 2) * 1000000000 + nfe N (t / 2) := rfl
      have eL : c' t / 1000000000 = c s / 1000000000 + 4 * nln N (t / 2) := by omega
      have eF : c' t % 1000000000 = c s % 1000000000 + nfe N (t / 2) := by omega
      refine ⟨?_, by omega⟩
      by_cases hfin : c t < INF
      · have := (h3 t ht hfin).1
        omega
      · have := rank_anti_lt (c := c) (c' := c') (v := INF) (s := t) (by omega) hlt 60 ht (fun t _ => hr.le t)
        omega
    · have e : c' t = c t := by
        by_cases q2 : t < 2 * nR N ∧ edge N s t
        · rw [(hr t).1 q2]
          have : ¬ c s + wt N BB t < c t := fun z => q ⟨q2, z⟩
          omega
        · exact (hr t).2 q2
      rw [e] at hlt ⊢
      have := h3 t ht hlt
      omega
/-- one round over the lanes -/
theorem round_L {N : NET} (hNw : WFN N) {ini c0 : Nat → Nat} (k : Int32 → ST → Option (Unit × ST)) : ∀ (j s : Nat) (σ : ST) (c : Nat → Nat) (more : Int32) (n : Nat), s + j = 2 * nR N → j < n → NM σ N → CMs σ c → Jst N ini c → (∀ t, c t ≤ c0 t) → (more = 0 ∨ more = 1) → (more = 0 → (∀ t, c t = c0 t) ∧ ∀ s', s' < s → c0 s' < INF → ∀ t, t < 2 * nR N → edge N s' t → c0 t ≤ c0 s' + wt N BB t) → (more = 1 → sm c 60 < sm c0 60) →
    ∃ c' σ' more', fX5_comeFrom_L131 k n more (nI s) σ = k more' σ' ∧ CMs σ' c' ∧ Fr P1718 σ σ' ∧ Jst N ini c' ∧ (∀ t, c' t ≤ c0 t) ∧ (more' = 0 ∨ more' = 1) ∧ (more' = 0 → (∀ t, c' t = c0 t) ∧ ∀ s', s' < 2 * nR N → c0 s' < INF → ∀ t, t < 2 * nR N → edge N s' t → c0 t ≤ c0 s' + wt N BB t) ∧ (more' = 1 → sm c' 60 < sm c0 60) := by
  have hR := hNw.1
  have hINF : INF = 1000000000000000000 := rfl
  intro j
  induction j with
  | zero =>
    intro s σ c more n hsj hn hN hc hJ hle hm hm0 hm1
    obtain ⟨n, rfl⟩ : ∃ m, n = m + 1 := ⟨n - 1, by omega⟩
    refine ⟨c, σ, more, ?_, hc, Fr.rf, hJ, hle, hm, fun h => ⟨(hm0 h).1, fun s' hs' => (hm0 h).2 s' (by omega)⟩, hm1⟩
    rw [uX5_comeFrom_L131]
    unfold fX5_comeFrom_B131
    rw [hN.2.1, show (2 : Int32) * nI (nR N) = nI (2 * nR N) from pk_mul 2 _, if_pos (by rw [le_nI (by omega) (by omega)]; omega)]
  | succ j ih =>
    intro s σ c more n hsj hn hN hc hJ hle hm hm0 hm1
    obtain ⟨n, rfl⟩ : ∃ m, n = m + 1 := ⟨n - 1, by omega⟩
    have hs : s < 2 * nR N := by omega
    obtain ⟨v1, v2, v3⟩ := hc s (by omega)
    rw [uX5_comeFrom_L131]
    unfold fX5_comeFrom_B131 fX5_comeFrom_J168 fX5_comeFrom_J173 fX5_comeFrom_J175
    rw [hN.2.1, show (2 : Int32) * nI (nR N) = nI (2 * nR N) from pk_mul 2 _, if_neg (by rw [le_nI (by omega) (by omega)]; omega), if_pos (ib_nI (by omega) (by decide)), cl_nI (by omega), v1]
    simp only [bindv, zl1, nI_add]
    by_cases hfin : c s < INF
    · rw [if_neg (by rw [show (1000000000 : Int32) = nI 1000000000 from rfl, le_nI (by omega) (by omega)]; omega)]
      obtain ⟨c', σ', less, q1, q2, q3, q4, q5, q6⟩ := M_goOn hN hc hs (hJ.roomy (by omega) hfin)
      rw [q1]
      simp only [cb, Option.bind_some]
      have hN' := hN.fr q3 (fun a b h => by rcases h with h | h <;> omega)
      have hJ' := rlx_J hNw hJ hs hfin q4
      have hle' : ∀ t, c' t ≤ c0 t := fun t => Nat.le_trans (q4.le t) (hle t)
      have fin : ∀ (m' : Int32), (m' = 0 ∨ m' = 1) → (m' = 0 → less = 0 ∧ more = 0) → (m' = 1 → less = 1 ∨ more = 1) → ∃ c' σ'' more', fX5_comeFrom_L131 k n m' (nI (s + 1)) σ' = k more' σ'' ∧ CMs σ'' c' ∧ Fr P1718 σ σ'' ∧ Jst N ini c' ∧ (∀ t, c' t ≤ c0 t) ∧ (more' = 0 ∨ more' = 1) ∧ (more' = 0 → (∀ t, c' t = c0 t) ∧ ∀ s', s' < 2 * nR N → c0 s' < INF → ∀ t, t < 2 * nR N → edge N s' t → c0 t ≤ c0 s' + wt N BB t) ∧ (more' = 1 → sm c' 60 < sm c0 60) := by
        intro m' hm' hz ho
        obtain ⟨c'', σ'', more', p1, p2, p3, p4, p5, p6, p7, p8⟩ := ih (s + 1) σ' c' m' n (by omega) (by omega) hN' q2 hJ' hle' hm' (fun h => by
          obtain ⟨l0, m0⟩ := hz h
          have hno : ¬ ∃ t, t < 2 * nR N ∧ edge N s t ∧ c s + wt N BB t < c t := fun z => by
            have := q6.mpr z
            rw [l0] at this
            exact absurd this (by decide)
          obtain ⟨g1, g2⟩ := hm0 m0
          refine ⟨fun t => (q4.same hno t).trans (g1 t), fun s' hs' hc' t ht he => ?_⟩
          by_cases hss : s' = s
          · subst hss
            have : ¬ c s' + wt N BB t < c t := fun z => hno ⟨t, ht, he, z⟩
            rw [g1 s', g1 t] at this
            omega
          · exact g2 s' (by omega) hc' t ht he) (fun h => by
          rcases ho h with h1 | h1
          · obtain ⟨t, ht, he, hlt⟩ := q6.mp h1
            have e : c' t = c s + wt N BB t := by rw [(q4 t).1 ⟨ht, he⟩]; omega
            have := hle t
            exact sm_lt (s := t) (by omega) 60 (by omega) (fun t _ => hle' t)
          · exact Nat.lt_of_le_of_lt (sm_le 60 (fun t _ => q4.le t)) (hm1 h1))
        exact ⟨c'', σ'', more', p1, p2, q3.tr p3, p4, p5, p6, p7, p8⟩
      rcases q5 with rfl | rfl
      · rw [if_pos rfl]
        rcases hm with rfl | rfl
        · rw [if_pos rfl]
          exact fin 0 (Or.inl rfl) (fun _ => ⟨rfl, rfl⟩) (fun h => absurd h (by decide))
        · rw [if_neg (by decide)]
          exact fin (nI 1) (Or.inr rfl) (fun h => absurd h (by decide)) (fun _ => Or.inr rfl)
      · rw [if_neg (by decide)]
        exact fin (nI 1) (Or.inr rfl) (fun h => absurd h (by decide)) (fun _ => Or.inl rfl)
    · rw [if_pos (by rw [show (1000000000 : Int32) = nI 1000000000 from rfl, le_nI (by omega) (by omega)]; omega)]
      exact ih (s + 1) σ c more n (by omega) (by omega) hN hc hJ hle hm (fun h => ⟨(hm0 h).1, fun s' hs' hc' t ht he => by
        by_cases hss : s' = s
        · subst hss
          have := (hm0 h).1 s'
          omega
        · exact (hm0 h).2 s' (by omega) hc' t ht he⟩) hm1
theorem rounds_L {N : NET} (hNw : WFN N) {ini : Nat → Nat} (hini : ∀ t, t < 2 * nR N → ini t ≤ INF) : ∀ (m : Nat) (σ : ST) (c : Nat → Nat) (n : Nat), sm c 60 ≤ m → m + 1 < n → NM σ N → CMs σ c → Jst N ini c → ∃ c' σ', fX5_comeFrom_L120 n 1 σ = some ((), σ') ∧ CMs σ' c' ∧ Fr P1718 σ σ' ∧ Sol N BB INF ini c' ∧ Jst N ini c' := by
  have hR := hNw.1
  intro m
  induction m using Nat.strongRecOn with
  | ind m ih =>
    intro σ c n hm hn hN hc hJ
    obtain ⟨n, rfl⟩ : ∃ q, n = q + 1 := ⟨n - 1, by omega⟩
    have step : fX5_comeFrom_L120 (n + 1) 1 σ = fX5_comeFrom_L131 (fun l4 σ => fX5_comeFrom_L120 n l4 σ) FU 0 (nI 0) σ := by
      rw [uX5_comeFrom_L120]
      unfold fX5_comeFrom_B120
      rw [if_neg (by decide), zl0]
    rw [step]
    obtain ⟨q, hq⟩ := FU_add 100 (by decide)
    obtain ⟨c', σ', more', p1, p2, p3, p4, p5, p6, p7, p8⟩ := round_L hNw (fun l4 σ => fX5_comeFrom_L120 n l4 σ) (2 * nR N) 0 σ c 0 FU (by omega) (by rw [hq]; omega) hN hc hJ (fun t => Nat.le_refl _) (Or.inl rfl) (fun _ => ⟨fun _ => rfl, fun s' hs' => by omega⟩) (fun h => absurd h (by decide))
    rw [p1]
    have hN' := hN.fr p3 (fun a b h => by rcases h with h | h <;> omega)
    rcases p6 with rfl | rfl
    · obtain ⟨g1, g2⟩ := p7 rfl
      obtain ⟨n, rfl⟩ : ∃ q, n = q + 1 := ⟨n - 1, by omega⟩
      refine ⟨c', σ', ?_, p2, p3, (fun t ht => ⟨p4.1 t ht, fun s hs he hcs => ?_, fun hct => ?_, (p2 t (by omega)).2.2⟩), p4⟩
      · rw [uX5_comeFrom_L120]
        unfold fX5_comeFrom_B120
        rw [if_pos rfl]
      · have := g2 s hs (by rw [← g1 s]; exact hcs) t ht he
        rw [g1 t, g1 s]; exact this
      · rcases p4.2.1 t ht hct with h | ⟨s, hs, he, hcs, hle⟩
        · left; have := p4.1 t ht; omega
        · right
          have := g2 s hs (by rw [← g1 s]; exact hcs) t ht he
          refine ⟨s, hs, he, hcs, ?_⟩
          have a := g1 t
          have b := g1 s
          omega
    · have hlt := p8 rfl
      obtain ⟨c'', σ'', r1, r2, r3, r4⟩ := ih (sm c' 60) (by omega) σ' c' n (Nat.le_refl _) (by omega) hN' p2 p4
      exact ⟨c'', σ'', r1, r2, p3.tr r3, r4⟩
theorem fill_L {l2 l3 : Int32} : ∀ (j s : Nat) (σ : ST) (n : Nat), s + j = 60 → j < n → (∀ t, t < s → σ.1 17 t = nI 1000000000 ∧ σ.1 18 t = nI 0) → ∃ σ', (∃ n', fX5_comeFrom_L11 n l2 l3 (nI s) σ = fX5_comeFrom_B11 (fun l2 l3 l4 σ => fX5_comeFrom_L11 n' l2 l3 l4 σ) l2 l3 (nI 60) σ') ∧ CMs σ' (fun _ => INF) ∧ Fr P1718 σ σ' := by
  intro j
  induction j with
  | zero =>
    intro s σ n hs hn h
    obtain ⟨n, rfl⟩ : ∃ q, n = q + 1 := ⟨n - 1, by omega⟩
    have : s = 60 := by omega
    subst this
    exact ⟨σ, ⟨n, uX5_comeFrom_L11 n l2 l3 (nI 60) σ⟩, fun t ht => ⟨(h t ht).1.trans (congrArg nI (show 1000000000 = INF / 1000000000 by decide)), (h t ht).2.trans (congrArg nI (show 0 = INF % 1000000000 by decide)), Nat.le_refl _⟩, Fr.rf⟩
  | succ j ih =>
    intro s σ n hs hn h
    obtain ⟨n, rfl⟩ : ∃ q, n = q + 1 := ⟨n - 1, by omega⟩
    obtain ⟨σ', ⟨n', e⟩, g1, g2⟩ := ih (s + 1) (stI (stI σ 17 s (nI 1000000000)) 18 s (nI 0)) n (by omega) (by omega) (fun t ht => by
      by_cases hts : t = s
      · subst hts
        rw [st_cell _ _ _ (by decide), st_at, st_at]; exact ⟨rfl, rfl⟩
      · rw [st_cell _ _ _ (by decide), st_idx _ _ hts, st_idx _ _ hts, st_cell _ _ _ (by decide)]
        exact h t (by omega))
    refine ⟨σ', ⟨n', ?_⟩, g1, ((Fr.rf.st (Or.inl rfl)).st (Or.inr rfl)).tr g2⟩
    rw [← e, uX5_comeFrom_L11]
    unfold fX5_comeFrom_B11
    rw [if_neg (show ¬ (60 : Int32) ≤ nI s by rw [show (60 : Int32) = nI 60 from rfl, le_nI (by omega) (by omega)]; omega)]
    simp only [ib_nI (show s < 60 by omega) (by decide), ↓reduceIte, cl_nI (show s < 2147483648 by omega), bindv, zl1, nI_add]
    rfl
theorem pw_lt {N : NET} (hN : WFN N) {r k : Nat} (hr : r < nR N) (hk : k ≤ 4) : pw N BB r k = (k * nln N r) * 1000000000 + (if k = 0 then 0 else nfe N r) ∧ k * nln N r ≤ 800 ∧ (k = 0 → k * nln N r = 0) ∧ (k ≠ 0 → 1 ≤ k * nln N r) := by
  obtain ⟨h1, h2, h3⟩ := hN.2 r hr
  have h4 : k * nln N r ≤ 4 * 200 := Nat.mul_le_mul hk h2
  refine ⟨?_, by omega, fun h => by rw [h, Nat.zero_mul], fun h => Nat.mul_pos (by omega) (by omega)⟩
  unfold pw BB
  by_cases h : k = 0
  · subst h; simp
  · rw [if_neg h, if_neg h]
theorem M_comeFrom {σ : ST} {N : NET} (hN : NM σ N) {p : Nat} (hp : p < 5 * nR N) : ∃ c' σ', fX5_comeFrom (nI p) σ = some ((), σ') ∧ CMs σ' c' ∧ Fr P1718 σ σ' ∧ Sol N BB INF (iniP N p) c' ∧ Jst N (iniP N p) c' := by
  have hNw := hN.1
  have hR := hNw.1
  have hr : p / 5 < nR N := by omega
  have hINF : INF = 1000000000000000000 := rfl
  obtain ⟨n100, hn100⟩ := FU_add 100 (by decide)
  obtain ⟨σ1, ⟨n1, e1⟩, c1, f1⟩ := fill_L (l2 := nI (p / 5)) (l3 := nI (p % 5)) 60 0 σ FU (by omega) (by rw [hn100]; omega) (fun t ht => by omega)
  have hN1 := hN.fr f1 (fun a b h => by rcases h with h | h <;> omega)
  obtain ⟨-, -, e5, e6, -, -, -, f6⟩ := hN1.2.2.1 (p / 5) hr
  obtain ⟨w1, w2, w3⟩ := hNw.2 (p / 5) hr
  obtain ⟨a1, a2, a3, a4⟩ := pw_lt hNw hr (k := 4 - p % 5) (by omega)
  obtain ⟨b1, b2, b3, b4⟩ := pw_lt hNw hr (k := p % 5) (by omega)
  have hir : ib (nI (p / 5)) 30 = true := ib_nI (by omega) (by decide)
  have hcr : (nI (p / 5)).toNatClampNeg = p / 5 := cl_nI (by omega)
  have h4k : (4 : Int32) - nI (p % 5) = nI (4 - p % 5) := by rw [zl4]; exact sub_nI (by omega)
  have hini1 : iniP N p (2 * (p / 5) + 1) = pw N BB (p / 5) (4 - p % 5) := by unfold iniP; rw [if_pos rfl]
  -- the first lane
  obtain ⟨σ2, q1, q2, q3⟩ := M_come c1 (s := 2 * (p / 5) + 1) (l := (4 - p % 5) * nln N (p / 5)) (f := if 4 - p % 5 = 0 then 0 else nfe N (p / 5)) (by omega) (by omega) (by split <;> omega)
  rw [← a1] at q1 q2
  have i1lt : pw N BB (p / 5) (4 - p % 5) < INF := by rw [a1]; split <;> omega
  have i0lt : pw N BB (p / 5) (p % 5) < INF := by rw [b1]; split <;> omega
  simp only [if_pos i1lt] at q1 q2
  have hN2 := hN1.fr q3 (fun a b h => by rcases h with h | h <;> omega)
  obtain ⟨-, -, g5, g6, -, -, -, -⟩ := hN2.2.2.1 (p / 5) hr
  have fees : ∀ k, k ≤ 4 → (if k = 0 then 0 else nfe N (p / 5)) ≤ 99 * (k * nln N (p / 5)) := by
    intro k hk
    obtain ⟨x1, x2, x3, x4⟩ := pw_lt hNw hr hk
    by_cases h : k = 0
    · rw [if_pos h]; omega
    · rw [if_neg h]; have := x4 h; omega
  have fa := fees (4 - p % 5) (by omega)
  have fb := fees (p % 5) (by omega)
  -- the end, from any of the two starts
  have fin : ∀ (σ3 : ST) (c : Nat → Nat), Fr P1718 σ σ3 → CMs σ3 c → (∀ t, c t < INF → c t = iniP N p t ∧ (c t = pw N BB (p / 5) (4 - p % 5) ∨ c t = pw N BB (p / 5) (p % 5))) → (∀ t, t < 2 * nR N → c t ≤ iniP N p t) → ∃ c' σ', fX5_comeFrom_L120 FU 1 σ3 = some ((), σ') ∧ CMs σ' c' ∧ Fr P1718 σ σ' ∧ Sol N BB INF (iniP N p) c' ∧ Jst N (iniP N p) c' := by
    intro σ3 c hF hc h1 h2
    have hJ : Jst N (iniP N p) c := by
      refine ⟨h2, fun t ht hlt => Or.inl (by rw [(h1 t hlt).1]; exact Nat.le_refl _), fun t ht hlt => ?_⟩
      have hp1 := rank_pos (c := c) (v := INF) (s := t) hlt 60 ht
      rcases (h1 t hlt).2 with e | e
      · rw [e, a1]
        generalize (if 4 - p % 5 = 0 then 0 else nfe N (p / 5)) = x at fa
        generalize (4 - p % 5) * nln N (p / 5) = y at fa a2
        omega
      · rw [e, b1]
        generalize (if p % 5 = 0 then 0 else nfe N (p / 5)) = x at fb
        generalize (p % 5) * nln N (p / 5) = y at fb b2
        omega
    have hini : ∀ t, t < 2 * nR N → iniP N p t ≤ INF := by
      intro t ht
      unfold iniP
      split
      · omega
      · split
        · omega
        · exact Nat.le_refl _
    have hsm : sm c 60 ≤ 60 * INF := sm_bound 60 (fun t ht => (hc t ht).2.2)
    obtain ⟨nb, hnb⟩ := FU_add 100000000000000000000 (by decide)
    obtain ⟨c', σ', r1, r2, r3, r4⟩ := rounds_L hNw hini (60 * INF) σ3 c FU hsm (by rw [hnb]; omega) (hN.fr hF (fun a b h => by rcases h with h | h <;> omega)) hc hJ
    exact ⟨c', σ', r1, r2, hF.tr r3, r4⟩
  have fin1 : ¬ (nkd N (p / 5) ≠ 1 ∨ p % 5 = 0) → ∃ c' σ', fX5_comeFrom_L120 FU 1 σ2 = some ((), σ') ∧ CMs σ' c' ∧ Fr P1718 σ σ' ∧ Sol N BB INF (iniP N p) c' ∧ Jst N (iniP N p) c' := by
    intro hal
    refine fin σ2 _ (f1.tr q3) q2 (fun t hlt => ?_) (fun t ht => ?_)
    · by_cases ht : t = 2 * (p / 5) + 1
      · subst ht; rw [upc_s]; exact ⟨hini1.symm, Or.inl rfl⟩
      · rw [upc_n _ _ ht] at hlt; omega
    · by_cases ht : t = 2 * (p / 5) + 1
      · subst ht; rw [upc_s, hini1]; exact Nat.le_refl _
      · rw [upc_n _ _ ht]; unfold iniP; rw [if_neg ht, if_neg (fun z => hal z.2)]; exact Nat.le_refl _
  have second : (nkd N (p / 5) ≠ 1 ∨ p % 5 = 0) → ∃ c' σ', fX5_comeFrom_J84 (nI (p / 5)) (nI (p % 5)) 1 σ2 = some ((), σ') ∧ CMs σ' c' ∧ Fr P1718 σ σ' ∧ Sol N BB INF (iniP N p) c' ∧ Jst N (iniP N p) c' := by
    intro hal
    have hini0 : iniP N p (2 * (p / 5)) = pw N BB (p / 5) (p % 5) := by unfold iniP; rw [if_neg (by omega), if_pos ⟨rfl, hal⟩]
    obtain ⟨σ3, p1, p2, p3⟩ := M_come q2 (s := 2 * (p / 5)) (l := (p % 5) * nln N (p / 5)) (f := if p % 5 = 0 then 0 else nfe N (p / 5)) (by omega) (by omega) (by split <;> omega)
    rw [← b1, upc_n _ _ (by omega)] at p1 p2
    simp only [if_pos i0lt] at p1 p2
    unfold fX5_comeFrom_J84 fX5_comeFrom_J113 fX5_comeFrom_J118
    simp only [hir, ↓reduceIte, hcr, M_feeOf hN2 hr (show p % 5 < 2147483648 by omega), cb, Option.bind_some, g5, pk_mul]
    rw [show (2 : Int32) * nI (p / 5) = nI (2 * (p / 5)) from pk_mul 2 _, p1]
    simp only [Option.bind_some]
    rw [if_neg (by decide)]
    refine fin σ3 _ ((f1.tr q3).tr p3) p2 (fun t hlt => ?_) (fun t ht => ?_)
    · by_cases ht0 : t = 2 * (p / 5)
      · subst ht0; rw [upc_s]; exact ⟨hini0.symm, Or.inr rfl⟩
      · rw [upc_n _ _ ht0] at hlt ⊢
        by_cases ht : t = 2 * (p / 5) + 1
        · subst ht; rw [upc_s]; exact ⟨hini1.symm, Or.inl rfl⟩
        · rw [upc_n _ _ ht] at hlt; omega
    · by_cases ht0 : t = 2 * (p / 5)
      · subst ht0; rw [upc_s, hini0]; exact Nat.le_refl _
      · rw [upc_n _ _ ht0]
        by_cases ht : t = 2 * (p / 5) + 1
        · subst ht; rw [upc_s, hini1]; exact Nat.le_refl _
        · rw [upc_n _ _ ht]; unfold iniP; rw [if_neg ht, if_neg (fun z => ht0 z.1)]; exact Nat.le_refl _
  unfold fX5_comeFrom
  simp only [bindv]
  rw [zl5, rem_nI (by omega) (by decide) (by decide), div_nI (by omega) (by decide) (by decide), zl0, e1]
  unfold fX5_comeFrom_B11
  rw [if_pos (show (60 : Int32) ≤ nI 60 by decide)]
  simp only [hir, ↓reduceIte, hcr, h4k, M_feeOf hN1 hr (show 4 - p % 5 < 2147483648 by omega), cb, Option.bind_some, e5, pk_mul]
  rw [show (2 : Int32) * nI (p / 5) + 1 = nI (2 * (p / 5) + 1) from by rw [show (2 : Int32) * nI (p / 5) = nI (2 * (p / 5)) from pk_mul 2 _]; exact nI_1 _, q1]
  simp only [Option.bind_some, g6]
  by_cases gk : nkd N (p / 5) = 1
  · rw [if_pos (by rw [gk]; rfl)]
    by_cases g0 : p % 5 = 0
    · rw [if_pos (by rw [g0]; rfl)]
      exact second (Or.inr g0)
    · rw [if_neg (by rw [zl0, eq_nI (by omega) (by omega)]; exact g0)]
      exact fin1 (fun z => z.elim (fun z => z gk) g0)
  · rw [if_neg (by rw [zl1, eq_nI (by omega) (by omega)]; exact gk)]
    exact second (Or.inl gk)
