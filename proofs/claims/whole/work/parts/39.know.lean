-- pure: the class's know: nearest lanes first (own work)
def Dn (σ : ST) (N : NET) (dn : Nat → Bool) : Prop := ∀ t, t < 2 * nR N → σ.1 17 t = (if dn t = true then 1 else 0)
def Near (b : Nat → Nat) (dn : Nat → Bool) (t : Nat) (near best : Int32) : Prop := (near = -1 ∧ best = nI FX ∧ ∀ x, x < t → dn x = false → b x = FX) ∨ ∃ u, u < t ∧ near = nI u ∧ best = nI (b u) ∧ dn u = false ∧ b u < FX ∧ ∀ x, x < t → dn x = false → b u ≤ b x
theorem near_L {σ : ST} {N : NET} {g : Nat} {b : Nat → Nat} {dn : Nat → Bool} (hN : NX σ N) (hg : g < 2 * nR N) (hr : Row σ N g b) (hd : Dn σ N dn) : ∀ (j t : Nat) (near best : Int32) (n : Nat), t + j = 2 * nR N → j < n → Near b dn t near best → ∃ r bb, fX3_nearestOpen_L9 n (nI (60 * g)) (nI (2 * nR N)) near best (nI t) σ = some (r, σ) ∧ Near b dn (2 * nR N) r bb := by
  have hR := hN.1.1
  have hFX : FX = 2000000000 := rfl
  intro j
  induction j with
  | zero =>
    intro t near best n ht hn h
    obtain ⟨n, rfl⟩ : ∃ m, n = m + 1 := ⟨n - 1, by omega⟩
    refine ⟨near, best, ?_, by rw [show 2 * nR N = t by omega]; exact h⟩
    rw [uX3_nearestOpen_L9]
    unfold fX3_nearestOpen_B9
    rw [if_pos (by rw [le_nI (by omega) (by omega)]; omega)]
  | succ j ih =>
    intro t near best n ht hn h
    obtain ⟨n, rfl⟩ : ∃ m, n = m + 1 := ⟨n - 1, by omega⟩
    have htl : t < 2 * nR N := by omega
    obtain ⟨r1, r2⟩ := hr t htl
    have hit : ib (nI t) 60 = true := ib_nI (by omega) (by decide)
    have hct : (nI t).toNatClampNeg = t := cl_nI (by omega)
    have hio : ib (nI (60 * g + t)) 3600 = true := ib_nI (by omega) (by decide)
    have hco : (nI (60 * g + t)).toNatClampNeg = 60 * g + t := cl_nI (by omega)
    have next : ∀ near' best', Near b dn (t + 1) near' best' → ∃ r bb, fX3_nearestOpen_L9 n (nI (60 * g)) (nI (2 * nR N)) near' best' (nI (t + 1)) σ = some (r, σ) ∧ Near b dn (2 * nR N) r bb := fun near' best' h' => ih (t + 1) near' best' n (by omega) (by omega) h'
    rw [uX3_nearestOpen_L9]
    unfold fX3_nearestOpen_B9 fX3_nearestOpen_J53
    simp only [bindv, zl1, nI_add, hit, hct, hio, hco, ↓reduceIte, r1]
    rw [if_neg (by rw [le_nI (by omega) (by omega)]; omega), hd t htl]
    -- the best so far, as a number
    obtain ⟨v, hv, hvF⟩ : ∃ v, best = nI v ∧ v ≤ FX := by
      rcases h with ⟨_, e, _⟩ | ⟨u, _, _, e, _, hu, _⟩
      · exact ⟨FX, e, Nat.le_refl _⟩
      · exact ⟨b u, e, by omega⟩
    rw [hv]
    by_cases g1 : v ≤ b t
    · rw [if_pos (by rw [le_nI (by omega) (by omega)]; exact g1)]
      refine next _ _ ?_
      rcases h with ⟨e1, e2, e3⟩ | ⟨u, h1, h2, h3, h4, h5, h6⟩
      · have : v = FX := by
          have := hv.symm.trans e2
          rwa [eq_nI (by omega) (by omega)] at this
        refine Or.inl ⟨e1, hv ▸ e2, fun x hx hxd => ?_⟩
        by_cases e : x = t
        · subst e; omega
        · exact e3 x (by omega) hxd
      · have : v = b u := by
          have := hv.symm.trans h3
          rwa [eq_nI (by omega) (by omega)] at this
        refine Or.inr ⟨u, by omega, h2, hv ▸ h3, h4, h5, fun x hx hxd => ?_⟩
        by_cases e : x = t
        · subst e; omega
        · exact h6 x (by omega) hxd
    · rw [if_neg (by rw [le_nI (by omega) (by omega)]; exact g1)]
      by_cases g2 : dn t = true
      · rw [if_pos g2, if_neg (by decide)]
        refine next _ _ ?_
        rcases h with ⟨e1, e2, e3⟩ | ⟨u, h1, h2, h3, h4, h5, h6⟩
        · refine Or.inl ⟨e1, hv ▸ e2, fun x hx hxd => ?_⟩
          by_cases e : x = t
          · subst e; rw [g2] at hxd; cases hxd
          · exact e3 x (by omega) hxd
        · refine Or.inr ⟨u, by omega, h2, hv ▸ h3, h4, h5, fun x hx hxd => ?_⟩
          by_cases e : x = t
          · subst e; rw [g2] at hxd; cases hxd
          · exact h6 x (by omega) hxd
      · rw [if_neg g2, if_pos rfl]
        have g2' : dn t = false := by simpa using g2
        refine next _ _ (Or.inr ⟨t, by omega, rfl, rfl, g2', by omega, fun x hx hxd => ?_⟩)
        by_cases e : x = t
        · subst e; exact Nat.le_refl _
        · rcases h with ⟨e1, e2, e3⟩ | ⟨u, h1, h2, h3, h4, h5, h6⟩
          · have := e3 x (by omega) hxd; omega
          · have : v = b u := by
              have := hv.symm.trans h3
              rwa [eq_nI (by omega) (by omega)] at this
            have := h6 x (by omega) hxd
            omega
theorem X_nearest {σ : ST} {N : NET} {g : Nat} {b : Nat → Nat} {dn : Nat → Bool} (hN : NX σ N) (hg : g < 2 * nR N) (hr : Row σ N g b) (hd : Dn σ N dn) : ∃ r bb, fX3_nearestOpen (nI (60 * g)) (nI (2 * nR N)) σ = some (r, σ) ∧ Near b dn (2 * nR N) r bb := by
  have hR := hN.1.1
  obtain ⟨n, hn⟩ := FU_add 100 (by decide)
  unfold fX3_nearestOpen
  rw [zl0]
  exact near_L hN hg hr hd (2 * nR N) 0 (-1) 2000000000 FU (by omega) (by rw [hn]; omega) (Or.inl ⟨rfl, rfl, fun x hx => by omega⟩)
theorem rank_up {b : Nat → Nat} {v u x : Nat} (hu : v ≤ b u) (hx : x < v) : ∀ n, rank (va_up b u x) v n = rank b v n + (if u < n then 1 else 0) := by
  intro n
  induction n with
  | zero => rfl
  | succ n ih =>
    unfold rank
    rw [ih]
    by_cases e : n = u
    · subst e
      rw [upc_s, if_pos hx, if_neg (show ¬ b n < v by omega), if_neg (show ¬ n < n by omega), if_pos (show n < n + 1 by omega)]
    · rw [upc_n _ _ e]
      by_cases q : u < n
      · rw [if_pos q, if_pos (show u < n + 1 by omega)]; omega
      · rw [if_neg q, if_neg (show ¬ u < n + 1 by omega)]; omega
theorem rank_all {b : Nat → Nat} {v : Nat} : ∀ n, rank b v n = n → ∀ t, t < n → b t < v := by
  intro n
  induction n with
  | zero => intro _ t ht; omega
  | succ n ih =>
    intro h t ht
    unfold rank at h
    have := rank_le b v n
    by_cases q : b n < v
    · rw [if_pos q] at h
      by_cases e : t = n
      · subst e; exact q
      · exact ih (by omega) t (by omega)
    · rw [if_neg q] at h; omega
theorem rank_none {b : Nat → Nat} {v : Nat} (h : ∀ t, v ≤ b t) : ∀ n, rank b v n = 0 := by
  intro n
  induction n with
  | zero => rfl
  | succ n ih => unfold rank; rw [ih, if_neg (by have := h n; omega)]
def fn (dn : Nat → Bool) (t : Nat) : Nat := if dn t = true then 0 else 1
def Dj (N : NET) (g : Nat) (b : Nat → Nat) (dn : Nat → Bool) (i : Nat) : Prop :=
  (∀ t, t < 2 * nR N → edge N g t → b t = 0) ∧
  (∀ s t, s < 2 * nR N → t < 2 * nR N → dn s = true → edge N s t → b t ≤ b s + wt N 10000 s) ∧
  (∀ t, t < 2 * nR N → b t < FX → (edge N g t ∧ b t = 0) ∨ ∃ s, s < 2 * nR N ∧ dn s = true ∧ edge N s t ∧ b t = b s + wt N 10000 s) ∧
  (∀ s t, s < 2 * nR N → t < 2 * nR N → dn s = true → dn t = false → b s ≤ b t) ∧
  (∀ s, s < 2 * nR N → dn s = true → b s < FX) ∧
  (∀ t, t < 2 * nR N → b t < FX → b t ≤ 8000099 * i) ∧
  rank (fn dn) 1 (2 * nR N) = i
theorem wt_le {N : NET} (hN : WFN N) {s : Nat} (hs : s < 2 * nR N) : wt N 10000 s ≤ 8000099 := by
  obtain ⟨h1, h2, h3⟩ := hN.2 (s / 2) (by omega)
  unfold wt
  omega
theorem dj_step {N : NET} (hN : WFN N) {g i u : Nat} {b b' : Nat → Nat} {dn : Nat → Bool} (h : Dj N g b dn i) (hu : u < 2 * nR N) (hd : dn u = false) (hb : b u < FX) (hmin : ∀ t, t < 2 * nR N → dn t = false → b u ≤ b t) (ho : Off N u (b u + wt N 10000 u) (2 * nR N) b b') : Dj N g b' (va_up dn u true) (i + 1) := by
  obtain ⟨d1, d2, d3, d4, d5, d6, d7⟩ := h
  have hwu := wt_le hN hu
  have keep : ∀ s, s < 2 * nR N → b s ≤ b u → b' s = b s := by
    intro s hs hle
    by_cases q : s < 2 * nR N ∧ edge N u s
    · rw [(ho s).1 q]; omega
    · exact (ho s).2 q
  have hle : ∀ t, b' t ≤ b t := by
    intro t
    by_cases q : t < 2 * nR N ∧ edge N u t
    · rw [(ho t).1 q]; omega
    · rw [(ho t).2 q]; exact Nat.le_refl _
  have dnle : ∀ s, s < 2 * nR N → va_up dn u true s = true → b s ≤ b u := by
    intro s hs h
    by_cases e : s = u
    · subst e; exact Nat.le_refl _
    · rw [upc_n _ _ e] at h; exact d4 s u hs hu h hd
  have low : ∀ t, b' t = b t ∨ (edge N u t ∧ b' t = b u + wt N 10000 u) := by
    intro t
    by_cases q : t < 2 * nR N ∧ edge N u t
    · rw [(ho t).1 q]
      rcases Nat.le_total (b t) (b u + wt N 10000 u) with z | z
      · left; omega
      · right; exact ⟨q.2, by omega⟩
    · left; exact (ho t).2 q
  refine ⟨fun t ht he => ?_, fun s t hs ht hds he => ?_, fun t ht hlt => ?_, fun s t hs ht hds hdt => ?_, fun s hs hds => ?_, fun t ht hlt => ?_, ?_⟩
  · have := d1 t ht he; have := hle t; omega
  · rw [keep s hs (dnle s hs hds)]
    by_cases e : s = u
    · subst e
      rw [(ho t).1 ⟨ht, he⟩]; omega
    · rw [upc_n _ _ e] at hds
      have := d2 s t hs ht hds he
      have := hle t
      omega
  · rcases low t with e | ⟨he, e⟩
    · rw [e] at hlt ⊢
      rcases d3 t ht hlt with z | ⟨s, hs, hds, he, e2⟩
      · exact Or.inl z
      · have hds' : va_up dn u true s = true := by
          by_cases q : s = u
          · rw [q, upc_s]
          · rw [upc_n _ _ q]; exact hds
        exact Or.inr ⟨s, hs, hds', he, by rw [keep s hs (dnle s hs hds')]; exact e2⟩
    · exact Or.inr ⟨u, hu, upc_s _ _ _, he, by rw [keep u hu (Nat.le_refl _)]; exact e⟩
  · have hs1 := dnle s hs hds
    rw [keep s hs hs1]
    have htu : t ≠ u := fun e => by rw [e, upc_s] at hdt; cases hdt
    rw [upc_n _ _ htu] at hdt
    have h2 := hmin t ht hdt
    rcases low t with e | ⟨he, e⟩ <;> omega
  · rw [keep s hs (dnle s hs hds)]
    have := dnle s hs hds
    omega
  · rcases low t with e | ⟨he, e⟩
    · rw [e] at hlt ⊢
      have := d6 t ht hlt; omega
    · have := d6 u hu hb; omega
  · have e : fn (va_up dn u true) = va_up (fn dn) u 0 := by
      funext t
      by_cases q : t = u
      · subst q; unfold fn; rw [upc_s, upc_s, if_pos rfl]
      · rw [upc_n _ _ q]; unfold fn; rw [upc_n _ _ q]
    rw [e, rank_up (by unfold fn; rw [hd]; decide) (by decide), if_pos hu, d7]
theorem dj_end {N : NET} (hN : WFN N) {g i : Nat} {b : Nat → Nat} {dn : Nat → Bool} (h : Dj N g b dn i) (hb : ∀ t, t < 2 * nR N → b t ≤ FX) (hall : ∀ t, t < 2 * nR N → dn t = false → b t = FX) : SolX N 10000 FX g b ∧ ∀ t, t < 2 * nR N → b t < FX → b t ≤ 480005940 := by
  obtain ⟨d1, d2, d3, d4, d5, d6, d7⟩ := h
  have hR := hN.1
  have hi : i ≤ 2 * nR N := by rw [← d7]; exact rank_le _ _ _
  refine ⟨fun t ht => ⟨fun he => d1 t ht he, fun s hs he hc => ?_, fun hc => ?_, hb t ht⟩, fun t ht hc => ?_⟩
  · cases hds : dn s with
    | true => exact d2 s t hs ht hds he
    | false => have := hall s hs hds; omega
  · rcases d3 t ht hc with z | ⟨s, hs, hds, he, e⟩
    · exact Or.inl z
    · exact Or.inr ⟨s, hs, he, d5 s hs hds, e⟩
  · have := d6 t ht hc; omega
abbrev PK : Nat → Nat → Prop := fun a _ => a = 15 ∨ a = 16 ∨ a = 17
abbrev PQ (g : Nat) : Nat → Nat → Prop := fun a b => (a = 15 ∧ 60 * g ≤ b ∧ b < 60 * g + 60) ∨ a = 17
theorem Row.fr {P : Nat → Nat → Prop} {σ σ' : ST} {N : NET} {g : Nat} {b : Nat → Nat} (h : Row σ N g b) (hF : Fr P σ σ') (hP : ∀ t, t < 2 * nR N → ¬ P 15 (60 * g + t)) : Row σ' N g b := fun t ht => ⟨(hF.1 15 _ (hP t ht)).trans (h t ht).1, (h t ht).2⟩
theorem nar1 : vp_nar .boolean 1 = 1 := by decide
theorem nar0 : vp_nar .boolean 0 = 0 := by decide
theorem know_rounds {N : NET} (hNw : WFN N) {g : Nat} (hg : g < 2 * nR N) : ∀ (j i : Nat) (σ : ST) (b : Nat → Nat) (dn : Nat → Bool) (n : Nat), i + j = 2 * nR N → j < n → NX σ N → Row σ N g b → Dn σ N dn → Dj N g b dn i → ∃ b' σ', fX3_know_L76 n (nI (60 * g)) (nI (2 * nR N)) (nI i) σ = some ((), σ') ∧ Row σ' N g b' ∧ SolX N 10000 FX g b' ∧ (∀ t, t < 2 * nR N → b' t < FX → b' t ≤ 480005940) ∧ Fr (PQ g) σ σ' := by
  have hR := hNw.1
  have hFX : FX = 2000000000 := rfl
  intro j
  induction j with
  | zero =>
    intro i σ b dn n hi hn hN hr hd hD
    obtain ⟨n, rfl⟩ : ∃ m, n = m + 1 := ⟨n - 1, by omega⟩
    have hall : ∀ t, t < 2 * nR N → dn t = false → b t = FX := by
      intro t ht hdt
      have h7 := hD.2.2.2.2.2.2
      have := rank_all (2 * nR N) (by rw [h7]; omega) t ht
      unfold fn at this
      rw [hdt] at this
      simp at this
    obtain ⟨h1, h2⟩ := dj_end hNw hD (fun t ht => (hr t ht).2) hall
    refine ⟨b, σ, ?_, hr, h1, h2, Fr.rf⟩
    rw [uX3_know_L76]
    unfold fX3_know_B76
    rw [if_pos (by rw [le_nI (by omega) (by omega)]; omega)]
  | succ j ih =>
    intro i σ b dn n hi hn hN hr hd hD
    obtain ⟨n, rfl⟩ : ∃ m, n = m + 1 := ⟨n - 1, by omega⟩
    obtain ⟨r, bb, q1, q2⟩ := X_nearest hN hg hr hd
    rw [uX3_know_L76]
    unfold fX3_know_B76
    rw [if_neg (by rw [le_nI (by omega) (by omega)]; omega), q1]
    simp only [cb, Option.bind_some]
    rcases q2 with ⟨e1, -, e3⟩ | ⟨u, hu, e1, -, e3, e4, e5⟩
    · obtain ⟨h1, h2⟩ := dj_end hNw hD (fun t ht => (hr t ht).2) e3
      rw [if_pos e1]
      exact ⟨b, σ, rfl, hr, h1, h2, Fr.rf⟩
    · have hne : ¬ r = -1 := by
        rw [e1]
        intro q
        have h5 : (nI u).toInt = (-1 : Int32).toInt := congrArg Int32.toInt q
        rw [nI_toInt (by omega)] at h5
        have : (-1 : Int32).toInt = -1 := rfl
        omega
      rw [if_neg hne, e1]
      have hiu : ib (nI u) 60 = true := ib_nI (by omega) (by decide)
      have hcu : (nI u).toNatClampNeg = u := cl_nI (by omega)
      have hio : ib (nI (60 * g + u)) 3600 = true := ib_nI (by omega) (by decide)
      have hco : (nI (60 * g + u)).toNatClampNeg = 60 * g + u := cl_nI (by omega)
      obtain ⟨r1, r2⟩ := hr u hu
      have hF1 : Fr (PQ g) σ (stI σ 17 u 1) := Fr.rf.st (Or.inr rfl)
      have hN1 := hN.fr hF1 (fun a b z => by rcases z with z | z <;> omega)
      have hr1 : Row (stI σ 17 u 1) N g b := fun t ht => ⟨(st_cell _ _ _ (by decide)).trans (hr t ht).1, (hr t ht).2⟩
      have hd1 : Dn (stI σ 17 u 1) N (va_up dn u true) := fun t ht => by
        by_cases e : t = u
        · subst e; rw [st_at, upc_s, if_pos rfl]
        · rw [st_idx _ _ e, upc_n _ _ e]; exact hd t ht
      simp only [bindv, hiu, hcu, ↓reduceIte, nar1, nI_add, hio, hco, show nI u / 2 = nI (u / 2) from div_nI (by omega) (by decide) (by decide), zl4, X_weight hN1 (show u / 2 < nR N by omega) (Nat.le_refl 4), Option.bind_some, (hr1 u hu).1]
      have hwu := wt_le hNw hu
      have h6 := hD.2.2.2.2.2.1 u hu e4
      rw [show pw N 10000 (u / 2) 4 = wt N 10000 u from rfl]
      obtain ⟨b2, σ2, p1, p2, p3, p4⟩ := X_turnFrom hN1 hu hg (w := b u + wt N 10000 u) (by omega) hr1
      rw [p1]
      simp only [Option.bind_some]
      have hF2 : Fr (PQ g) (stI σ 17 u 1) σ2 := p4.mono (fun a b z => Or.inl z)
      obtain ⟨b', σ', s1, s2, s3, s4, s5⟩ := ih (i + 1) σ2 b2 (va_up dn u true) n (by omega) (by omega) (hN1.fr hF2 (fun a b z => by rcases z with z | z <;> omega)) p2 (fun t ht => (p4.1 17 t (fun z => by have := z.1; omega)).trans (hd1 t ht)) (dj_step hNw hD hu e3 e4 e5 p3)
      rw [zl1, nI_add]
      exact ⟨b', σ', s1, s2, s3, s4, (hF1.tr hF2).tr s5⟩
