-- pure: sure (own work)
section SureP
variable {N : NET} {A : AS} {d : Nat}
/-- the ends looked at so far that are not too dear -/
def PE (N : NET) (A : AS) (d M s t : Nat) (e : Option (Nat × Nat × Nat)) : Prop := okS N A d (A 4 d) e ∧ ec N A d e ≤ M ∧ ∀ q, e = some q → q.1 < s ∨ (q.1 = s ∧ q.2.1 < t)
/-- r sights are the same in all of them -/
def SR (n : Nat) (P : Option (Nat × Nat × Nat) → Prop) (R : Option (Nat × Nat × Nat) → Nat → Nat) (w : Nat → Nat) (r : Nat) : Prop := r ≤ n ∧ (∀ e, P e → ∀ j, j < r → R e j = w j) ∧ (r < n → ∃ e, P e ∧ R e r ≠ w r)
theorem SR.uniq {n r r' : Nat} {P : Option (Nat × Nat × Nat) → Prop} {R : Option (Nat × Nat × Nat) → Nat → Nat} {w : Nat → Nat} (h : SR n P R w r) (h' : SR n P R w r') : r = r' := by
  obtain ⟨a1, a2, a3⟩ := h
  obtain ⟨b1, b2, b3⟩ := h'
  rcases Nat.lt_trichotomy r r' with z | z | z
  · obtain ⟨e, y1, y2⟩ := a3 (by omega)
    exact absurd (b2 e y1 r z) y2
  · exact z
  · obtain ⟨e, y1, y2⟩ := b3 (by omega)
    exact absurd (a2 e y1 r' z) y2
theorem SR.congr {n r : Nat} {P P' : Option (Nat × Nat × Nat) → Prop} {R : Option (Nat × Nat × Nat) → Nat → Nat} {w : Nat → Nat} (h : SR n P R w r) (hp : ∀ e, P' e ↔ P e) : SR n P' R w r :=
  ⟨h.1, fun e he => h.2.1 e ((hp e).mp he), fun z => by obtain ⟨e, y1, y2⟩ := h.2.2 z; exact ⟨e, (hp e).mpr y1, y2⟩⟩
theorem SR.step {n r r0 : Nat} {P P' : Option (Nat × Nat × Nat) → Prop} {R : Option (Nat × Nat × Nat) → Nat → Nat} {w : Nat → Nat} {e0 : Option (Nat × Nat × Nat)} (h : SR n P R w r) (hp : ∀ e, P' e ↔ P e ∨ e = e0) (h0 : r0 ≤ r) (h1 : ∀ j, j < r0 → R e0 j = w j) (h2 : r0 < r → R e0 r0 ≠ w r0) : SR n P' R w r0 := by
  obtain ⟨a1, a2, a3⟩ := h
  refine ⟨by omega, fun e he j hj => ?_, fun z => ?_⟩
  · rcases (hp e).mp he with y | y
    · exact a2 e y j (by omega)
    · rw [y]; exact h1 j hj
  · by_cases y : r0 < r
    · exact ⟨e0, (hp e0).mpr (Or.inr rfl), h2 y⟩
    · have : r0 = r := by omega
      subst this
      obtain ⟨e, y1, y2⟩ := a3 z
      exact ⟨e, (hp e).mpr (Or.inl y1), y2⟩
theorem PE_next {M k t q : Nat} (hk : k < A 4 d) (hq : (spL N A d k)[t]? = some q) (e : Option (Nat × Nat × Nat)) : PE N A d M k (t + 1) e ↔ PE N A d M k t e ∨ (e = some (k, t, q) ∧ ec N A d (some (k, t, q)) ≤ M) := by
  constructor
  · rintro ⟨h1, h2, h3⟩
    cases e with
    | none => exact Or.inl ⟨h1, h2, fun q hq => by cases hq⟩
    | some x =>
      obtain ⟨k', i', q'⟩ := x
      rcases h3 _ rfl with z | ⟨z1, z2⟩
      · exact Or.inl ⟨h1, h2, fun y hy => by cases hy; exact Or.inl z⟩
      · by_cases e : i' < t
        · exact Or.inl ⟨h1, h2, fun y hy => by cases hy; exact Or.inr ⟨z1, e⟩⟩
        · have e1 : k' = k := z1
          have e2 : i' = t := by have : i' < t + 1 := z2; omega
          subst e1; subst e2
          obtain ⟨-, y⟩ := h1 _ rfl
          have y' : (spL N A d k')[i']? = some q' := y
          rw [hq] at y'; cases y'
          exact Or.inr ⟨rfl, h2⟩
  · rintro (⟨h1, h2, h3⟩ | ⟨h1, h2⟩)
    · exact ⟨h1, h2, fun y hy => by have := h3 y hy; omega⟩
    · subst h1
      exact ⟨fun y hy => by cases hy; exact ⟨hk, hq⟩, h2, fun y hy => by cases hy; exact Or.inr ⟨rfl, Nat.lt_succ_self _⟩⟩
theorem PE_row {M k : Nat} (e : Option (Nat × Nat × Nat)) : PE N A d M (k + 1) 0 e ↔ PE N A d M k (spL N A d k).length e := by
  constructor
  · rintro ⟨h1, h2, h3⟩
    refine ⟨h1, h2, fun y hy => ?_⟩
    obtain ⟨-, z⟩ := h1 y hy
    have := (List.getElem?_eq_some_iff.mp z).1
    have h := h3 y hy
    by_cases e : y.1 = k
    · rw [e] at this; exact Or.inr ⟨e, this⟩
    · exact Or.inl (by omega)
  · rintro ⟨h1, h2, h3⟩
    exact ⟨h1, h2, fun y hy => by have := h3 y hy; omega⟩
theorem PE_zero {M : Nat} (e : Option (Nat × Nat × Nat)) : PE N A d M 0 0 e ↔ e = none ∧ ec N A d none ≤ M := by
  constructor
  · rintro ⟨h1, h2, h3⟩
    cases e with
    | none => exact ⟨rfl, h2⟩
    | some x => have := h3 x rfl; omega
  · rintro ⟨h1, h2⟩
    subst h1
    exact ⟨fun q hq => (by cases hq), h2, fun q hq => (by cases hq)⟩
/-- LAID is one of the ends -/
theorem laid_end (hN : WFN N) {σ : ST} (hD : DPA σ N A d (A 4 d)) {c : Nat} {ρ : Nat → Nat} (h : EndR (spL N A d) (ofD N A d) (lgD N A d) (A 5 1) (A 4 d) none c ρ) : ∃ e0, okS N A d (A 4 d) e0 ∧ ec N A d e0 = c ∧ ∀ j, j < A 4 d → er N A d e0 j = ρ j := by
  obtain ⟨⟨l, h1, -⟩, h2⟩ := h
  cases l with
  | none =>
    obtain ⟨y1, y2⟩ := (ev_last h1).1 rfl
    exact ⟨none, fun q hq => (by cases hq), y2.symm, fun j hj => (y1 j hj).symm⟩
  | some e =>
    obtain ⟨y1, -, y3, -⟩ := (ev_last h1).2 e rfl
    obtain ⟨i, hi⟩ := List.getElem?_of_mem y3
    have z := end_of hN hD y1 hi i
    have z' : EndR (spL N A d) (ofD N A d) (lgD N A d) (A 5 1) (A 4 d) (some (e, ρ e)) c ρ := ⟨⟨some e, h1, Or.inr rfl⟩, fun ρ' l' c' g1 _ => h2 ρ' l' c' g1 (Or.inl rfl)⟩
    obtain ⟨u1, u2⟩ := endR_uniq z z'
    exact ⟨some (e, i, ρ e), fun q hq => by cases hq; exact ⟨y1, hi⟩, u1, u2⟩
theorem X_sameInEnd (hA : WFA N A) (hd : d < A 3 0) {σ : ST} (hX : XR σ N A d (A 4 d)) {e e0 : Option (Nat × Nat × Nat)} (he : okS N A d (A 4 d) e) (he0 : okS N A d (A 4 d) e0) (h20 : ∀ j, j < A 4 d → σ.1 20 j = lcode (er N A d e0 j)) : ∃ r σ', fX1_sameInEnd (es e) σ = some (nI r, σ') ∧ r ≤ A 4 d ∧ (∀ j, j < r → er N A d e j = er N A d e0 j) ∧ (r < A 4 d → er N A d e r ≠ er N A d e0 r) ∧ Fr (fun a _ => a = 24) σ σ' := by
  have hl20 := (hA.2.1.2 d hd).1
  obtain ⟨f40, hf40⟩ := FU_add 40 (by decide)
  obtain ⟨σ1, p1, p2, p3⟩ := X_writeRow hA hd (c := 24) (by omega) hX.2.2.2.1 (Nat.le_refl _) hX.2.2.2.2.2 hX.2.2.2.2.1 he
  have h15a : σ1.1 3 15 = nI (A 4 d) := (p3.1 3 15 (by omega)).trans hX.2.2.2.2.1
  obtain ⟨r, r1, r2, r3, r4⟩ := cs2 (c1 := 24) (c2 := 20) (by omega) (by omega) hl20 h15a (A 4 d) 0 FU (by omega) (by rw [hf40]; omega) (fun j hj => by omega)
  have b1 := er_val hX.1.1 hX.2.2.2.2.2 he
  have b2 := er_val hX.1.1 hX.2.2.2.2.2 he0
  have v : ∀ j, j < A 4 d → σ1.1 20 j = lcode (er N A d e0 j) := fun j hj => (p3.1 20 j (by omega)).trans (h20 j hj)
  refine ⟨r, σ1, ?_, r1, fun j hj => ?_, fun z y => ?_, p3⟩
  · have r2' : fX1_countSame 24 20 σ1 = some (nI r, σ1) := r2
    unfold fX1_sameInEnd
    rw [p1]
    simp only [cb, Option.bind_some, r2']
  · have := r3 j hj
    rw [p2 j (by omega), v j (by omega), lcode_inj (b1 j) (b2 j)] at this
    exact this
  · apply r4 z
    rw [p2 r z, v r z, y]
theorem X_sie35 (hA : WFA N A) (hd : d < A 3 0) {M : Nat} (hM : M < 100000000) {e0 : Option (Nat × Nat × Nat)} (he0 : okS N A d (A 4 d) e0) (k24 : Int32 → Int32 → Int32 → ST → Option (Int32 × ST)) {k : Nat} (hk : k < A 4 d) : ∀ (m t n r : Nat) (σ : ST), t + m = (spL N A d k).length → m < n → XR σ N A d (A 4 d) → (∀ j, j < A 4 d → σ.1 20 j = lcode (er N A d e0 j)) → SR (A 4 d) (PE N A d M k t) (er N A d) (er N A d e0) r → ∃ r' σ', fX1_sameInEnds_L35 k24 n (nI M) (nI r) (nI k) (nI t) σ = k24 (nI M) (nI r') (nI (k + 1)) σ' ∧ XR σ' N A d (A 4 d) ∧ (∀ j, j < A 4 d → σ'.1 20 j = lcode (er N A d e0 j)) ∧ SR (A 4 d) (PE N A d M (k + 1) 0) (er N A d) (er N A d e0) r' ∧ Fr (fun a _ => a = 24) σ σ' := by
  have h20 := (hA.2.1.2 d hd).1
  have hlen := spL_len N A d k
  intro m
  induction m with
  | zero =>
    intro t n r σ ht hn hX h20c hS
    obtain ⟨n, rfl⟩ : ∃ m, n = m + 1 := ⟨n - 1, by omega⟩
    have : t = (spL N A d k).length := by omega
    subst this
    refine ⟨r, σ, ?_, hX, h20c, hS.congr PE_row, Fr.rf⟩
    rw [uX1_sameInEnds_L35]
    unfold fX1_sameInEnds_B35
    rw [if_pos (ib_nI (show k < 20 by omega) (by decide)), cl_nI (by omega), (hX.2.2.2.1 k hk).1, if_pos (show nI (spL N A d k).length ≤ nI (spL N A d k).length by rw [le_nI (by omega) (by omega)]; omega)]
    simp only [bindv, nI_1]
  | succ m ih =>
    intro t n r σ ht hn hX h20c hS
    obtain ⟨n, rfl⟩ : ∃ m, n = m + 1 := ⟨n - 1, by omega⟩
    obtain ⟨q, hq⟩ : ∃ q, (spL N A d k)[t]? = some q := ⟨_, List.getElem?_eq_some_iff.mpr ⟨by omega, rfl⟩⟩
    have okc : okS N A d (A 4 d) (some (k, t, q)) := fun r hr => by cases hr; exact ⟨hk, hq⟩
    have b2 := ec_bd hA hd hX.2.2.2.2.2 okc
    have hce : fX1_costOfEnd (nI (10 * k + t)) σ = some (nI (ec N A d (some (k, t, q))), σ) := X_costOfEnd hA hd hX okc
    have t10 : nI k * 10 + nI t = nI (10 * k + t) := by rw [show (nI k : Int32) * 10 = nI (10 * k) from by rw [show (10 : Int32) = nI 10 from rfl, pk_mul, Nat.mul_comm], nI_add]
    rw [uX1_sameInEnds_L35]
    unfold fX1_sameInEnds_B35 fX1_sameInEnds_J76
    rw [if_pos (ib_nI (show k < 20 by omega) (by decide)), cl_nI (by omega), (hX.2.2.2.1 k hk).1, if_neg (show ¬ nI (spL N A d k).length ≤ nI t by rw [le_nI (by omega) (by omega)]; omega), t10]
    simp only [bindv, hce, cb, Option.bind_some, nI_1]
    by_cases hlt : M < ec N A d (some (k, t, q))
    · rw [if_pos (by rw [lt_nI (by omega) (by omega)]; exact hlt)]
      exact ih (t + 1) n r σ (by omega) (by omega) hX h20c (hS.congr (fun e => by
        rw [PE_next hk hq]
        exact ⟨fun z => z.elim id (fun y => by omega), Or.inl⟩))
    · rw [if_neg (by rw [lt_nI (by omega) (by omega)]; exact hlt)]
      obtain ⟨r0, σ1, p1, p2, p3, p4, p5⟩ := X_sameInEnd hA hd hX okc he0 h20c
      have p1' : fX1_sameInEnd (nI (10 * k + t)) σ = some (nI r0, σ1) := p1
      rw [p1']
      simp only [Option.bind_some]
      have hr := hS.1
      have hmin : (if nI r0 < nI r then nI r0 else nI r) = nI (min r0 r) := by
        by_cases z : r0 < r
        · rw [if_pos (by rw [lt_nI (by omega) (by omega)]; exact z), Nat.min_eq_left (by omega)]
        · rw [if_neg (by rw [lt_nI (by omega) (by omega)]; exact z), Nat.min_eq_right (by omega)]
      rw [hmin]
      obtain ⟨r', σ', q1, q2, q3, q4, q5⟩ := ih (t + 1) n (min r0 r) σ1 (by omega) (by omega) (hX.fr p5 (fun a b z => by omega)) (fun j hj => (p5.1 20 j (by omega)).trans (h20c j hj)) (hS.step (e0 := some (k, t, q)) (fun e => by
        rw [PE_next hk hq]
        exact ⟨fun z => z.elim Or.inl (fun y => Or.inr y.1), fun z => z.elim Or.inl (fun y => Or.inr ⟨y, by omega⟩)⟩) (Nat.min_le_right _ _) (fun j hj => p3 j (by omega)) (fun z => by
          have : min r0 r = r0 := by omega
          rw [this]; exact p4 (by omega)))
      exact ⟨r', σ', q1, q2, q3, q4, p5.tr q5⟩
theorem X_sie24 (hA : WFA N A) (hd : d < A 3 0) {M : Nat} (hM : M < 100000000) {e0 : Option (Nat × Nat × Nat)} (he0 : okS N A d (A 4 d) e0) : ∀ (m k n r : Nat) (σ : ST), k + m = A 4 d → m < n → XR σ N A d (A 4 d) → (∀ j, j < A 4 d → σ.1 20 j = lcode (er N A d e0 j)) → SR (A 4 d) (PE N A d M k 0) (er N A d) (er N A d e0) r → ∃ r' σ', fX1_sameInEnds_L24 n (nI M) (nI r) (nI k) σ = some (nI r', σ') ∧ KX σ' N ∧ SR (A 4 d) (PE N A d M (A 4 d) 0) (er N A d) (er N A d e0) r' ∧ Fr (fun a _ => a = 24) σ σ' := by
  have h20 := (hA.2.1.2 d hd).1
  intro m
  induction m with
  | zero =>
    intro k n r σ hk hn hX h20c hS
    obtain ⟨n, rfl⟩ : ∃ m, n = m + 1 := ⟨n - 1, by omega⟩
    have : k = A 4 d := by omega
    subst this
    refine ⟨r, σ, ?_, hX.2.1, hS, Fr.rf⟩
    rw [uX1_sameInEnds_L24]
    unfold fX1_sameInEnds_B24
    rw [hX.2.2.2.2.1, if_pos (show nI (A 4 d) ≤ nI (A 4 d) by rw [le_nI (by omega) (by omega)]; omega)]
  | succ m ih =>
    intro k n r σ hk hn hX h20c hS
    obtain ⟨n, rfl⟩ : ∃ m, n = m + 1 := ⟨n - 1, by omega⟩
    obtain ⟨f20, hf20⟩ := FU_add 20 (by decide)
    have hlen := spL_len N A d k
    obtain ⟨r1, σ1, q1, q2, q3, q4, q5⟩ := X_sie35 hA hd hM he0 (fun l1 l2 l3 σ => fX1_sameInEnds_L24 n l1 l2 l3 σ) (show k < A 4 d by omega) (spL N A d k).length 0 FU r σ (by omega) (by rw [hf20]; omega) hX h20c hS
    obtain ⟨r', σ', s1, s2, s3, s4⟩ := ih (k + 1) n r1 σ1 (by omega) (by omega) q2 q3 q4
    refine ⟨r', σ', ?_, s2, s3, q5.tr s4⟩
    rw [uX1_sameInEnds_L24]
    unfold fX1_sameInEnds_B24
    rw [hX.2.2.2.2.1, if_neg (show ¬ nI (A 4 d) ≤ nI k by rw [le_nI (by omega) (by omega)]; omega), zl0, q1]
    exact s1
theorem X_sameInEnds (hA : WFA N A) (hd : d < A 3 0) {M : Nat} (hM : M < 100000000) {e0 : Option (Nat × Nat × Nat)} (he0 : okS N A d (A 4 d) e0) {σ : ST} (hX : XR σ N A d (A 4 d)) (h20c : ∀ j, j < A 4 d → σ.1 20 j = lcode (er N A d e0 j)) : ∃ r σ', fX1_sameInEnds (nI M) σ = some (nI r, σ') ∧ KX σ' N ∧ SR (A 4 d) (PE N A d M (A 4 d) 0) (er N A d) (er N A d e0) r ∧ Fr (fun a _ => a = 24) σ σ' := by
  have h20 := (hA.2.1.2 d hd).1
  obtain ⟨f40, hf40⟩ := FU_add 40 (by decide)
  have okn : okS N A d (A 4 d) none := fun q hq => (by cases hq)
  have b2 := ec_bd hA hd hX.2.2.2.2.2 okn
  have hce : fX1_costOfEnd (-1) σ = some (nI (ec N A d none), σ) := X_costOfEnd hA hd hX okn
  unfold fX1_sameInEnds fX1_sameInEnds_J21
  rw [hce]
  simp only [cb, Option.bind_some, hX.2.2.2.2.1]
  by_cases hlt : M < ec N A d none
  · rw [if_pos (by rw [lt_nI (by omega) (by omega)]; exact hlt)]
    exact X_sie24 hA hd hM he0 (A 4 d) 0 FU (A 4 d) σ (by omega) (by rw [hf40]; omega) hX h20c ⟨Nat.le_refl _, fun e he => by have := ((PE_zero e).mp he).2; omega, fun z => by omega⟩
  · rw [if_neg (by rw [lt_nI (by omega) (by omega)]; exact hlt)]
    obtain ⟨r0, σ1, p1, p2, p3, p4, p5⟩ := X_sameInEnd hA hd hX okn he0 h20c
    have p1' : fX1_sameInEnd (-1) σ = some (nI r0, σ1) := p1
    rw [p1']
    simp only [Option.bind_some]
    obtain ⟨r', σ', q1, q2, q3, q4⟩ := X_sie24 hA hd hM he0 (A 4 d) 0 FU r0 σ1 (by omega) (by rw [hf40]; omega) (hX.fr p5 (fun a b z => by omega)) (fun j hj => (p5.1 20 j (by omega)).trans (h20c j hj)) ⟨p2, fun e he j hj => by rw [((PE_zero e).mp he).1]; exact p3 j hj, fun z => ⟨none, (PE_zero none).mpr ⟨rfl, by omega⟩, p4 z⟩⟩
    exact ⟨r', σ', q1, q2, q3, p5.tr q4⟩
/-- the reference: what is said so far -/
def MSu (σ : ST) (N : NET) (A : AS) (d : Nat) (P : Option (Nat × Nat × Nat) → Prop) (r : Nat) (f : Int32) : Prop := (f = 1 ∧ (∀ e, ¬ P e) ∧ r = A 4 d) ∨ (f = 0 ∧ ∃ e1, P e1 ∧ (∀ j, j < r → σ.1 23 j = lcode (er N A d e1 j)) ∧ SR (A 4 d) P (er N A d) (er N A d e1) r)
theorem MSu.congr {σ : ST} {P P' : Option (Nat × Nat × Nat) → Prop} {r : Nat} {f : Int32} (h : MSu σ N A d P r f) (hp : ∀ e, P' e ↔ P e) : MSu σ N A d P' r f := by
  rcases h with ⟨h1, h2, h3⟩ | ⟨h1, e1, h2, h3, h4⟩
  · exact Or.inl ⟨h1, fun e he => h2 e ((hp e).mp he), h3⟩
  · exact Or.inr ⟨h1, e1, (hp e1).mpr h2, h3, h4.congr hp⟩
theorem MSu.fr {σ σ' : ST} {P : Option (Nat × Nat × Nat) → Prop} {r : Nat} {f : Int32} (h : MSu σ N A d P r f) (hF : ∀ j, σ'.1 23 j = σ.1 23 j) : MSu σ' N A d P r f := by
  rcases h with h | ⟨h1, e1, h2, h3, h4⟩
  · exact Or.inl h
  · exact Or.inr ⟨h1, e1, h2, fun j hj => (hF j).trans (h3 j hj), h4⟩
theorem M_alike1 {w : Nat → Nat} {r : Nat} (hr : r ≤ 20) : ∀ (m t n : Nat) (σ : ST), t + m = r → m < n → (∀ j, j < r → σ.1 22 j = lcode (w j)) → (∀ j, j < t → σ.1 23 j = lcode (w j)) → ∃ σ', fX5_alike_L2 n (nI r) 1 (nI t) σ = some (nI r, σ') ∧ (∀ j, j < r → σ'.1 23 j = lcode (w j)) ∧ Fr (fun a _ => a = 23) σ σ' := by
  intro m
  induction m with
  | zero =>
    intro t n σ ht hn hw h
    obtain ⟨n, rfl⟩ : ∃ m, n = m + 1 := ⟨n - 1, by omega⟩
    have : t = r := by omega
    subst this
    refine ⟨σ, ?_, h, Fr.rf⟩
    rw [uX5_alike_L2]
    unfold fX5_alike_B2 fX5_alike_J44
    rw [if_pos (show nI t ≤ nI t by rw [le_nI (by omega) (by omega)]; omega)]
  | succ m ih =>
    intro t n σ ht hn hw h
    obtain ⟨n, rfl⟩ : ∃ m, n = m + 1 := ⟨n - 1, by omega⟩
    have hF : Fr (fun a _ => a = 23) σ (stI σ 23 t (lcode (w t))) := Fr.rf.st rfl
    obtain ⟨σ', q1, q2, q3⟩ := ih (t + 1) n (stI σ 23 t (lcode (w t))) (by omega) (by omega) (fun j hj => (hF.1 22 j (by omega)).trans (hw j hj)) (fun j hj => by
      by_cases e : j = t
      · subst e; exact st_at _ _ _ _
      · rw [st_idx _ _ e]; exact h j (by omega))
    refine ⟨σ', ?_, q2, hF.tr q3⟩
    rw [uX5_alike_L2]
    unfold fX5_alike_B2 fX5_alike_J26
    rw [if_neg (show ¬ nI r ≤ nI t by rw [le_nI (by omega) (by omega)]; omega), if_neg (show ¬ (1 : Int32) = 0 by decide)]
    simp only [ib_nI (show t < 20 by omega) (by decide), cl_nI (show t < 2147483648 by omega), ↓reduceIte, bindv, nI_1, hw t (by omega)]
    exact q1
theorem M_alike0 {r : Nat} (hr : r ≤ 20) : ∀ (m t n : Nat) (σ : ST), t + m = r → m < n → ∃ r0 σ', fX5_alike_L2 n (nI r) 0 (nI t) σ = some (nI r0, σ') ∧ t ≤ r0 ∧ r0 ≤ r ∧ (∀ j, t ≤ j → j < r0 → σ.1 22 j = σ.1 23 j) ∧ (r0 < r → σ.1 22 r0 ≠ σ.1 23 r0) ∧ (∀ a b, σ'.1 a b = σ.1 a b) ∧ Fr (fun a _ => a = 23) σ σ' := by
  intro m
  induction m with
  | zero =>
    intro t n σ ht hn
    obtain ⟨n, rfl⟩ : ∃ m, n = m + 1 := ⟨n - 1, by omega⟩
    have : t = r := by omega
    subst this
    refine ⟨t, σ, ?_, by omega, by omega, fun j h1 h2 => by omega, fun z => by omega, fun _ _ => rfl, Fr.rf⟩
    rw [uX5_alike_L2]
    unfold fX5_alike_B2 fX5_alike_J44
    rw [if_pos (show nI t ≤ nI t by rw [le_nI (by omega) (by omega)]; omega)]
  | succ m ih =>
    intro t n σ ht hn
    obtain ⟨n, rfl⟩ : ∃ m, n = m + 1 := ⟨n - 1, by omega⟩
    rw [uX5_alike_L2]
    unfold fX5_alike_B2 fX5_alike_J26 fX5_alike_J44
    rw [if_neg (show ¬ nI r ≤ nI t by rw [le_nI (by omega) (by omega)]; omega), if_pos rfl]
    simp only [ib_nI (show t < 20 by omega) (by decide), cl_nI (show t < 2147483648 by omega), ↓reduceIte, bindv, nI_1]
    by_cases e : σ.1 22 t = σ.1 23 t
    · rw [if_pos e]
      have same : ∀ a b, (stI σ 23 t (σ.1 22 t)).1 a b = σ.1 a b := fun a b => by
        by_cases z : a = 23 ∧ b = t
        · obtain ⟨z1, z2⟩ := z; subst z1; subst z2; rw [st_at, e]
        · rw [st_ne _ _ z]
      obtain ⟨r0, σ', q1, q2, q3, q4, q5, q6, q7⟩ := ih (t + 1) n (stI σ 23 t (σ.1 22 t)) (by omega) (by omega)
      refine ⟨r0, σ', q1, by omega, q3, fun j h1 h2 => ?_, fun z => ?_, fun a b => (q6 a b).trans (same a b), Fr.tr (P := fun a _ => a = 23) (Fr.rf.st rfl) q7⟩
      · by_cases z : j = t
        · subst z; exact e
        · have := q4 j (by omega) h2
          rw [same, same] at this; exact this
      · have := q5 z
        rw [same, same] at this; exact this
    · rw [if_neg e]
      exact ⟨t, σ, rfl, by omega, by omega, fun j h1 h2 => by omega, fun _ => e, fun _ _ => rfl, Fr.rf⟩
theorem M_alike (hA : WFA N A) (hd : d < A 3 0) (hb : ∀ e, okS N A d (A 4 d) e → ∀ j, er N A d e j ≤ 1000) {P P' : Option (Nat × Nat × Nat) → Prop} (hok : ∀ e, P e → okS N A d (A 4 d) e) {e : Option (Nat × Nat × Nat)} (he : okS N A d (A 4 d) e) (hp : ∀ x, P' x ↔ P x ∨ x = e) {σ : ST} {r : Nat} {f : Int32} (h : MSu σ N A d P r f) (hw : ∀ j, j < A 4 d → σ.1 22 j = lcode (er N A d e j)) : ∃ r' σ', fX5_alike (nI r) f σ = some (nI r', σ') ∧ MSu σ' N A d P' r' 0 ∧ Fr (fun a _ => a = 23) σ σ' := by
  have h20 := (hA.2.1.2 d hd).1
  obtain ⟨f40, hf40⟩ := FU_add 40 (by decide)
  rcases h with ⟨h1, h2, h3⟩ | ⟨h1, e1, h2, h3, h4⟩
  · subst h1; subst h3
    obtain ⟨σ', q1, q2, q3⟩ := M_alike1 h20 (A 4 d) 0 FU σ (by omega) (by rw [hf40]; omega) hw (fun j hj => by omega)
    refine ⟨A 4 d, σ', q1, Or.inr ⟨rfl, e, (hp e).mpr (Or.inr rfl), q2, Nat.le_refl _, fun x hx j hj => ?_, fun z => by omega⟩, q3⟩
    rcases (hp x).mp hx with y | y
    · exact absurd y (h2 x)
    · rw [y]
  · subst h1
    have hr := h4.1
    obtain ⟨r0, σ', q1, -, q3, q4, q5, q6, q7⟩ := M_alike0 (r := r) (by omega) r 0 FU σ (by omega) (by rw [hf40]; omega)
    have b1 := hb e he
    have b2 := hb e1 (hok e1 h2)
    refine ⟨r0, σ', q1, Or.inr ⟨rfl, e1, (hp e1).mpr (Or.inl h2), fun j hj => (q6 23 j).trans (h3 j (by omega)), h4.step hp q3 (fun j hj => ?_) (fun z y => q5 z ?_)⟩, q7⟩
    · have := q4 j (by omega) hj
      rw [hw j (by omega), h3 j (by omega), lcode_inj (b1 j) (b2 j)] at this
      exact this
    · rw [hw r0 (by omega), h3 r0 z, y]
theorem M_su108 (hA : WFA N A) (hd : d < A 3 0) {M : Nat} (hM : M < 100000000) (hb : ∀ e, okS N A d (A 4 d) e → ∀ j, er N A d e j ≤ 1000) (hE : ∀ k i p, k < A 4 d → (spL N A d k)[i]? = some p → EndR (spL N A d) (ofD N A d) (lgD N A d) (A 5 1) (A 4 d) (some (k, p)) (ec N A d (some (k, i, p))) (er N A d (some (k, i, p)))) (k98 : Int32 → Int32 → Int32 → Int32 → Int32 → ST → Option (Int32 × ST)) {k : Nat} (hk : k < A 4 d) : ∀ (m t n r : Nat) (f : Int32) (σ : ST), t + m = (spL N A d k).length → m < n → MB σ N A d → MSu σ N A d (PE N A d M k t) r f → ∃ r' f' σ', fX5_sure_L108 k98 n (nI M) (nI (A 4 d)) (nI r) f (nI k) (nI t) σ = k98 (nI M) (nI (A 4 d)) (nI r') f' (nI (k + 1)) σ' ∧ MB σ' N A d ∧ MSu σ' N A d (PE N A d M (k + 1) 0) r' f' ∧ Fr PF σ σ' := by
  have h20 := (hA.2.1.2 d hd).1
  have hlen := spL_len N A d k
  intro m
  induction m with
  | zero =>
    intro t n r f σ ht hn hB hS
    obtain ⟨n, rfl⟩ : ∃ m, n = m + 1 := ⟨n - 1, by omega⟩
    have : t = (spL N A d k).length := by omega
    subst this
    refine ⟨r, f, σ, ?_, hB, hS.congr PE_row, Fr.rf⟩
    rw [uX5_sure_L108]
    unfold fX5_sure_B108
    rw [if_pos (ib_nI (show k < 20 by omega) (by decide)), cl_nI (by omega), (hB.2.2.2.1 k hk).1, if_pos (show nI (spL N A d k).length ≤ nI (spL N A d k).length by rw [le_nI (by omega) (by omega)]; omega)]
    simp only [bindv, nI_1]
  | succ m ih =>
    intro t n r f σ ht hn hB hS
    obtain ⟨n, rfl⟩ : ∃ m, n = m + 1 := ⟨n - 1, by omega⟩
    obtain ⟨q, hq⟩ : ∃ q, (spL N A d k)[t]? = some q := ⟨_, List.getElem?_eq_some_iff.mpr ⟨by omega, rfl⟩⟩
    have okc : okS N A d (A 4 d) (some (k, t, q)) := fun r hr => by cases hr; exact ⟨hk, hq⟩
    have t10 : (10 : Int32) * nI k + nI t = nI (10 * k + t) := by rw [show (10 : Int32) * nI k = nI (10 * k) from pk_mul 10 _, nI_add]
    obtain ⟨σ1, c, ρ, p1, p2, p3, p4, p5, p6, p7⟩ := M_findRow hA hd (en := some (k, q)) (fun x hx => by cases hx; exact ⟨hk, List.mem_of_getElem? hq⟩) hB
    obtain ⟨u1, u2⟩ := endR_uniq p2 (hE k t q hk hq)
    have p1' : fX5_findRow (nI k) (nI q) σ = some ((), σ1) := p1
    have p6' : Fr PF σ σ1 := p6.mono (fun a b z => by rcases z with z | z | z <;> omega)
    have hS1 : MSu σ1 N A d (PE N A d M k t) r f := hS.fr (fun j => p6.1 23 j (by omega))
    rw [uX5_sure_L108]
    unfold fX5_sure_B108 fX5_sure_J160
    rw [if_pos (ib_nI (show k < 20 by omega) (by decide)), cl_nI (by omega), (hB.2.2.2.1 k hk).1, if_neg (show ¬ nI (spL N A d k).length ≤ nI t by rw [le_nI (by omega) (by omega)]; omega), t10, if_pos (ib_nI (show 10 * k + t < 200 by omega) (by decide)), cl_nI (by omega), (hB.2.2.2.1 k hk).2 t q hq, p1']
    simp only [bindv, cb, Option.bind_some, nI_1, p4]
    by_cases hlt : M < c
    · rw [if_pos (by rw [lt_nI (by omega) (by omega)]; exact hlt)]
      obtain ⟨r', f', σ', q1, q2, q3, q4⟩ := ih (t + 1) n r f σ1 (by omega) (by omega) p7 (hS1.congr (fun e => by
        rw [PE_next hk hq]
        exact ⟨fun z => z.elim id (fun y => by omega), Or.inl⟩))
      exact ⟨r', f', σ', q1, q2, q3, p6'.tr q4⟩
    · rw [if_neg (by rw [lt_nI (by omega) (by omega)]; exact hlt)]
      obtain ⟨r1, σ2, q1, q2, q3⟩ := M_alike hA hd hb (P' := PE N A d M k (t + 1)) (fun e he => he.1) okc (fun e => by
        rw [PE_next hk hq]
        exact ⟨fun z => z.elim Or.inl (fun y => Or.inr y.1), fun z => z.elim Or.inl (fun y => Or.inr ⟨y, by omega⟩)⟩) hS1 (fun j hj => by rw [p5 j hj, u2 j hj])
      have q3' : Fr PF σ1 σ2 := q3.mono (fun a b z => by omega)
      rw [q1]
      simp only [Option.bind_some]
      obtain ⟨r', f', σ', s1, s2, s3, s4⟩ := ih (t + 1) n r1 0 σ2 (by omega) (by omega) (p7.fr q3' (fun _ _ z => z)) q2
      exact ⟨r', f', σ', s1, s2, s3, (p6'.tr q3').tr s4⟩
theorem M_su98 (hA : WFA N A) (hd : d < A 3 0) {M : Nat} (hM : M < 100000000) (hb : ∀ e, okS N A d (A 4 d) e → ∀ j, er N A d e j ≤ 1000) (hE : ∀ k i p, k < A 4 d → (spL N A d k)[i]? = some p → EndR (spL N A d) (ofD N A d) (lgD N A d) (A 5 1) (A 4 d) (some (k, p)) (ec N A d (some (k, i, p))) (er N A d (some (k, i, p)))) : ∀ (m k n r : Nat) (f : Int32) (σ : ST), k + m = A 4 d → m < n → MB σ N A d → MSu σ N A d (PE N A d M k 0) r f → ∃ r' f' σ', fX5_sure_L98 n (nI M) (nI (A 4 d)) (nI r) f (nI k) σ = some (nI r', σ') ∧ MSu σ' N A d (PE N A d M (A 4 d) 0) r' f' ∧ Fr PF σ σ' := by
  have h20 := (hA.2.1.2 d hd).1
  intro m
  induction m with
  | zero =>
    intro k n r f σ hk hn hB hS
    obtain ⟨n, rfl⟩ : ∃ m, n = m + 1 := ⟨n - 1, by omega⟩
    have : k = A 4 d := by omega
    subst this
    refine ⟨r, f, σ, ?_, hS, Fr.rf⟩
    rw [uX5_sure_L98]
    unfold fX5_sure_B98
    rw [if_pos (show nI (A 4 d) ≤ nI (A 4 d) by rw [le_nI (by omega) (by omega)]; omega)]
  | succ m ih =>
    intro k n r f σ hk hn hB hS
    obtain ⟨n, rfl⟩ : ∃ m, n = m + 1 := ⟨n - 1, by omega⟩
    obtain ⟨f20, hf20⟩ := FU_add 20 (by decide)
    have hlen := spL_len N A d k
    obtain ⟨r1, f1, σ1, q1, q2, q3, q4⟩ := M_su108 hA hd hM hb hE (fun l3 l4 l5 l6 l7 σ => fX5_sure_L98 n l3 l4 l5 l6 l7 σ) (show k < A 4 d by omega) (spL N A d k).length 0 FU r f σ (by omega) (by rw [hf20]; omega) hB hS
    obtain ⟨r', f', σ', s1, s2, s3⟩ := ih (k + 1) n r1 f1 σ1 (by omega) (by omega) q2 q3
    refine ⟨r', f', σ', ?_, s2, q4.tr s3⟩
    rw [uX5_sure_L98]
    unfold fX5_sure_B98
    rw [if_neg (show ¬ nI (A 4 d) ≤ nI k by rw [le_nI (by omega) (by omega)]; omega), zl0, q1]
    exact s1
theorem M_su61 (hA : WFA N A) (hd : d < A 3 0) {M : Nat} : ∀ (m t n : Nat) (σ : ST), t + m = A 4 d → m < n → (∀ j, j < t → σ.1 22 j = -5) → ∃ σ', fX5_sure_L61 n (nI M) (nI (A 4 d)) (nI (A 4 d)) (nI t) σ = cb (fX5_alike (nI (A 4 d)) 1 σ') (fun r15 σ16 => fX5_sure_J95 (nI M) (nI (A 4 d)) r15 0 σ16) ∧ (∀ j, j < A 4 d → σ'.1 22 j = -5) ∧ Fr (fun a _ => a = 22) σ σ' := by
  have h20 := (hA.2.1.2 d hd).1
  intro m
  induction m with
  | zero =>
    intro t n σ ht hn h
    obtain ⟨n, rfl⟩ : ∃ m, n = m + 1 := ⟨n - 1, by omega⟩
    have : t = A 4 d := by omega
    subst this
    refine ⟨σ, ?_, h, Fr.rf⟩
    rw [uX5_sure_L61]
    unfold fX5_sure_B61
    rw [if_pos (show nI (A 4 d) ≤ nI (A 4 d) by rw [le_nI (by omega) (by omega)]; omega)]
  | succ m ih =>
    intro t n σ ht hn h
    obtain ⟨n, rfl⟩ : ∃ m, n = m + 1 := ⟨n - 1, by omega⟩
    have hF : Fr (fun a _ => a = 22) σ (stI σ 22 t (-5)) := Fr.rf.st rfl
    obtain ⟨σ', q1, q2, q3⟩ := ih (t + 1) n (stI σ 22 t (-5)) (by omega) (by omega) (fun j hj => by
      by_cases e : j = t
      · subst e; exact st_at _ _ _ _
      · rw [st_idx _ _ e]; exact h j (by omega))
    refine ⟨σ', ?_, q2, hF.tr q3⟩
    rw [uX5_sure_L61]
    unfold fX5_sure_B61
    rw [if_neg (show ¬ nI (A 4 d) ≤ nI t by rw [le_nI (by omega) (by omega)]; omega), if_pos (ib_nI (show t < 20 by omega) (by decide)), cl_nI (by omega)]
    simp only [bindv, nI_1]
    exact q1
theorem st_sure (a b : Int32) : Step InvW (fX4_sure a b) (fX5_sure a b) := by
  rintro σX σM ⟨N, A, hA, hX, hM⟩
  have hI : InvW σX σM := ⟨N, A, hA, hX, hM⟩
  unfold fX4_sure fX5_sure
  rcases drive_cases hA hX.2.2.1 hM.2.2.1 a with ⟨d, hd, e, h1, h2⟩ | ⟨h1, h2⟩
  · subst e
    rw [h1, h2]
    simp only [X_within, M_within, cb, Option.bind_some, Option.elim, bif0]
    rw [if_neg (show ¬ (1 : Int32) = 0 by decide)]
    by_cases k1 : (0 : Int32) ≤ b ∧ b ≤ 100000
    · rw [if_pos k1, if_pos k1]
      obtain ⟨y, -, hy, e⟩ := num_of (l := 0) (m := 100000) (by decide) (by decide) k1
      subst e
      have h6 := hA.2.1.1
      have h20 := (hA.2.1.2 d hd).1
      obtain ⟨σX1, c, ρ, p1, p2, p3, -, p5, p6, p7, -⟩ := X_settle hA hd hX
      obtain ⟨σM1, c', ρ', q1, q2, q3, q4, q5, q6, q7, -⟩ := M_lay hA hM hd
      obtain ⟨e1, -⟩ := endR_uniq p2 q2
      subst e1
      obtain ⟨e0, l1, l2, l3⟩ := laid_end hX.1.1 p6 p2
      have hXR : XR σX1 N A d (A 4 d) := ⟨p7.1, p7.2.1, p7.2.2.1, p7.2.2.2.2.2.2.2.1, p7.2.2.2.2.2.2.1, p6⟩
      obtain ⟨r, σX2, s1, s2, s3, s4⟩ := X_sameInEnds hA hd (M := c + y) (by omega) l1 hXR (fun j hj => by rw [p5 j hj, l3 j hj])
      have hG2 : GD σX2 N A d := p7.fr (s4.mono (fun a b z => by omega)) s2
      have hb : ∀ e, okS N A d (A 4 d) e → ∀ j, er N A d e j ≤ 1000 := fun e he => er_val hX.1.1 p6 he
      have hE := fun k i p (hk : k < A 4 d) (hp : (spL N A d k)[i]? = some p) => end_of hX.1.1 p6 hk hp i
      obtain ⟨f40, hf40⟩ := FU_add 40 (by decide)
      have e13 := q6.2.1.2.1.2.1 d (by omega)
      rw [if_pos hd] at e13
      have hln : nI (A 5 1) * nI (A 4 d) = nI (ec N A d none) := pk_mul _ _
      have okn : okS N A d (A 4 d) none := fun q hq => (by cases hq)
      have bn := ec_bd hA hd p6 okn
      -- the reference ends with the same number
      have fin : ∀ (σ0 : ST) (r0 : Nat) (f : Int32), MB σ0 N A d → Fr PF σM1 σ0 → MSu σ0 N A d (PE N A d (c + y) 0 0) r0 f → ∃ σM2, fX5_sure_J95 (nI (c + y)) (nI (A 4 d)) (nI r0) f σ0 = some (nI r, σM2) ∧ GM σM2 N A := by
        intro σ0 r0 f hB0 hF0 hS0
        obtain ⟨r', f', σ', z1, z2, z3⟩ := M_su98 hA hd (M := c + y) (by omega) hb hE (A 4 d) 0 FU r0 f σ0 (by omega) (by rw [hf40]; omega) hB0 hS0
        have hP0 : PE N A d (c + y) (A 4 d) 0 e0 := ⟨l1, by omega, fun q hq => Or.inl (l1 q hq).1⟩
        have hr : r' = r := by
          rcases z2 with ⟨-, y2, -⟩ | ⟨-, e2, y2, -, y4, y5, y6⟩
          · exact absurd hP0 (y2 e0)
          · have w0 := y5 e0 hP0
            have hSR : SR (A 4 d) (PE N A d (c + y) (A 4 d) 0) (er N A d) (er N A d e0) r' := by
              refine ⟨y4, fun e he j hj => (y5 e he j hj).trans (w0 j hj).symm, fun z => ?_⟩
              obtain ⟨e, u1, u2⟩ := y6 z
              by_cases u3 : er N A d e r' = er N A d e0 r'
              · exact ⟨e2, y2, fun u4 => u2 (u3.trans u4.symm)⟩
              · exact ⟨e, u1, u3⟩
            exact hSR.uniq s3
        subst hr
        exact ⟨σ', z1, (q7.fr (hF0.tr z3) (fun a b z => by rcases z with z | z | z | z <;> omega))⟩
      have key : ∃ σM2, (if nI (c + y) < nI (ec N A d none) then fX5_sure_J95 (nI (c + y)) (nI (A 4 d)) (nI (A 4 d)) 1 σM1 else fX5_sure_L61 FU (nI (c + y)) (nI (A 4 d)) (nI (A 4 d)) 0 σM1) = some (nI r, σM2) ∧ GM σM2 N A := by
        by_cases hlt : c + y < ec N A d none
        · rw [if_pos (by rw [lt_nI (by omega) (by omega)]; exact hlt)]
          exact fin σM1 (A 4 d) 1 q6 Fr.rf (Or.inl ⟨rfl, fun e he => by have := ((PE_zero e).mp he).2; omega, rfl⟩)
        · rw [if_neg (by rw [lt_nI (by omega) (by omega)]; exact hlt)]
          obtain ⟨σ1, u1, u2, u3⟩ := M_su61 hA hd (M := c + y) (A 4 d) 0 FU σM1 (by omega) (by rw [hf40]; omega) (fun j hj => by omega)
          have u3' : Fr PF σM1 σ1 := u3.mono (fun a b z => by omega)
          obtain ⟨r1, σ2, v1, v2, v3⟩ := M_alike hA hd hb (P := fun _ => False) (P' := PE N A d (c + y) 0 0) (fun e he => he.elim) okn (fun e => by
            rw [PE_zero]
            exact ⟨fun z => Or.inr z.1, fun z => z.elim (fun y => y.elim) (fun y => ⟨y, by omega⟩)⟩) (σ := σ1) (r := A 4 d) (f := 1) (Or.inl ⟨rfl, fun _ z => z, rfl⟩) (fun j hj => u2 j hj)
          have v3' : Fr PF σ1 σ2 := v3.mono (fun a b z => by omega)
          have u1' : fX5_sure_L61 FU (nI (c + y)) (nI (A 4 d)) (nI (A 4 d)) 0 σM1 = _ := u1
          rw [u1', v1]
          simp only [cb, Option.bind_some]
          exact fin σ2 r1 0 ((q6.fr u3' (fun _ _ z => z)).fr v3' (fun _ _ z => z)) (u3'.tr v3') v2
      obtain ⟨σM2, g1, g2⟩ := key
      refine ⟨nI r, σX2, σM2, ?_, ?_, N, A, hA, hG2.gx, g2⟩
      · rw [p1]
        simp only [Option.bind_some, nI_add, s1]
      · rw [q1]
        simp only [Option.bind_some, bindv, q4, nI_add, ib_nI (show d < 6 by omega) (by decide), cl_nI (show d < 2147483648 by omega), ↓reduceIte, e13, q6.2.1.2.2.1.2, hln]
        exact g1
    · rw [if_neg k1, if_neg k1]
      exact ⟨_, _, _, rfl, rfl, hI⟩
  · rw [h1, h2]
    simp only [cb, Option.bind_some, Option.elim, ↓reduceIte]
    exact ⟨_, _, _, rfl, rfl, hI⟩
end SureP
