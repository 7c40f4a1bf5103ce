-- pure: the reference's rows (own work)
/-- the reference with ways and spots of drive d found -/
def MB (σ : ST) (N : NET) (A : AS) (d : Nat) : Prop := NM σ N ∧ RM σ A ∧ WM σ N (5 * nR N) ∧ SpM σ N A d (A 4 d) ∧ σ.1 0 31 = nI d
theorem WM.fr {P : Nat → Nat → Prop} {σ σ' : ST} {N : NET} {n : Nat} (h : WM σ N n) (hF : Fr P σ σ') (hP : ∀ a b, P a b → a ≠ 15 ∧ a ≠ 16) : WM σ' N n := fun p q hp hq => by
  obtain ⟨a, b, c, e⟩ := h p q hp hq
  exact ⟨a, (hF.1 15 _ (fun z => (hP _ _ z).1 rfl)).trans b, (hF.1 16 _ (fun z => (hP _ _ z).2 rfl)).trans c, e⟩
abbrev PF : Nat → Nat → Prop := fun a b => a = 21 ∨ a = 22 ∨ a = 23 ∨ (a = 0 ∧ b = 30)
theorem MB.fr {P : Nat → Nat → Prop} {σ σ' : ST} {N : NET} {A : AS} {d : Nat} (h : MB σ N A d) (hF : Fr P σ σ') (hP : ∀ a b, P a b → PF a b) : MB σ' N A d := by
  obtain ⟨h1, h2, h3, h4, h5⟩ := h
  refine ⟨h1.fr hF (fun a b z => ?_), h2.fr hF (fun a b z => ?_), h3.fr hF (fun a b z => ?_), fun s hs => (h4 s hs).fr hF (fun a b z => ?_), (hF.1 0 31 (fun z => ?_)).trans h5⟩
  all_goals have := hP _ _ z; rcases this with z | z | z | z <;> omega
def li (l : Option (Nat × Nat)) : Int32 := match l with
  | none => -1
  | some q => nI q.1
def lp (l : Option (Nat × Nat)) : Int32 := match l with
  | none => -1
  | some q => nI q.2
theorem M_step {σ : ST} {N : NET} {A : AS} (hA : WFA N A) {d : Nat} (hd : d < A 3 0) (hB : MB σ N A d) {e q k p : Nat} (he : e < k) (hk : k < A 4 d) (hq : q < 5 * nR N) (hp : p < 5 * nR N) : fX5_step (nI e) (nI q) (nI k) (nI p) σ = some (nI ((lgD N A d e q k p).getD 1000000000), σ) := by
  obtain ⟨hN, hR, hW, -, h31⟩ := hB
  have hRb := hN.1.1
  obtain ⟨-, ⟨hd6, hdd⟩, ⟨g1, g2, g3, g4⟩, -⟩ := id hA
  obtain ⟨h20, hdx, hinc⟩ := hdd d hd
  obtain ⟨-, -, x3, -⟩ := hdx k hk
  have hte := hinc e k he hk
  obtain ⟨-, -, t1, -⟩ := hR.2.1.2.2 d hd e (by omega)
  obtain ⟨-, -, t2, -⟩ := hR.2.1.2.2 d hd k hk
  obtain ⟨-, w1, w2, w3⟩ := hW q p hq hp
  have hINF : INF = 1000000000000000000 := rfl
  have hx : (150 : Int32) * nI q + nI p = nI (150 * q + p) := by rw [show (150 : Int32) * nI q = nI (150 * q) from pk_mul 150 q, nI_add]
  have hi : ib (nI (150 * q + p)) 22500 = true := ib_nI (by omega) (by decide)
  have hc : (nI (150 * q + p)).toNatClampNeg = 150 * q + p := cl_nI (by omega)
  have y1 : (20 : Int32) * nI d + nI k = nI (20 * d + k) := by rw [show (20 : Int32) * nI d = nI (20 * d) from pk_mul 20 d, nI_add]
  have y2 : (20 : Int32) * nI d + nI e = nI (20 * d + e) := by rw [show (20 : Int32) * nI d = nI (20 * d) from pk_mul 20 d, nI_add]
  have i1 : ib (nI (20 * d + k)) 120 = true := ib_nI (by omega) (by decide)
  have i2 : ib (nI (20 * d + e)) 120 = true := ib_nI (by omega) (by decide)
  have c1 : (nI (20 * d + k)).toNatClampNeg = 20 * d + k := cl_nI (by omega)
  have c2 : (nI (20 * d + e)).toNatClampNeg = 20 * d + e := cl_nI (by omega)
  have f4 : (4 : Int32) * nI (A 5 0) * nI (A (30 + d) k - A (30 + d) e) = nI (4 * A 5 0 * (A (30 + d) k - A (30 + d) e)) := by rw [show (4 : Int32) * nI (A 5 0) = nI (4 * A 5 0) from pk_mul 4 _, pk_mul]
  have hbd : 4 * A 5 0 * (A (30 + d) k - A (30 + d) e) ≤ 400 * 10000 := Nat.mul_le_mul (by omega) (by omega)
  unfold fX5_step
  simp only [hx, hi, hc, ↓reduceIte, bindv, h31, y1, y2, i1, i2, c1, c2, w1, t1, t2, hR.2.2.1.1, sub_nI (show A (30 + d) e ≤ A (30 + d) k by omega), f4]
  unfold lgD
  by_cases h : wayOf N q p / 1000000000 ≤ 4 * A 5 0 * (A (30 + d) k - A (30 + d) e)
  · rw [if_neg (by rw [lt_nI (by omega) (by omega)]; omega), if_pos h, zl4, div_nI (by omega) (by decide) (by decide)]
    rfl
  · rw [if_pos (by rw [lt_nI (by omega) (by omega)]; omega), if_neg h]
    rfl
section MRows
variable {N : NET} {A : AS} {d : Nat}
/-- what 'behind' has tried, up to the t-th spot of sight j -/
def candT (N : NET) (A : AS) (d : Nat) (en : Option (Nat × Nat)) (rs : Nat → Nat → Nat) (k : Nat) (l : Option (Nat × Nat)) (j t c : Nat) : Prop := (mayE en l ∧ c = A 5 1 * (A 4 d - k)) ∨ ∃ j' i' p x, k ≤ j' ∧ (j' < j ∨ (j' = j ∧ i' < t)) ∧ (spL N A d j')[i']? = some p ∧ lgo (lgD N A d) l j' p = some x ∧ rs j' p < MF ∧ c = A 5 1 * (j' - k) + x + rs j' p
def RestC (σ : ST) (N : NET) (A : AS) (d : Nat) (rs : Nat → Nat → Nat) (k : Nat) : Prop := ∀ j i p, k ≤ j → j < A 4 d → (spL N A d j)[i]? = some p → σ.1 21 (10 * j + i) = nI (rs j p) ∧ rs j p ≤ MF
def okL (N : NET) (k : Nat) (l : Option (Nat × Nat)) : Prop := ∀ q, l = some q → q.1 < k ∧ q.2 < 5 * nR N
theorem mbe69 (hA : WFA N A) (hd : d < A 3 0) {σ : ST} (hB : MB σ N A d) {en : Option (Nat × Nat)} {rs : Nat → Nat → Nat} {k : Nat} (hrs : RestC σ N A d rs k) {l : Option (Nat × Nat)} (hl : okL N k l) (k59 : Int32 → Int32 → Int32 → Int32 → Int32 → Int32 → ST → Option (Int32 × ST)) {j : Nat} (hkj : k ≤ j) (hj : j < A 4 d) : ∀ (m t n v : Nat), t + m = (spL N A d j).length → m < n → Lst MF (candT N A d en rs k l j t) v → ∃ v', fX5_behind_L69 k59 n (nI k) (li l) (lp l) (nI (A 4 d)) (nI v) (nI j) (nI t) σ = k59 (nI k) (li l) (lp l) (nI (A 4 d)) (nI v') (nI (j + 1)) σ ∧ Lst MF (candT N A d en rs k l (j + 1) 0) v' := by
  have hMF : MF = 1000000000 := rfl
  obtain ⟨-, ⟨hd6, hdd⟩, ⟨g1, g2, g3, g4⟩, -⟩ := id hA
  obtain ⟨h20, hdx, hinc⟩ := hdd d hd
  have hlen := spL_len N A d j
  obtain ⟨s1, s2⟩ := hB.2.2.2.1 j hj
  intro m
  induction m with
  | zero =>
    intro t n v ht hn hv
    obtain ⟨n, rfl⟩ : ∃ m, n = m + 1 := ⟨n - 1, by omega⟩
    have : t = (spL N A d j).length := by omega
    refine ⟨v, ?_, Lst_same hv (fun c => ?_)⟩
    · rw [uX5_behind_L69]
      unfold fX5_behind_B69
      rw [if_pos (ib_nI (show j < 20 by omega) (by decide)), cl_nI (by omega), s1, if_pos (by rw [le_nI (by omega) (by omega)]; omega)]
      simp only [bindv, nI_1]
    · constructor
      · rintro (h | ⟨j', i', p, x, h1, h2, h3, h4⟩)
        · exact Or.inl h
        · refine Or.inr ⟨j', i', p, x, h1, ?_, h3, h4⟩
          rcases (show j' < j ∨ j' = j by omega) with z | z
          · exact Or.inl z
          · subst z
            have := (List.getElem?_eq_some_iff.mp h3).1
            exact Or.inr ⟨rfl, by omega⟩
      · rintro (h | ⟨j', i', p, x, h1, h2, h3, h4⟩)
        · exact Or.inl h
        · exact Or.inr ⟨j', i', p, x, h1, by omega, h3, h4⟩
  | succ m ih =>
    intro t n v ht hn hv
    obtain ⟨n, rfl⟩ : ∃ m, n = m + 1 := ⟨n - 1, by omega⟩
    obtain ⟨p, hp⟩ : ∃ p, (spL N A d j)[t]? = some p := ⟨_, List.getElem?_eq_some_iff.mpr ⟨by omega, rfl⟩⟩
    have hpm := List.mem_of_getElem? hp
    have hp150 := spL_lt hpm
    obtain ⟨r1, r2⟩ := hrs j t p hkj hj hp
    have hv3 := hv.2.2
    have i1 : ib (nI j) 20 = true := ib_nI (by omega) (by decide)
    have c1 : (nI j).toNatClampNeg = j := cl_nI (by omega)
    have t10 : (10 : Int32) * nI j + nI t = nI (10 * j + t) := by rw [show (10 : Int32) * nI j = nI (10 * j) from pk_mul 10 _, nI_add]
    have i2 : ib (nI (10 * j + t)) 200 = true := ib_nI (by omega) (by decide)
    have c2 : (nI (10 * j + t)).toNatClampNeg = 10 * j + t := cl_nI (by omega)
    have ne : ∀ j' i', ((j' < j ∨ (j' = j ∧ i' < t + 1)) ↔ (j' < j ∨ (j' = j ∧ i' < t)) ∨ (j' = j ∧ i' = t)) := fun j' i' => by omega
    -- no candidate here
    have no : (∀ x, lgo (lgD N A d) l j p = some x → ¬ rs j p < MF) → ∃ v', fX5_behind_J174 k59 (fun l1 l2 l3 l6 l8 l9 l10 σ => fX5_behind_L69 k59 n l1 l2 l3 l6 l8 l9 l10 σ) (nI k) (li l) (lp l) (nI (A 4 d)) (nI v) (nI j) (nI t) σ = k59 (nI k) (li l) (lp l) (nI (A 4 d)) (nI v') (nI (j + 1)) σ ∧ Lst MF (candT N A d en rs k l (j + 1) 0) v' := by
      intro hno
      obtain ⟨v', q1, q2⟩ := ih (t + 1) n v (by omega) (by omega) (Lst_same hv (fun c => by
        constructor
        · rintro (h | ⟨j', i', p', x, h1, h2, h3, h4, h5, h6⟩)
          · exact Or.inl h
          · rcases (ne j' i').mp h2 with z | ⟨z1, z2⟩
            · exact Or.inr ⟨j', i', p', x, h1, z, h3, h4, h5, h6⟩
            · subst z1; subst z2
              rw [hp] at h3; cases h3
              exact absurd h5 (hno x h4)
        · rintro (h | ⟨j', i', p', x, h1, h2, h3, h4⟩)
          · exact Or.inl h
          · exact Or.inr ⟨j', i', p', x, h1, (ne j' i').mpr (Or.inl h2), h3, h4⟩))
      refine ⟨v', ?_, q2⟩
      unfold fX5_behind_J174
      simp only [bindv, nI_1]
      exact q1
    -- a candidate x
    have go : ∀ s0 : Nat, s0 = (lgo (lgD N A d) l j p).getD 1000000000 → ∃ v', fX5_behind_J125 k59 (fun l1 l2 l3 l6 l8 l9 l10 σ => fX5_behind_L69 k59 n l1 l2 l3 l6 l8 l9 l10 σ) (nI k) (li l) (lp l) (nI (A 4 d)) (nI v) (nI j) (nI t) (nI (rs j p)) (nI s0) σ = k59 (nI k) (li l) (lp l) (nI (A 4 d)) (nI v') (nI (j + 1)) σ ∧ Lst MF (candT N A d en rs k l (j + 1) 0) v' := by
      intro s0 hs0
      unfold fX5_behind_J125
      by_cases hr : 1000000000 ≤ rs j p
      · rw [if_pos (by rw [show (1000000000 : Int32) = nI 1000000000 from rfl, le_nI (by omega) (by omega)]; exact hr)]
        exact no (fun x _ z => by omega)
      · rw [if_neg (by rw [show (1000000000 : Int32) = nI 1000000000 from rfl, le_nI (by omega) (by omega)]; exact hr)]
        cases hx : lgo (lgD N A d) l j p with
        | none =>
          rw [hx] at hs0
          have : s0 = 1000000000 := hs0
          subst this
          rw [if_pos (by rw [show (1000000000 : Int32) = nI 1000000000 from rfl, le_nI (by omega) (by omega)]; omega)]
          exact no (fun x hx' => by rw [hx] at hx'; cases hx')
        | some x =>
          rw [hx] at hs0
          have : s0 = x := hs0
          subst this
          have hxb : s0 ≤ 1000000 := by
            cases l with
            | none => have e : (some 0 : Option Nat) = some s0 := hx; cases e; omega
            | some q => exact lgD_bd hA hd hj hx
          have hlb : A 5 1 * (j - k) ≤ 9999 * 20 := Nat.mul_le_mul g4 (by omega)
          rw [if_neg (by rw [show (1000000000 : Int32) = nI 1000000000 from rfl, le_nI (by omega) (by omega)]; omega), hB.2.1.2.2.1.2, sub_nI hkj, pk_mul, nI_add, nI_add]
          simp only [bindv]
          have step := Lst_step (c0 := A 5 1 * (j - k) + s0 + rs j p) (Q' := candT N A d en rs k l j (t + 1)) hv (fun c => by
            constructor
            · rintro (h | ⟨j', i', p', x, h1, h2, h3, h4, h5, h6⟩)
              · exact Or.inl (Or.inl h)
              · rcases (ne j' i').mp h2 with z | ⟨z1, z2⟩
                · exact Or.inl (Or.inr ⟨j', i', p', x, h1, z, h3, h4, h5, h6⟩)
                · subst z1; subst z2
                  rw [hp] at h3; cases h3
                  rw [hx] at h4; cases h4
                  exact Or.inr h6
            · rintro ((h | ⟨j', i', p', x, h1, h2, h3, h4⟩) | h)
              · exact Or.inl h
              · exact Or.inr ⟨j', i', p', x, h1, (ne j' i').mpr (Or.inl h2), h3, h4⟩
              · exact Or.inr ⟨j, t, p, s0, hkj, Or.inr ⟨rfl, by omega⟩, hp, hx, by omega, h⟩)
          obtain ⟨v', q1, q2⟩ := ih (t + 1) n _ (by omega) (by omega) step
          refine ⟨v', ?_, q2⟩
          unfold fX5_behind_J172 fX5_behind_J174
          simp only [bindv, nI_1]
          by_cases hle : v ≤ A 5 1 * (j - k) + s0 + rs j p
          · rw [if_pos (by rw [le_nI (by omega) (by omega)]; exact hle)]
            rw [Nat.min_eq_left hle] at q1
            exact q1
          · rw [if_neg (by rw [le_nI (by omega) (by omega)]; exact hle)]
            rw [Nat.min_eq_right (by omega)] at q1
            exact q1
    rw [uX5_behind_L69]
    unfold fX5_behind_B69
    rw [if_pos i1, c1, s1, if_neg (by rw [le_nI (by omega) (by omega)]; omega), t10, if_pos i2, c2, r1]
    simp only [bindv]
    cases l with
    | none =>
      rw [if_neg (show ¬ (0 : Int32) ≤ li none by decide)]
      exact go 0 rfl
    | some q =>
      obtain ⟨b1, b2⟩ := hl q rfl
      have hnn : (0 : Int32) ≤ li (some q) := nI_pos' (show q.1 < 2147483648 by omega)
      rw [if_pos hnn, if_pos i2, s2 t p hp]
      have := M_step hA hd hB (e := q.1) (q := q.2) (k := j) (p := p) (by omega) hj b2 hp150
      show ∃ v', cb (fX5_step (nI q.1) (nI q.2) (nI j) (nI p) σ) _ = _ ∧ _
      rw [this]
      simp only [cb, Option.bind_some]
      exact go _ rfl
theorem mbe59 (hA : WFA N A) (hd : d < A 3 0) {σ : ST} (hB : MB σ N A d) {en : Option (Nat × Nat)} {rs : Nat → Nat → Nat} {k : Nat} (hrs : RestC σ N A d rs k) {l : Option (Nat × Nat)} (hl : okL N k l) : ∀ (m j n v : Nat), j + m = A 4 d → m < n → k ≤ j → Lst MF (candT N A d en rs k l j 0) v → ∃ v', fX5_behind_L59 n (nI k) (li l) (lp l) (nI (A 4 d)) (nI v) (nI j) σ = some (nI v', σ) ∧ Lst MF (candT N A d en rs k l (A 4 d) 0) v' := by
  obtain ⟨-, ⟨hd6, hdd⟩, ⟨g1, g2, g3, g4⟩, -⟩ := id hA
  obtain ⟨h20, hdx, hinc⟩ := hdd d hd
  intro m
  induction m with
  | zero =>
    intro j n v hj hn hk hv
    obtain ⟨n, rfl⟩ : ∃ m, n = m + 1 := ⟨n - 1, by omega⟩
    have : j = A 4 d := by omega
    subst this
    refine ⟨v, ?_, hv⟩
    rw [uX5_behind_L59]
    unfold fX5_behind_B59
    rw [if_pos (by rw [le_nI (by omega) (by omega)]; omega)]
  | succ m ih =>
    intro j n v hj hn hk hv
    obtain ⟨n, rfl⟩ : ∃ m, n = m + 1 := ⟨n - 1, by omega⟩
    obtain ⟨f20, hf20⟩ := FU_add 20 (by decide)
    have := spL_len N A d j
    obtain ⟨v1, q1, q2⟩ := mbe69 hA hd hB hrs hl (fun l1 l2 l3 l6 l8 l9 σ => fX5_behind_L59 n l1 l2 l3 l6 l8 l9 σ) hk (show j < A 4 d by omega) (spL N A d j).length 0 FU v (by omega) (by rw [hf20]; omega) hv
    obtain ⟨v', r1, r2⟩ := ih (j + 1) n v1 (by omega) (by omega) (by omega) q2
    refine ⟨v', ?_, r2⟩
    rw [uX5_behind_L59]
    unfold fX5_behind_B59
    rw [if_neg (by rw [le_nI (by omega) (by omega)]; omega), zl0, q1]
    exact r1
theorem li_en {en l : Option (Nat × Nat)} {k : Nat} (hk : k < 2147483648) (hl : okL N k l) (hR : 5 * nR N < 2147483648) (he : ∀ q, en = some q → q.1 < 2147483648 ∧ q.2 < 2147483648) : mayE en l ↔ (li en < 0 ∨ (li l = li en ∧ lp l = lp en)) := by
  cases en with
  | none => exact ⟨fun _ => Or.inl (by decide), fun _ => Or.inl rfl⟩
  | some q =>
    obtain ⟨a1, a2⟩ := he q rfl
    have hnn : ¬ li (some q) < 0 := nI_nn a1
    constructor
    · rintro (h | h)
      · cases h
      · exact Or.inr (by rw [h]; exact ⟨rfl, rfl⟩)
    · rintro (h | ⟨h1, h2⟩)
      · exact absurd h hnn
      · right
        cases l with
        | none =>
          have : ¬ nI q.1 < 0 := nI_nn a1
          have h1' : (-1 : Int32) = nI q.1 := h1
          rw [← h1'] at this
          exact absurd (by decide) this
        | some r =>
          obtain ⟨b1, b2⟩ := hl r rfl
          have h1' : nI r.1 = nI q.1 := h1
          have h2' : nI r.2 = nI q.2 := h2
          rw [eq_nI (by omega) a1] at h1'
          rw [eq_nI (by omega) a2] at h2'
          rw [Prod.ext h1' h2']
theorem M_behind (hA : WFA N A) (hd : d < A 3 0) {σ : ST} (hB : MB σ N A d) {en : Option (Nat × Nat)} (he : ∀ q, en = some q → q.1 < 2147483648 ∧ q.2 < 2147483648) {rs : Nat → Nat → Nat} {k : Nat} (hk : k ≤ A 4 d) (hrs : RestC σ N A d rs k) {l : Option (Nat × Nat)} (hl : okL N k l) : ∃ v, fX5_behind (nI k) (li l) (lp l) (li en) (lp en) σ = some (nI v, σ) ∧ Lst MF (candB (spL N A d) (lgD N A d) (A 5 1) en (A 4 d) rs k l) v := by
  have hMF : MF = 1000000000 := rfl
  obtain ⟨-, ⟨hd6, hdd⟩, ⟨g1, g2, g3, g4⟩, -⟩ := id hA
  obtain ⟨h20, hdx, hinc⟩ := hdd d hd
  have hRb := hB.1.1.1
  have e13 := hB.2.1.2.1.2.1 d (by omega)
  rw [if_pos hd] at e13
  obtain ⟨f40, hf40⟩ := FU_add 40 (by decide)
  have hlb : A 5 1 * (A 4 d - k) ≤ 9999 * 20 := Nat.mul_le_mul g4 (by omega)
  have key : ∀ v0, Lst MF (candT N A d en rs k l k 0) v0 → ∃ v, fX5_behind_L59 FU (nI k) (li l) (lp l) (nI (A 4 d)) (nI v0) (nI k) σ = some (nI v, σ) ∧ Lst MF (candB (spL N A d) (lgD N A d) (A 5 1) en (A 4 d) rs k l) v := by
    intro v0 h0
    obtain ⟨v, q1, q2⟩ := mbe59 hA hd hB hrs hl (A 4 d - k) k FU v0 (by omega) (by rw [hf40]; omega) (Nat.le_refl k) h0
    refine ⟨v, q1, Lst_same q2 (fun c => ?_)⟩
    constructor
    · rintro (h | ⟨j, p, x, h1, h2, h3, h4⟩)
      · exact Or.inl h
      · obtain ⟨i, hi⟩ := List.getElem?_of_mem h3
        exact Or.inr ⟨j, i, p, x, h1, Or.inl h2, hi, h4⟩
    · rintro (h | ⟨j, i, p, x, h1, h2, h3, h4⟩)
      · exact Or.inl h
      · exact Or.inr ⟨j, p, x, h1, by omega, List.mem_of_getElem? h3, h4⟩
  have only : ∀ c, candT N A d en rs k l k 0 c ↔ (mayE en l ∧ c = A 5 1 * (A 4 d - k)) := fun c => by
    constructor
    · rintro (h | ⟨j, i, p, x, h1, h2, h3, h4⟩)
      · exact h
      · omega
    · exact Or.inl
  have hmay := li_en (N := N) (en := en) (l := l) (k := k) (by omega) hl (by omega) he
  have yes : mayE en l → ∃ v, fX5_behind_J28 (nI k) (li l) (lp l) (nI (A 4 d)) σ = some (nI v, σ) ∧ Lst MF (candB (spL N A d) (lgD N A d) (A 5 1) en (A 4 d) rs k l) v := by
    intro h
    unfold fX5_behind_J28 fX5_behind_J33 fX5_behind_J54
    rw [if_neg (by decide), hB.2.1.2.2.1.2, sub_nI hk, pk_mul]
    exact key _ ⟨fun _ => (only _).mpr ⟨h, rfl⟩, fun u hu => by rw [((only u).mp hu).2]; exact Nat.le_refl _, by omega⟩
  have no : ¬ mayE en l → ∃ v, fX5_behind_J32 (nI k) (li l) (lp l) (nI (A 4 d)) σ = some (nI v, σ) ∧ Lst MF (candB (spL N A d) (lgD N A d) (A 5 1) en (A 4 d) rs k l) v := by
    intro h
    unfold fX5_behind_J32 fX5_behind_J33 fX5_behind_J54
    rw [if_pos rfl, show (1000000000 : Int32) = nI 1000000000 from rfl]
    exact key _ ⟨fun z => by omega, fun u hu => absurd ((only u).mp hu).1 h, by omega⟩
  unfold fX5_behind
  rw [hB.2.2.2.2, if_pos (ib_nI (show d < 6 by omega) (by decide)), cl_nI (by omega), e13]
  simp only [bindv]
  by_cases h1 : li en < 0
  · rw [if_pos h1]
    exact yes (hmay.mpr (Or.inl h1))
  · rw [if_neg h1]
    by_cases h2 : li l = li en
    · rw [if_pos h2]
      by_cases h3 : lp l = lp en
      · rw [if_pos h3]
        exact yes (hmay.mpr (Or.inr ⟨h2, h3⟩))
      · rw [if_neg h3]
        exact no (fun z => by
          rcases hmay.mp z with q | q
          · exact h1 q
          · exact h3 q.2)
    · rw [if_neg h2]
      exact no (fun z => by
        rcases hmay.mp z with q | q
        · exact h1 q
        · exact h2 q.1)
end MRows
