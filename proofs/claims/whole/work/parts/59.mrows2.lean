-- pure: the reference's findRow (own work)
theorem Lst_uniq {I v v' : Nat} {Q : Nat → Prop} (h : Lst I Q v) (h' : Lst I Q v') : v = v' := by
  obtain ⟨a1, a2, a3⟩ := h
  obtain ⟨b1, b2, b3⟩ := h'
  by_cases e : v < I
  · have := b2 v (a1 e)
    by_cases e' : v' < I
    · have := a2 v' (b1 e'); omega
    · omega
  · by_cases e' : v' < I
    · have := a2 v' (b1 e'); omega
    · omega
section MRows2
variable {N : NET} {A : AS} {d : Nat}
noncomputable def rsD (N : NET) (A : AS) (d : Nat) (en : Option (Nat × Nat)) (j p : Nat) : Nat := @dite _ (∃ r, Rest (spL N A d) (ofD N A d) (lgD N A d) (A 5 1) en (A 4 d) j p r) (Classical.propDecidable _) (fun h => Classical.choose h) (fun _ => 0)
theorem rsD_eq {en : Option (Nat × Nat)} {j p r : Nat} (h : Rest (spL N A d) (ofD N A d) (lgD N A d) (A 5 1) en (A 4 d) j p r) : rsD N A d en j p = r := by
  have hex : ∃ r, Rest (spL N A d) (ofD N A d) (lgD N A d) (A 5 1) en (A 4 d) j p r := ⟨r, h⟩
  unfold rsD
  rw [dif_pos hex]
  exact Lst_uniq (Classical.choose_spec hex) h
def RestP (N : NET) (A : AS) (d : Nat) (en : Option (Nat × Nat)) (k : Nat) : Prop := ∀ j p, k ≤ j → j < A 4 d → p ∈ spL N A d j → Rest (spL N A d) (ofD N A d) (lgD N A d) (A 5 1) en (A 4 d) j p (rsD N A d en j p)
def okE (N : NET) (A : AS) (d : Nat) (en : Option (Nat × Nat)) : Prop := ∀ q, en = some q → q.1 < A 4 d ∧ q.2 ∈ spL N A d q.1
theorem okE.bd {en : Option (Nat × Nat)} (hA : WFA N A) (hN : WFN N) (hd : d < A 3 0) (h : okE N A d en) : ∀ q, en = some q → q.1 < 2147483648 ∧ q.2 < 2147483648 := fun q hq => by
  obtain ⟨a, b⟩ := h q hq
  have := spL_lt b
  have := hN.1
  obtain ⟨-, ⟨hd6, hdd⟩, -⟩ := id hA
  have := (hdd d hd).1
  exact ⟨by omega, by omega⟩
theorem hof_D (hA : WFA N A) (hd : d < A 3 0) : ∀ k p, k < A 4 d → p ∈ spL N A d k → ofD N A d k p ≤ 3600 := fun k p hk hp => by
  obtain ⟨-, ⟨hd6, hdd⟩, -⟩ := id hA
  obtain ⟨-, hdx, -⟩ := hdd d hd
  obtain ⟨-, -, -, x4⟩ := hdx k hk
  have h1 := spL_off hp
  have h2 := Nat.mul_le_mul x4 x4
  omega
theorem h1000_D (hN : WFN N) : ∀ k p, p ∈ spL N A d k → p < 1000 := fun k p hp => by
  have h1 := spL_lt hp
  have h2 := hN.1
  omega
theorem rs_le {en : Option (Nat × Nat)} (hA : WFA N A) (hd : d < A 3 0) {j p : Nat} (hj : j < A 4 d) (hp : p ∈ spL N A d j) (h : Rest (spL N A d) (ofD N A d) (lgD N A d) (A 5 1) en (A 4 d) j p (rsD N A d en j p)) : rsD N A d en j p ≤ MF ∧ (rsD N A d en j p < MF → rsD N A d en j p ≤ 23000000 ∧ ofD N A d j p ≤ rsD N A d en j p) := by
  obtain ⟨-, ⟨hd6, hdd⟩, ⟨g1, g2, g3, g4⟩, -⟩ := id hA
  have h20 := (hdd d hd).1
  refine ⟨h.2.2, fun hlt => ?_⟩
  obtain ⟨c', ⟨ρ, h1⟩, h2⟩ := h.1 hlt
  have h3 := sx_bd (n := A 4 d) (fun e q k p x hk hx => lgD_bd hA hd hk hx) (hof_D hA hd) g4 (A 4 d - j - 1) (j + 1) _ c' (by omega) h1
  have h4 := hof_D hA hd j p hj hp
  have h5 : 1100000 * (A 4 d - j - 1) ≤ 1100000 * 20 := Nat.mul_le_mul_left _ (by omega)
  omega
abbrev PQ1 (j : Nat) : Nat → Nat → Prop := fun a b => a = 21 ∧ 10 * j ≤ b ∧ b < 10 * j + 10
theorem mfr23 (hA : WFA N A) (hd : d < A 3 0) {en : Option (Nat × Nat)} (he : okE N A d en) (k15 : Int32 → Int32 → Int32 → Int32 → ST → Option (Unit × ST)) {j : Nat} (hj : j < A 4 d) (hP : RestP N A d en (j + 1)) : ∀ (m t n : Nat) (σ : ST), t + m = (spL N A d j).length → m < n → MB σ N A d → RestC σ N A d (rsD N A d en) (j + 1) → (∀ i p, i < t → (spL N A d j)[i]? = some p → σ.1 21 (10 * j + i) = nI (rsD N A d en j p) ∧ Rest (spL N A d) (ofD N A d) (lgD N A d) (A 5 1) en (A 4 d) j p (rsD N A d en j p)) → ∃ σ', fX5_findRow_L23 k15 n (li en) (lp en) (nI (A 4 d)) (nI j) (nI t) σ = k15 (li en) (lp en) (nI (A 4 d)) (nI j + -1) σ' ∧ RestC σ' N A d (rsD N A d en) j ∧ RestP N A d en j ∧ Fr (PQ1 j) σ σ' := by
  have hMF : MF = 1000000000 := rfl
  obtain ⟨-, ⟨hd6, hdd⟩, ⟨g1, g2, g3, g4⟩, -⟩ := id hA
  obtain ⟨h20, hdx, hinc⟩ := hdd d hd
  have hlen := spL_len N A d j
  intro m
  induction m with
  | zero =>
    intro t n σ ht hn hB hC hT
    obtain ⟨n, rfl⟩ : ∃ m, n = m + 1 := ⟨n - 1, by omega⟩
    obtain ⟨s1, s2⟩ := hB.2.2.2.1 j hj
    have hRP : RestP N A d en j := fun j' p h1 h2 h3 => by
      by_cases e : j' = j
      · subst e
        obtain ⟨i, hi⟩ := List.getElem?_of_mem h3
        exact (hT i p (by have := (List.getElem?_eq_some_iff.mp hi).1; omega) hi).2
      · exact hP j' p (by omega) h2 h3
    refine ⟨σ, ?_, fun j' i p h1 h2 h3 => ?_, hRP, Fr.rf⟩
    · rw [uX5_findRow_L23]
      unfold fX5_findRow_B23
      rw [if_pos (ib_nI (show j < 20 by omega) (by decide)), cl_nI (by omega), s1, if_pos (by rw [le_nI (by omega) (by omega)]; omega)]
      rfl
    · by_cases e : j' = j
      · subst e
        have hi := (List.getElem?_eq_some_iff.mp h3).1
        obtain ⟨q1, q2⟩ := hT i p (by omega) h3
        exact ⟨q1, q2.2.2⟩
      · exact hC j' i p (by omega) h2 h3
  | succ m ih =>
    intro t n σ ht hn hB hC hT
    obtain ⟨n, rfl⟩ : ∃ m, n = m + 1 := ⟨n - 1, by omega⟩
    obtain ⟨s1, s2⟩ := hB.2.2.2.1 j hj
    have hRb := hB.1.1.1
    obtain ⟨p, hp⟩ : ∃ p, (spL N A d j)[t]? = some p := ⟨_, List.getElem?_eq_some_iff.mpr ⟨by omega, rfl⟩⟩
    have hpm := List.mem_of_getElem? hp
    have hp150 := spL_lt hpm
    have i1 : ib (nI j) 20 = true := ib_nI (by omega) (by decide)
    have c1 : (nI j).toNatClampNeg = j := cl_nI (by omega)
    have t10 : (10 : Int32) * nI j + nI t = nI (10 * j + t) := by rw [show (10 : Int32) * nI j = nI (10 * j) from pk_mul 10 _, nI_add]
    have i2 : ib (nI (10 * j + t)) 200 = true := ib_nI (by omega) (by decide)
    have c2 : (nI (10 * j + t)).toNatClampNeg = 10 * j + t := cl_nI (by omega)
    have heb := he.bd hA hB.1.1 hd
    -- the value goes in
    have put : ∀ r, Rest (spL N A d) (ofD N A d) (lgD N A d) (A 5 1) en (A 4 d) j p r → ∃ σ', fX5_findRow_J144 k15 (fun l1 l2 l3 l4 l5 σ => fX5_findRow_L23 k15 n l1 l2 l3 l4 l5 σ) (li en) (lp en) (nI (A 4 d)) (nI j) (nI t) (nI r) (nI (10 * j + t)) σ = k15 (li en) (lp en) (nI (A 4 d)) (nI j + -1) σ' ∧ RestC σ' N A d (rsD N A d en) j ∧ RestP N A d en j ∧ Fr (PQ1 j) σ σ' := by
      intro r hr
      have er := rsD_eq hr
      have hF : Fr (PQ1 j) σ (stI σ 21 (10 * j + t) (nI r)) := Fr.rf.st ⟨rfl, by omega, by omega⟩
      obtain ⟨σ', q1, q2, q3, q4⟩ := ih (t + 1) n (stI σ 21 (10 * j + t) (nI r)) (by omega) (by omega) (hB.fr hF (fun a b z => Or.inl z.1)) (fun j' i p' h1 h2 h3 => by
        have hi := (List.getElem?_eq_some_iff.mp h3).1
        have := spL_len N A d j'
        rw [st_idx _ _ (by omega)]
        exact hC j' i p' h1 h2 h3) (fun i p' hi h3 => by
        by_cases e : i = t
        · subst e
          rw [hp] at h3; cases h3
          rw [st_at, er]
          exact ⟨rfl, hr⟩
        · rw [st_idx _ _ (by omega)]
          exact hT i p' (by omega) h3)
      refine ⟨σ', ?_, q2, q3, hF.tr q4⟩
      unfold fX5_findRow_J144
      simp only [i2, c2, ↓reduceIte, bindv, nI_1]
      exact q1
    have yes : ∃ σ', fX5_findRow_J72 k15 (fun l1 l2 l3 l4 l5 σ => fX5_findRow_L23 k15 n l1 l2 l3 l4 l5 σ) (li en) (lp en) (nI (A 4 d)) (nI j) (nI t) (nI p) σ = k15 (li en) (lp en) (nI (A 4 d)) (nI j + -1) σ' ∧ RestC σ' N A d (rsD N A d en) j ∧ RestP N A d en j ∧ Fr (PQ1 j) σ σ' := by
      obtain ⟨v, b1, b2⟩ := M_behind hA hd hB heb (k := j + 1) (by omega) hC (l := some (j, p)) (fun q hq => by cases hq; exact ⟨by omega, hp150⟩)
      have b3 := behind_of (of := ofD N A d) (fun k p hp => by have := h1000_D hB.1.1 k p hp; omega) (show j + 1 ≤ A 4 d by omega) (Nat.le_refl (j + 1)) (fun j' p' h1 h2 h3 => hP j' p' h1 h2 h3) b2
      have hv3 := b3.2.2
      unfold fX5_findRow_J72 fX5_findRow_J77 fX5_findRow_J103
      rw [if_neg (by decide), nI_1]
      have b1' : fX5_behind (nI (j + 1)) (nI j) (nI p) (li en) (lp en) σ = some (nI v, σ) := b1
      rw [b1']
      simp only [cb, Option.bind_some, t10]
      have heq : A 4 d - (j + 1) = A 4 d - j - 1 := by omega
      rw [heq] at b3
      by_cases hv : 1000000000 ≤ v
      · rw [if_pos (by rw [show (1000000000 : Int32) = nI 1000000000 from rfl, le_nI (by omega) (by omega)]; exact hv), show (1000000000 : Int32) = nI 1000000000 from rfl]
        refine put _ ⟨fun z => by omega, fun u hu => ?_, by omega⟩
        obtain ⟨c', h1, h2⟩ := hu
        have := b3.2.1 c' h1
        omega
      · rw [if_neg (by rw [show (1000000000 : Int32) = nI 1000000000 from rfl, le_nI (by omega) (by omega)]; exact hv), hB.2.2.2.2, M_offOf hB.1 hA hB.2.1 hd hj hp150]
        simp only [Option.bind_some, nI_add]
        have hin := b3.1 (by omega)
        obtain ⟨ρ, hρ⟩ := id hin
        have h3 := sx_bd (n := A 4 d) (fun e q k p x hk hx => lgD_bd hA hd hk hx) (hof_D hA hd) g4 (A 4 d - j - 1) (j + 1) _ v (by omega) hρ
        have h4 := hof_D hA hd j p hj hpm
        have h5 : 1100000 * (A 4 d - j - 1) ≤ 1100000 * 20 := Nat.mul_le_mul_left _ (by omega)
        refine put _ ⟨fun _ => ⟨v, hin, rfl⟩, fun u hu => ?_, by omega⟩
        obtain ⟨c', h1, h2⟩ := hu
        have := b3.2.1 c' h1
        omega
    have no : (∃ k0 p0, en = some (k0, p0) ∧ (k0 < j ∨ (j = k0 ∧ p ≠ p0))) → ∃ σ', fX5_findRow_J76 k15 (fun l1 l2 l3 l4 l5 σ => fX5_findRow_L23 k15 n l1 l2 l3 l4 l5 σ) (li en) (lp en) (nI (A 4 d)) (nI j) (nI t) (nI p) σ = k15 (li en) (lp en) (nI (A 4 d)) (nI j + -1) σ' ∧ RestC σ' N A d (rsD N A d en) j ∧ RestP N A d en j ∧ Fr (PQ1 j) σ σ' := by
      rintro ⟨k0, p0, e1, e2⟩
      unfold fX5_findRow_J76 fX5_findRow_J77 fX5_findRow_J103
      rw [if_pos rfl, if_pos (by decide), t10, show (1000000000 : Int32) = nI 1000000000 from rfl]
      refine put _ ⟨fun z => by omega, fun u hu => ?_, by omega⟩
      obtain ⟨c', ⟨ρ, h1⟩, h2⟩ := hu
      rw [e1] at h1
      exact absurd h1 (sx_no _ (j + 1) j p c' (by omega) e2)
    rw [uX5_findRow_L23]
    unfold fX5_findRow_B23
    rw [if_pos i1, c1, s1, if_neg (by rw [le_nI (by omega) (by omega)]; omega), t10, if_pos i2, c2, s2 t p hp]
    simp only [bindv]
    cases hen : en with
    | none =>
      rw [if_pos (show li none < 0 by decide)]
      rw [hen] at yes; exact yes
    | some q =>
      obtain ⟨k0, p0⟩ := q
      obtain ⟨w1, w2⟩ := heb _ hen
      have w1' : k0 < 2147483648 := w1
      have w2' : p0 < 2147483648 := w2
      rw [hen] at yes no
      rw [if_neg (show ¬ li (some (k0, p0)) < 0 from nI_nn w1)]
      show ∃ σ', (if nI j < nI k0 then _ else _) = _ ∧ _
      by_cases h1 : j < k0
      · rw [if_pos (by rw [lt_nI (by omega) (by omega)]; exact h1)]
        exact yes
      · rw [if_neg (by rw [lt_nI (by omega) (by omega)]; exact h1)]
        show ∃ σ', (if nI j = nI k0 then (if nI p = nI p0 then _ else _) else _) = _ ∧ _
        by_cases h2 : j = k0
        · rw [if_pos (by rw [h2])]
          by_cases h3 : p = p0
          · rw [if_pos (by rw [h3])]; exact yes
          · rw [if_neg (by rw [eq_nI (by omega) (by omega)]; exact h3)]
            exact no ⟨k0, p0, rfl, Or.inr ⟨h2, h3⟩⟩
        · rw [if_neg (by rw [eq_nI (by omega) (by omega)]; exact h2)]
          exact no ⟨k0, p0, rfl, Or.inl (by omega)⟩
/-- one step of the walk -/
theorem greedy_step {S : Nat → List Nat} {of : Nat → Nat → Nat} {lg : Nat → Nat → Nat → Nat → Option Nat} {ls n : Nat} {en : Option (Nat × Nat)} (h1000 : ∀ k p, p ∈ S k → p < 1000) {rs : Nat → Nat → Nat} (hrs : ∀ j p, j < n → p ∈ S j → Rest S of lg ls en n j p (rs j p)) {k : Nat} (hk : k < n) {l : Option (Nat × Nat)} {due : Nat} (a : Lst MF (sset S of lg ls en (n - k) k l) due) (b : due < MF) : (∀ q x, q ∈ S k → lgo lg l k q = some x → rs k q < MF → x + rs k q = due → Lst MF (sset S of lg ls en (n - (k + 1)) (k + 1) (some (k, q))) (rs k q - of k q) ∧ rs k q - of k q < MF) ∧ ((∀ q x, q ∈ S k → lgo lg l k q = some x → rs k q < MF → x + rs k q ≠ due) → ls ≤ due ∧ Lst MF (sset S of lg ls en (n - (k + 1)) (k + 1) l) (due - ls) ∧ due - ls < MF) := by
  have hm : n - k = (n - (k + 1)) + 1 := by omega
  rw [hm] at a
  have hne : ∀ p, p ∈ S k → p ≠ 1000 := fun p hp => by have := h1000 k p hp; omega
  refine ⟨fun q x g1 g2 g3 g4 => ?_, fun g2 => ?_⟩
  · obtain ⟨c', r1, r2⟩ := (hrs k q hk g1).1 g3
    rw [show n - k - 1 = n - (k + 1) by omega] at r1
    refine ⟨⟨fun _ => by rw [show rs k q - of k q = c' by omega]; exact r1, fun c hc => ?_, by omega⟩, by omega⟩
    have := (hrs k q hk g1).2.1 (of k q + c) ⟨c, by rw [show n - k - 1 = n - (k + 1) by omega]; exact hc, rfl⟩
    omega
  · have hin := a.1 b
    rw [sset_succ hne] at hin
    have low : ∀ c, sset S of lg ls en (n - (k + 1)) (k + 1) l c → due ≤ ls + c := fun c hc => a.2.1 (ls + c) ((sset_succ hne).mpr (Or.inl ⟨c, hc, rfl⟩))
    rcases hin with ⟨c', r1, r2⟩ | ⟨p, x, c', r1, r2, r3, r4⟩
    · refine ⟨by omega, ⟨fun _ => by rw [show due - ls = c' by omega]; exact r1, fun c hc => by have := low c hc; omega, by omega⟩, by omega⟩
    · exfalso
      have hr := hrs k p hk r1
      have h1 := hr.2.1 (of k p + c') ⟨c', by rw [show n - k - 1 = n - (k + 1) by omega]; exact r3, rfl⟩
      have h2 : rs k p < MF := by omega
      obtain ⟨c2, q1, q2⟩ := hr.1 h2
      rw [show n - k - 1 = n - (k + 1) by omega] at q1
      have h3 := a.2.1 (x + of k p + c2) ((sset_succ hne).mpr (Or.inr ⟨p, x, c2, r1, r2, q1, rfl⟩))
      exact g2 p x r1 r2 h2 (by omega)
theorem ne_m5 {q : Nat} (h : q < 2147483648) : ¬ nI q = -5 := fun e => by
  have := nI_nn h
  rw [e] at this
  exact this (by decide)
/-- the search at sight k -/
theorem mfr203 (hA : WFA N A) (hd : d < A 3 0) {en : Option (Nat × Nat)} (hP : RestP N A d en 0) (k185 : Int32 → Int32 → Int32 → Int32 → Int32 → ST → Option (Unit × ST)) {k : Nat} (hk : k < A 4 d) {l : Option (Nat × Nat)} (hl : okL N k l) {due : Nat} (hdue : due < MF) : ∀ (m t n : Nat) (σ : ST), t + m = (spL N A d k).length → m + 1 < n → MB σ N A d → RestC σ N A d (rsD N A d en) 0 → σ.1 22 k = -5 → (∀ i q x, i < t → (spL N A d k)[i]? = some q → lgo (lgD N A d) l k q = some x → rsD N A d en k q < MF → x + rsD N A d en k q ≠ due) →
    (fX5_findRow_L203 k185 n (nI (A 4 d)) (li l) (lp l) (nI due) (nI k) (nI t) σ = fX5_findRow_J354 k185 (nI (A 4 d)) (li l) (lp l) (nI due) (nI k) σ ∧ ∀ q x, q ∈ spL N A d k → lgo (lgD N A d) l k q = some x → rsD N A d en k q < MF → x + rsD N A d en k q ≠ due) ∨
    ∃ q, q ∈ spL N A d k ∧ (∃ x, lgo (lgD N A d) l k q = some x ∧ rsD N A d en k q < MF ∧ x + rsD N A d en k q = due) ∧ (∀ q' x, q' ∈ spL N A d k → q' < q → lgo (lgD N A d) l k q' = some x → rsD N A d en k q' < MF → x + rsD N A d en k q' ≠ due) ∧ fX5_findRow_L203 k185 n (nI (A 4 d)) (li l) (lp l) (nI due) (nI k) (nI t) σ = fX5_findRow_J354 k185 (nI (A 4 d)) (li l) (lp l) (nI (rsD N A d en k q - ofD N A d k q)) (nI k) (stI σ 22 k (nI q)) := by
  have hMF : MF = 1000000000 := rfl
  obtain ⟨-, ⟨hd6, hdd⟩, ⟨g1, g2, g3, g4⟩, -⟩ := id hA
  obtain ⟨h20, hdx, hinc⟩ := hdd d hd
  have hlen := spL_len N A d k
  have i1 : ib (nI k) 20 = true := ib_nI (by omega) (by decide)
  have c1 : (nI k).toNatClampNeg = k := cl_nI (by omega)
  intro m
  induction m with
  | zero =>
    intro t n σ ht hn hB hC h22 hT
    obtain ⟨n, rfl⟩ : ∃ m, n = m + 1 := ⟨n - 1, by omega⟩
    obtain ⟨s1, s2⟩ := hB.2.2.2.1 k hk
    refine Or.inl ⟨?_, fun q x h1 h2 h3 => ?_⟩
    · rw [uX5_findRow_L203]
      unfold fX5_findRow_B203
      rw [if_pos i1, c1, s1, if_pos (by rw [le_nI (by omega) (by omega)]; omega)]
    · obtain ⟨i, hi⟩ := List.getElem?_of_mem h1
      exact hT i q x (by have := (List.getElem?_eq_some_iff.mp hi).1; omega) hi h2 h3
  | succ m ih =>
    intro t n σ ht hn hB hC h22 hT
    obtain ⟨n, rfl⟩ : ∃ m, n = m + 1 := ⟨n - 1, by omega⟩
    obtain ⟨s1, s2⟩ := hB.2.2.2.1 k hk
    have hRb := hB.1.1.1
    obtain ⟨p, hp⟩ : ∃ p, (spL N A d k)[t]? = some p := ⟨_, List.getElem?_eq_some_iff.mpr ⟨by omega, rfl⟩⟩
    have hpm := List.mem_of_getElem? hp
    have hp150 := spL_lt hpm
    obtain ⟨r1, r2⟩ := hC k t p (by omega) hk hp
    obtain ⟨-, r3⟩ := rs_le hA hd hk hpm (hP k p (by omega) hk hpm)
    have t10 : (10 : Int32) * nI k + nI t = nI (10 * k + t) := by rw [show (10 : Int32) * nI k = nI (10 * k) from pk_mul 10 _, nI_add]
    have i2 : ib (nI (10 * k + t)) 200 = true := ib_nI (by omega) (by decide)
    have c2 : (nI (10 * k + t)).toNatClampNeg = 10 * k + t := cl_nI (by omega)
    have skip : (∀ x, lgo (lgD N A d) l k p = some x → rsD N A d en k p < MF → x + rsD N A d en k p ≠ due) → _ := fun h => ih (t + 1) n σ (by omega) (by omega) hB hC h22 (fun i q x hi hq h1 h2 => by
      by_cases e : i = t
      · subst e; rw [hp] at hq; cases hq; exact h x h1 h2
      · exact hT i q x (by omega) hq h1 h2)
    have go : ∀ s0 : Nat, s0 = (lgo (lgD N A d) l k p).getD 1000000000 →
      (fX5_findRow_J263 k185 (fun l3 l4 l5 l6 l7 l8 σ => fX5_findRow_L203 k185 n l3 l4 l5 l6 l7 l8 σ) (nI (A 4 d)) (li l) (lp l) (nI due) (nI k) (nI t) (nI p) (nI s0) σ = fX5_findRow_J354 k185 (nI (A 4 d)) (li l) (lp l) (nI due) (nI k) σ ∧ ∀ q x, q ∈ spL N A d k → lgo (lgD N A d) l k q = some x → rsD N A d en k q < MF → x + rsD N A d en k q ≠ due) ∨
      ∃ q, q ∈ spL N A d k ∧ (∃ x, lgo (lgD N A d) l k q = some x ∧ rsD N A d en k q < MF ∧ x + rsD N A d en k q = due) ∧ (∀ q' x, q' ∈ spL N A d k → q' < q → lgo (lgD N A d) l k q' = some x → rsD N A d en k q' < MF → x + rsD N A d en k q' ≠ due) ∧ fX5_findRow_J263 k185 (fun l3 l4 l5 l6 l7 l8 σ => fX5_findRow_L203 k185 n l3 l4 l5 l6 l7 l8 σ) (nI (A 4 d)) (li l) (lp l) (nI due) (nI k) (nI t) (nI p) (nI s0) σ = fX5_findRow_J354 k185 (nI (A 4 d)) (li l) (lp l) (nI (rsD N A d en k q - ofD N A d k q)) (nI k) (stI σ 22 k (nI q)) := by
      intro s0 hs0
      unfold fX5_findRow_J263 fX5_findRow_J348
      rw [t10, if_pos i2, c2, r1]
      simp only [bindv, nI_1]
      by_cases hr : 1000000000 ≤ rsD N A d en k p
      · rw [if_pos (by rw [show (1000000000 : Int32) = nI 1000000000 from rfl, le_nI (by omega) (by omega)]; exact hr)]
        exact skip (fun x _ z => by omega)
      · rw [if_neg (by rw [show (1000000000 : Int32) = nI 1000000000 from rfl, le_nI (by omega) (by omega)]; exact hr)]
        obtain ⟨r4, r5⟩ := r3 (by omega)
        cases hx : lgo (lgD N A d) l k p with
        | none =>
          rw [hx] at hs0
          have : s0 = 1000000000 := hs0
          subst this
          rw [if_pos (by rw [show (1000000000 : Int32) = nI 1000000000 from rfl, le_nI (by omega) (by omega)]; omega)]
          exact skip (fun x hx' => by rw [hx] at hx'; cases hx')
        | some x =>
          rw [hx] at hs0
          have : s0 = x := hs0
          subst this
          have hxb : s0 ≤ 1000000 := by
            cases l with
            | none => have e : (some 0 : Option Nat) = some s0 := hx; cases e; omega
            | some q => exact lgD_bd hA hd hk hx
          rw [if_neg (by rw [show (1000000000 : Int32) = nI 1000000000 from rfl, le_nI (by omega) (by omega)]; omega), if_pos i2, nI_add]
          by_cases heq : s0 + rsD N A d en k p = due
          · rw [if_pos (by rw [heq]), if_pos i1, c1]
            have hF : Fr PF σ (stI σ 22 k (nI p)) := Fr.rf.st (Or.inr (Or.inl rfl))
            have hB' := hB.fr hF (fun a b z => z)
            rw [if_pos i2, show (stI σ 22 k (nI p)).1 0 31 = nI d from hB'.2.2.2.2, M_offOf hB'.1 hA hB'.2.1 hd hk hp150, st_cell _ _ _ (by decide), r1, cb]
            simp only [Option.bind_some]
            rw [sub_nI r5]
            refine Or.inr ⟨p, hpm, ⟨s0, hx, by omega, heq⟩, fun q' x h1 h2 h3 h4 => ?_, ?_⟩
            · obtain ⟨i, hi⟩ := List.getElem?_of_mem h1
              refine hT i q' x ?_ hi h3 h4
              rcases (show i < t ∨ i = t ∨ t < i by omega) with z | z | z
              · exact z
              · subst z; rw [hp] at hi; cases hi; omega
              · have := fl_lt z hp hi; omega
            · obtain ⟨n, rfl⟩ : ∃ m, n = m + 1 := ⟨n - 1, by omega⟩
              rw [uX5_findRow_L203]
              unfold fX5_findRow_B203
              rw [if_pos i1, c1, st_cell _ _ _ (by decide), s1]
              by_cases hle : (spL N A d k).length ≤ t + 1
              · rw [if_pos (by rw [le_nI (by omega) (by omega)]; exact hle)]
              · rw [if_neg (by rw [le_nI (by omega) (by omega)]; exact hle), if_pos i1, st_at, if_neg (ne_m5 (by omega))]
          · rw [if_neg (by rw [eq_nI (by omega) (by omega)]; exact heq)]
            exact skip (fun x hx' _ z => by rw [hx] at hx'; cases hx'; exact heq z)
    rw [uX5_findRow_L203]
    unfold fX5_findRow_B203
    rw [if_pos i1, c1, s1, if_neg (by rw [le_nI (by omega) (by omega)]; omega), if_pos i1, h22, if_pos rfl, t10, if_pos i2, c2, s2 t p hp]
    simp only [bindv]
    cases l with
    | none =>
      rw [if_neg (show ¬ (0 : Int32) ≤ li none by decide)]
      exact go 0 rfl
    | some q =>
      obtain ⟨b1, b2⟩ := hl q rfl
      have hnn : (0 : Int32) ≤ li (some q) := nI_pos' (show q.1 < 2147483648 by omega)
      rw [if_pos hnn]
      have := M_step hA hd hB (e := q.1) (q := q.2) (k := k) (p := p) (by omega) hk b2 hp150
      have this' : fX5_step (li (some q)) (lp (some q)) (nI k) (nI p) σ = some (nI ((lgD N A d q.1 q.2 k p).getD 1000000000), σ) := this
      rw [this']
      simp only [cb, Option.bind_some]
      exact go _ rfl
end MRows2
