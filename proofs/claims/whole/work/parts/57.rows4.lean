-- pure: the first of the cheapest rows, by its end (own work)
def EndR (S : Nat → List Nat) (of : Nat → Nat → Nat) (lg : Nat → Nat → Nat → Nat → Option Nat) (ls n : Nat) (en : Option (Nat × Nat)) (c : Nat) (ρ : Nat → Nat) : Prop := (∃ l, ev S of lg ls ρ n = some (l, c) ∧ mayE en (lpt ρ l)) ∧ ∀ ρ' l' c', ev S of lg ls ρ' n = some (l', c') → mayE en (lpt ρ' l') → ahead n c ρ c' ρ'
section Rows4
variable {S : Nat → List Nat} {of : Nat → Nat → Nat} {lg : Nat → Nat → Nat → Nat → Option Nat} {ls n : Nat} {en : Option (Nat × Nat)}
theorem ahead_anti {c c' : Nat} {ρ ρ' : Nat → Nat} (a : ahead n c ρ c' ρ') (b : ahead n c' ρ' c ρ) : c = c' ∧ ∀ j, j < n → ρ j = ρ' j := by
  rcases a with a | ⟨a1, a2⟩
  · rcases b with b | ⟨b1, _⟩ <;> omega
  · rcases b with b | ⟨_, b2⟩
    · omega
    · exact ⟨a1, a2.anti b2⟩
theorem ahead_congr {c c' : Nat} {ρ ρ' ρ1 ρ1' : Nat → Nat} (h : ∀ j, j < n → ρ j = ρ1 j) (h' : ∀ j, j < n → ρ' j = ρ1' j) (a : ahead n c ρ c' ρ') : ahead n c ρ1 c' ρ1' := by
  rcases a with a | ⟨a1, a2⟩
  · exact Or.inl a
  · refine Or.inr ⟨a1, ?_⟩
    rcases a2 with a2 | ⟨d, hd, e1, e2⟩
    · exact Or.inl fun j hj => by rw [← h j hj, ← h' j hj]; exact a2 j hj
    · exact Or.inr ⟨d, hd, fun j hj => by rw [← h j (by omega), ← h' j (by omega)]; exact e1 j hj, by rw [← h d hd, ← h' d hd]; exact e2⟩
theorem endR_uniq {c c' : Nat} {ρ ρ' : Nat → Nat} (h : EndR S of lg ls n en c ρ) (h' : EndR S of lg ls n en c' ρ') : c = c' ∧ ∀ j, j < n → ρ j = ρ' j := by
  obtain ⟨⟨l, e1, e2⟩, e3⟩ := h
  obtain ⟨⟨l', f1, f2⟩, f3⟩ := h'
  exact ahead_anti (e3 _ _ _ f1 f2) (f3 _ _ _ e1 e2)
theorem best_end {k p c : Nat} {ρ ρ2 : Nat → Nat} (hb : Best S of lg ls k p c ρ) (hk : k < n) (h1 : ∀ j, j ≤ k → ρ2 j = ρ j) (h2 : ∀ j, k < j → j < n → ρ2 j = 1000) : EndR S of lg ls n (some (k, p)) (c + ls * (n - k - 1)) ρ2 := by
  obtain ⟨b1, b2, b3⟩ := hb
  refine ⟨⟨some k, ?_, Or.inr ?_⟩, fun ρ' l' c' h' hm => ?_⟩
  · have h3 : ev S of lg ls ρ2 (k + 1) = some (some k, c) := by
      rw [ev_congr (ρ' := ρ) (k + 1) (fun j hj => h1 j (by omega))]; exact b1
    have h4 := ev_lefts h3 (n - k - 1) (fun y a b => h2 y (by omega) (by omega))
    rw [show k + 1 + (n - k - 1) = n by omega] at h4
    exact h4
  · show some (k, ρ2 k) = some (k, p)
    rw [h1 k (Nat.le_refl k), b2]
  · rcases hm with hm | hm
    · cases hm
    · cases l' with
      | none => cases hm
      | some e =>
        have hm' : some (e, ρ' e) = some (k, p) := hm
        have e1 : e = k := congrArg Prod.fst (Option.some.inj hm')
        have e2 : ρ' e = p := congrArg Prod.snd (Option.some.inj hm')
        subst e1
        obtain ⟨a1, a2, a3, a4, c1, a5, a6⟩ := (ev_last h').2 e rfl
        have := b3 ρ' c1 a5 e2
        rcases this with z | ⟨z1, z2⟩
        · exact Or.inl (by omega)
        · refine Or.inr ⟨by omega, ?_⟩
          rcases z2 with y | ⟨dd, y1, y2, y3⟩
          · refine Or.inl fun j hj => ?_
            rcases (show j < e ∨ j = e ∨ e < j by omega) with w | w | w
            · rw [h1 j (by omega)]; exact y j w
            · subst w; rw [h1 j (Nat.le_refl j), b2]; exact e2.symm
            · rw [h2 j w hj, a4 j w hj]
          · exact Or.inr ⟨dd, by omega, fun j hj => by rw [h1 j (by omega)]; exact y2 j hj, by rw [h1 dd (by omega)]; exact y3⟩
theorem left_row : ev S of lg ls (fun _ => 1000) n = some (none, ls * n) := by
  have := ev_lefts (S := S) (of := of) (lg := lg) (ls := ls) (ρ := fun _ => 1000) (k := 0) (l := none) (c := 0) rfl n (fun _ _ _ => rfl)
  rw [Nat.zero_add, Nat.zero_add] at this
  exact this
theorem laid_of {CE : Nat → Nat → Nat} {RE : Nat → Nat → Nat → Nat} {c : Nat} {ρ : Nat → Nat} (hall : ∀ k p, k < n → p ∈ S k → EndR S of lg ls n (some (k, p)) (CE k p) (RE k p)) (hmin0 : ahead n c ρ (ls * n) (fun _ => 1000)) (hmin : ∀ k p, k < n → p ∈ S k → ahead n c ρ (CE k p) (RE k p)) (hex : (c = ls * n ∧ ∀ j, j < n → ρ j = 1000) ∨ ∃ k p, k < n ∧ p ∈ S k ∧ c = CE k p ∧ ∀ j, j < n → ρ j = RE k p j) : EndR S of lg ls n none c ρ := by
  refine ⟨?_, fun ρ' l' c' h' _ => ?_⟩
  · rcases hex with ⟨e1, e2⟩ | ⟨k, p, e1, e2, e3, e4⟩
    · refine ⟨none, ?_, Or.inl rfl⟩
      rw [ev_congr (ρ' := fun _ => 1000) n e2, left_row, e1]
    · obtain ⟨⟨l, f1, f2⟩, -⟩ := hall k p e1 e2
      refine ⟨l, ?_, Or.inl rfl⟩
      rw [ev_congr (ρ' := RE k p) n e4, f1, e3]
  · cases l' with
    | none =>
      obtain ⟨a1, a2⟩ := (ev_last h').1 rfl
      rw [a2]
      exact ahead_congr (fun _ _ => rfl) (fun j hj => (a1 j hj).symm) hmin0
    | some e =>
      obtain ⟨a1, a2, a3, -⟩ := (ev_last h').2 e rfl
      exact (hmin e (ρ' e) a1 a3).tr ((hall e (ρ' e) a1 a3).2 ρ' _ c' h' (Or.inr rfl))
theorem greedy_end (h1000 : ∀ k p, p ∈ S k → p < 1000) {rs : Nat → Nat → Nat} (hrs : ∀ j p, j < n → p ∈ S j → Rest S of lg ls en n j p (rs j p)) {ρ : Nat → Nat} {l : Nat → Option (Nat × Nat)} {due : Nat → Nat} (hl0 : l 0 = none) (hg : Greedy S of lg ls n rs ρ l due) (h0 : Lst MF (sset S of lg ls en n 0 none) (due 0)) (hd : due 0 < MF) : EndR S of lg ls n en (due 0) ρ := by
  rw [← hl0] at h0
  have hr := greedy_row h1000 hrs hg h0 hd n 0 (by omega)
  have z0 : ∀ ρ, ev S of lg ls ρ 0 = some (none, 0) := fun _ => rfl
  rw [hl0] at hr
  obtain ⟨l', c', q1, q2, q3⟩ := (ev_sx (en := en) n 0 none 0 (z0 ρ) (due 0)).mp hr
  rw [Nat.zero_add] at q1 q3
  subst q3
  refine ⟨⟨l', q1, q2⟩, fun ρ' l2 c2 h2 hm => ?_⟩
  have hs : sx S of lg ls en ρ' n 0 none c2 := (ev_sx (en := en) n 0 none 0 (z0 ρ') c2).mpr ⟨l2, c2, by rw [Nat.zero_add]; exact h2, hm, by omega⟩
  have hle := h0.2.1 c2 ⟨ρ', by rw [hl0]; exact hs⟩
  by_cases e : due 0 = c2
  · refine Or.inr ⟨e, greedy_first h1000 hrs hg h0 hd n 0 (by omega) (fun j hj => by omega) ?_⟩
    rw [hl0, e]; exact hs
  · exact Or.inl (by omega)
theorem ev_bd (hlg : ∀ e q k p x, k < n → lg e q k p = some x → x ≤ 1000000) (hof : ∀ k p, k < n → p ∈ S k → of k p ≤ 3600) (hls : ls ≤ 9999) {ρ : Nat → Nat} : ∀ k l c, k ≤ n → ev S of lg ls ρ k = some (l, c) → c ≤ 1100000 * k := by
  intro k
  induction k with
  | zero => intro l c _ h; cases h; omega
  | succ k ih =>
    intro l c hk h
    obtain ⟨l0, c0, h0, h1⟩ := ev_inv h
    have := ih l0 c0 (by omega) h0
    rcases h1 with ⟨_, _, e⟩ | ⟨_, e2, _, ⟨_, e⟩ | ⟨e3, x, _, e4, e⟩⟩
    · omega
    · have := hof _ _ (by omega) e2; omega
    · have := hof _ _ (by omega) e2
      have := hlg _ _ _ _ _ (by omega) e4
      omega
theorem sx_bd (hlg : ∀ e q k p x, k < n → lg e q k p = some x → x ≤ 1000000) (hof : ∀ k p, k < n → p ∈ S k → of k p ≤ 3600) (hls : ls ≤ 9999) {ρ : Nat → Nat} : ∀ m k l c, k + m ≤ n → sx S of lg ls en ρ m k l c → c ≤ 1100000 * m := by
  intro m
  induction m with
  | zero => intro k l c _ h; have := h.2; omega
  | succ m ih =>
    intro k l c hk h
    rcases h with ⟨h1, c', h2, h3⟩ | ⟨h1, h2, x, c', h3, h4, h5⟩
    · have := ih _ _ _ (by omega) h2; omega
    · have := ih _ _ _ (by omega) h4
      have := hof _ _ (by omega) h2
      have hx : x ≤ 1000000 := by
        cases l with
        | none => have e : (some 0 : Option Nat) = some x := h3; cases e; omega
        | some q => exact hlg _ _ _ _ _ (by omega) h3
      omega
/-- behind a spot that can't be ahead of the end there is no row -/
theorem sx_no {k0 p0 : Nat} {ρ : Nat → Nat} : ∀ m k j p c, j < k → (k0 < j ∨ (j = k0 ∧ p ≠ p0)) → ¬ sx S of lg ls (some (k0, p0)) ρ m k (some (j, p)) c := by
  intro m
  induction m with
  | zero =>
    intro k j p c hj h hs
    rcases hs.1 with z | z
    · cases z
    · have e1 : j = k0 := congrArg Prod.fst (Option.some.inj z)
      have e2 : p = p0 := congrArg Prod.snd (Option.some.inj z)
      rcases h with h | h
      · omega
      · exact h.2 e2
  | succ m ih =>
    intro k j p c hj h hs
    rcases hs with ⟨h1, c', h2, h3⟩ | ⟨h1, h2, x, c', h3, h4, h5⟩
    · exact ih (k + 1) j p c' (by omega) h h2
    · exact ih (k + 1) k (ρ k) c' (by omega) (Or.inl (by omega)) h4
/-- a row that ends where it must -/
theorem end_ex {k0 p0 : Nat} (hk : k0 < n) (hp : p0 ∈ S k0) (hp0 : p0 ≠ 1000) : ∃ ρ c, sx S of lg ls (some (k0, p0)) ρ n 0 none c := by
  obtain ⟨ρ, h1, h2⟩ : ∃ ρ : Nat → Nat, ρ k0 = p0 ∧ ∀ j, j ≠ k0 → ρ j = 1000 := ⟨fun j => if j = k0 then p0 else 1000, if_pos rfl, fun j hj => if_neg hj⟩
  have z0 : ev S of lg ls ρ 0 = some (none, 0) := rfl
  have h3 := ev_lefts z0 k0 (fun x _ hx => h2 x (by omega))
  rw [Nat.zero_add] at h3
  have h4 := ev_first h3 (by rw [h1]; exact hp0) (by rw [h1]; exact hp)
  have h5 := ev_lefts h4 (n - k0 - 1) (fun x hx _ => h2 x (by omega))
  rw [show k0 + 1 + (n - k0 - 1) = n by omega] at h5
  refine ⟨ρ, _, (ev_sx (en := some (k0, p0)) n 0 none 0 z0 _).mpr ⟨_, _, by rw [Nat.zero_add]; exact h5, Or.inr ?_, (Nat.zero_add _).symm⟩⟩
  show some (k0, ρ k0) = some (k0, p0)
  rw [h1]
theorem none_ex : ∃ ρ c, sx S of lg ls none ρ n 0 none c := ⟨fun _ => 1000, _, (ev_sx (en := none) n 0 none 0 rfl _).mpr ⟨none, ls * n, by rw [Nat.zero_add]; exact left_row, Or.inl rfl, (Nat.zero_add _).symm⟩⟩
theorem Lst_step {I v c0 : Nat} {Q Q' : Nat → Prop} (h : Lst I Q v) (hQ : ∀ c, Q' c ↔ Q c ∨ c = c0) : Lst I Q' (min v c0) := by
  obtain ⟨h1, h2, h3⟩ := h
  refine ⟨fun hv => ?_, fun u hu => ?_, by omega⟩
  · rw [hQ]
    by_cases e : v ≤ c0
    · rw [Nat.min_eq_left e] at *; exact Or.inl (h1 hv)
    · rw [Nat.min_eq_right (by omega)] at *; exact Or.inr rfl
  · rcases (hQ u).mp hu with z | z
    · have := h2 u z; omega
    · omega
theorem Lst_same {I v : Nat} {Q Q' : Nat → Prop} (h : Lst I Q v) (hQ : ∀ c, Q' c ↔ Q c) : Lst I Q' v := ⟨fun hv => (hQ v).mpr (h.1 hv), fun u hu => h.2.1 u ((hQ u).mp hu), h.2.2⟩
end Rows4
/-- the legs of a drive -/
noncomputable def lgD (N : NET) (A : AS) (d e q k p : Nat) : Option Nat := if wayOf N q p / 1000000000 ≤ 4 * A 5 0 * (A (30 + d) k - A (30 + d) e) then some (wayOf N q p / 1000000000 / 4) else none
theorem lgD_bd {N : NET} {A : AS} (hA : WFA N A) {d : Nat} (hd : d < A 3 0) {e q k p x : Nat} (hk : k < A 4 d) (h : lgD N A d e q k p = some x) : x ≤ 1000000 := by
  obtain ⟨-, ⟨hd6, hdd⟩, ⟨g1, g2, g3, g4⟩, -⟩ := id hA
  obtain ⟨h20, hdx, -⟩ := hdd d hd
  obtain ⟨-, -, x3, -⟩ := hdx k hk
  unfold lgD at h
  by_cases hc : wayOf N q p / 1000000000 ≤ 4 * A 5 0 * (A (30 + d) k - A (30 + d) e)
  · rw [if_pos hc] at h
    cases h
    have h1 : 4 * A 5 0 * (A (30 + d) k - A (30 + d) e) ≤ 400 * 10000 := Nat.mul_le_mul (by omega) (by omega)
    omega
  · rw [if_neg hc] at h; cases h
