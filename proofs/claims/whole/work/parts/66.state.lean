-- pure: what a change of the state leaves as it was (own work)
section StateP
variable {N : NET} {A A' : AS} {d : Nat}
def WA1 (N : NET) (A : AS) : Prop := A 0 0 ≤ 16 ∧ (∀ i, i < A 0 0 → A 1 i < 100 ∧ A 2 i < 100) ∧ ∀ r, r < nR N → nfr N r < A 0 0 ∧ nto N r < A 0 0
def WA2 (A : AS) : Prop := A 3 0 ≤ 6 ∧ ∀ d, d < A 3 0 → A 4 d ≤ 20 ∧ (∀ i, i < A 4 d → A (10 + d) i < 100 ∧ A (20 + d) i < 100 ∧ A (30 + d) i ≤ 10000 ∧ A (40 + d) i ≤ 60) ∧ ∀ i j, i < j → j < A 4 d → A (30 + d) i < A (30 + d) j
def WA3 (A : AS) : Prop := 1 ≤ A 5 0 ∧ A 5 0 ≤ 100 ∧ 1 ≤ A 5 1 ∧ A 5 1 ≤ 9999
def WA4 (N : NET) (A : AS) : Prop := A 6 0 ≤ 20 ∧ ∀ i, i < A 6 0 → A 7 i < 5 * nR N ∨ A 7 i = 1000
theorem WFA_iff : WFA N A ↔ WA1 N A ∧ WA2 A ∧ WA3 A ∧ WA4 N A := Iff.rfl
def QX1 (σ : ST) (A : AS) : Prop := σ.1 1 0 = nI (A 0 0) ∧ ∀ i, i < A 0 0 → σ.1 7 i = nI (A 1 i) ∧ σ.1 8 i = nI (A 2 i)
def QX2 (σ : ST) (A : AS) : Prop := σ.1 0 4 = nI (A 3 0) ∧ σ.2.2 = A 3 0 ∧ (∀ d, σ.2.1 4 d = if d < A 3 0 then some (26 + 5 * d) else none) ∧ ∀ d, d < A 3 0 → σ.1 (26 + 5 * d) 0 = nI (A 4 d) ∧ ∀ i, i < A 4 d → σ.1 (27 + 5 * d) i = nI (A (10 + d) i) ∧ σ.1 (28 + 5 * d) i = nI (A (20 + d) i) ∧ σ.1 (29 + 5 * d) i = nI (A (30 + d) i) ∧ σ.1 (30 + 5 * d) i = nI (A (40 + d) i)
def QX3 (σ : ST) (A : AS) : Prop := σ.1 3 0 = nI (A 5 0) ∧ σ.1 3 1 = nI (A 5 1)
def QX4 (σ : ST) (A : AS) : Prop := σ.1 0 6 = nI (A 6 0) ∧ ∀ i, i < A 6 0 → σ.1 5 i = lcode (A 7 i)
theorem RX_iff {σ : ST} : RX σ A ↔ QX1 σ A ∧ QX2 σ A ∧ QX3 σ A ∧ QX4 σ A := Iff.rfl
def QM1 (σ : ST) (A : AS) : Prop := σ.1 0 2 = nI (A 0 0) ∧ ∀ i, i < A 0 0 → σ.1 1 i = nI (A 1 i) ∧ σ.1 2 i = nI (A 2 i)
def QM2 (σ : ST) (A : AS) : Prop := σ.1 0 15 = nI (A 3 0) ∧ (∀ d, d < 6 → σ.1 13 d = nI (if d < A 3 0 then A 4 d else 0)) ∧ ∀ d, d < A 3 0 → ∀ i, i < A 4 d → σ.1 9 (20 * d + i) = nI (A (10 + d) i) ∧ σ.1 10 (20 * d + i) = nI (A (20 + d) i) ∧ σ.1 11 (20 * d + i) = nI (A (30 + d) i) ∧ σ.1 12 (20 * d + i) = nI (A (40 + d) i)
def QM3 (σ : ST) (A : AS) : Prop := σ.1 0 16 = nI (A 5 0) ∧ σ.1 0 17 = nI (A 5 1)
def QM4 (σ : ST) (A : AS) : Prop := σ.1 0 19 = nI (A 6 0) ∧ ∀ i, i < A 6 0 → σ.1 14 i = lcode (A 7 i)
theorem RM_iff {σ : ST} : RM σ A ↔ QM1 σ A ∧ QM2 σ A ∧ QM3 σ A ∧ QM4 σ A := Iff.rfl
theorem WA1.of (h : WA1 N A) (ha : ∀ a, a ≤ 2 → A' a = A a) : WA1 N A' := by
  unfold WA1; rw [ha 0 (by omega), ha 1 (by omega), ha 2 (by omega)]; exact h
theorem WA2.of (h : WA2 A) (ha : ∀ a, (a = 3 ∨ a = 4 ∨ 10 ≤ a) → A' a = A a) : WA2 A' := by
  have h10 : ∀ d, A' (10 + d) = A (10 + d) := fun d => ha _ (by omega)
  have h20 : ∀ d, A' (20 + d) = A (20 + d) := fun d => ha _ (by omega)
  have h30 : ∀ d, A' (30 + d) = A (30 + d) := fun d => ha _ (by omega)
  have h40 : ∀ d, A' (40 + d) = A (40 + d) := fun d => ha _ (by omega)
  unfold WA2; simp only [ha 3 (by omega), ha 4 (by omega), h10, h20, h30, h40]; exact h
theorem WA3.of (h : WA3 A) (ha : A' 5 = A 5) : WA3 A' := by unfold WA3; rw [ha]; exact h
theorem WA4.of (h : WA4 N A) (ha : ∀ a, (a = 6 ∨ a = 7) → A' a = A a) : WA4 N A' := by
  unfold WA4; rw [ha 6 (by omega), ha 7 (by omega)]; exact h
theorem QX1.of {σ σ' : ST} (h : QX1 σ A) (hs : ∀ a b, ((a = 1 ∧ b = 0) ∨ a = 7 ∨ a = 8) → σ'.1 a b = σ.1 a b) (ha : ∀ a, a ≤ 2 → A' a = A a) : QX1 σ' A' := by
  unfold QX1; rw [ha 0 (by omega), ha 1 (by omega), ha 2 (by omega), hs 1 0 (by omega)]
  exact ⟨h.1, fun i hi => by rw [hs 7 i (by omega), hs 8 i (by omega)]; exact h.2 i hi⟩
theorem QX2.of {σ σ' : ST} (h : QX2 σ A) (hs : ∀ a b, ((a = 0 ∧ b = 4) ∨ 26 ≤ a) → σ'.1 a b = σ.1 a b) (hr : ∀ j, σ'.2.1 4 j = σ.2.1 4 j) (hn : σ'.2.2 = σ.2.2) (ha : ∀ a, (a = 3 ∨ a = 4 ∨ 10 ≤ a) → A' a = A a) : QX2 σ' A' := by
  have h10 : ∀ d, A' (10 + d) = A (10 + d) := fun d => ha _ (by omega)
  have h20 : ∀ d, A' (20 + d) = A (20 + d) := fun d => ha _ (by omega)
  have h30 : ∀ d, A' (30 + d) = A (30 + d) := fun d => ha _ (by omega)
  have h40 : ∀ d, A' (40 + d) = A (40 + d) := fun d => ha _ (by omega)
  obtain ⟨b1, b2, b3, b4⟩ := h
  unfold QX2; simp only [ha 3 (by omega), ha 4 (by omega), h10, h20, h30, h40]
  refine ⟨by rw [hs 0 4 (by omega)]; exact b1, by rw [hn]; exact b2, fun d => by rw [hr]; exact b3 d, fun d hd => ⟨by rw [hs _ 0 (by omega)]; exact (b4 d hd).1, fun i hi => ?_⟩⟩
  rw [hs _ i (by omega), hs _ i (by omega), hs _ i (by omega), hs _ i (by omega)]; exact (b4 d hd).2 i hi
theorem QX3.of {σ σ' : ST} (h : QX3 σ A) (hs : ∀ b, b ≤ 1 → σ'.1 3 b = σ.1 3 b) (ha : A' 5 = A 5) : QX3 σ' A' := by
  unfold QX3; rw [ha, hs 0 (by omega), hs 1 (by omega)]; exact h
theorem QX4.of {σ σ' : ST} (h : QX4 σ A) (hs : ∀ a b, ((a = 0 ∧ b = 6) ∨ a = 5) → σ'.1 a b = σ.1 a b) (ha : ∀ a, (a = 6 ∨ a = 7) → A' a = A a) : QX4 σ' A' := by
  unfold QX4; rw [ha 6 (by omega), ha 7 (by omega), hs 0 6 (by omega)]
  exact ⟨h.1, fun i hi => by rw [hs 5 i (by omega)]; exact h.2 i hi⟩
theorem QM1.of {σ σ' : ST} (h : QM1 σ A) (hs : ∀ a b, ((a = 0 ∧ b = 2) ∨ a = 1 ∨ a = 2) → σ'.1 a b = σ.1 a b) (ha : ∀ a, a ≤ 2 → A' a = A a) : QM1 σ' A' := by
  unfold QM1; rw [ha 0 (by omega), ha 1 (by omega), ha 2 (by omega), hs 0 2 (by omega)]
  exact ⟨h.1, fun i hi => by rw [hs 1 i (by omega), hs 2 i (by omega)]; exact h.2 i hi⟩
theorem QM2.of {σ σ' : ST} (h : QM2 σ A) (hs : ∀ a b, ((a = 0 ∧ b = 15) ∨ (9 ≤ a ∧ a ≤ 13)) → σ'.1 a b = σ.1 a b) (ha : ∀ a, (a = 3 ∨ a = 4 ∨ 10 ≤ a) → A' a = A a) : QM2 σ' A' := by
  have h10 : ∀ d, A' (10 + d) = A (10 + d) := fun d => ha _ (by omega)
  have h20 : ∀ d, A' (20 + d) = A (20 + d) := fun d => ha _ (by omega)
  have h30 : ∀ d, A' (30 + d) = A (30 + d) := fun d => ha _ (by omega)
  have h40 : ∀ d, A' (40 + d) = A (40 + d) := fun d => ha _ (by omega)
  obtain ⟨b1, b2, b3⟩ := h
  unfold QM2; simp only [ha 3 (by omega), ha 4 (by omega), h10, h20, h30, h40]
  refine ⟨by rw [hs 0 15 (by omega)]; exact b1, fun d hd => by rw [hs 13 d (by omega)]; exact b2 d hd, fun d hd i hi => ?_⟩
  rw [hs 9 _ (by omega), hs 10 _ (by omega), hs 11 _ (by omega), hs 12 _ (by omega)]; exact b3 d hd i hi
theorem QM3.of {σ σ' : ST} (h : QM3 σ A) (hs : ∀ b, (b = 16 ∨ b = 17) → σ'.1 0 b = σ.1 0 b) (ha : A' 5 = A 5) : QM3 σ' A' := by
  unfold QM3; rw [ha, hs 16 (by omega), hs 17 (by omega)]; exact h
theorem QM4.of {σ σ' : ST} (h : QM4 σ A) (hs : ∀ a b, ((a = 0 ∧ b = 19) ∨ a = 14) → σ'.1 a b = σ.1 a b) (ha : ∀ a, (a = 6 ∨ a = 7) → A' a = A a) : QM4 σ' A' := by
  unfold QM4; rw [ha 6 (by omega), ha 7 (by omega), hs 0 19 (by omega)]
  exact ⟨h.1, fun i hi => by rw [hs 14 i (by omega)]; exact h.2 i hi⟩
/-- the drive d and the knots of roads are as they were -/
def Same (N : NET) (A A' : AS) (d : Nat) : Prop := (∀ r, r < nR N → A' 1 (nfr N r) = A 1 (nfr N r) ∧ A' 1 (nto N r) = A 1 (nto N r) ∧ A' 2 (nfr N r) = A 2 (nfr N r) ∧ A' 2 (nto N r) = A 2 (nto N r)) ∧ A' 4 d = A 4 d ∧ (∀ a, 10 ≤ a → A' a = A a) ∧ A' 5 = A 5
theorem Same.of (h : Same N A A' d) {s p : Nat} (hp : p / 5 < nR N) : ofD N A' d s p = ofD N A d s p := by
  obtain ⟨h1, h2, h3, h4⟩ := h
  obtain ⟨a1, a2, a3, a4⟩ := h1 _ hp
  unfold ofD ofS
  rw [a1, a2, a3, a4, h3 (10 + d) (by omega), h3 (20 + d) (by omega)]
theorem spB_congr {t : Nat → Bool} {o o' : Nat → Nat} {b n p : Nat} (h : ∀ x, x < n → o' x = o x) (hp : p < n) : spB t o' b n p = spB t o b n p := by
  unfold spB
  rw [h p hp, fl_congr (f := fun q => t q && nearB o' q p) (g := fun q => t q && nearB o q p) (fun x hx => by unfold nearB; rw [h x hx, h p hp])]
theorem Same.sp (h : Same N A A' d) : spL N A' d = spL N A d := by
  funext s
  unfold spL
  rw [h.2.2.1 (40 + d) (by omega)]
  exact fl_congr (fun x hx => spB_congr (fun y hy => h.of (by omega)) hx)
theorem Same.lg (h : Same N A A' d) : lgD N A' d = lgD N A d := by
  funext e q k p
  unfold lgD
  rw [h.2.2.2, h.2.2.1 (30 + d) (by omega)]
theorem ev_of {S : Nat → List Nat} {of of' : Nat → Nat → Nat} {lg : Nat → Nat → Nat → Nat → Option Nat} {ls : Nat} (h : ∀ k p, p ∈ S k → of' k p = of k p) (ρ : Nat → Nat) : ∀ k, ev S of' lg ls ρ k = ev S of lg ls ρ k := by
  intro k
  induction k with
  | zero => rfl
  | succ k ih =>
    show (ev S of' lg ls ρ k).bind _ = (ev S of lg ls ρ k).bind _
    rw [ih]
    cases ev S of lg ls ρ k with
    | none => rfl
    | some q =>
      simp only [Option.bind_some]
      by_cases h1 : ρ k = 1000
      · rw [if_pos h1, if_pos h1]
      · rw [if_neg h1, if_neg h1]
        by_cases h2 : ρ k ∈ S k
        · rw [if_pos h2, if_pos h2, h k _ h2]
        · rw [if_neg h2, if_neg h2]
theorem Same.best (h : Same N A A' d) {k v c : Nat} {ρ : Nat → Nat} (hb : Best (spL N A d) (ofD N A d) (lgD N A d) (A 5 1) k v c ρ) : Best (spL N A' d) (ofD N A' d) (lgD N A' d) (A' 5 1) k v c ρ := by
  have hev : ∀ ρ k, ev (spL N A d) (ofD N A' d) (lgD N A d) (A 5 1) ρ k = ev (spL N A d) (ofD N A d) (lgD N A d) (A 5 1) ρ k := fun ρ => ev_of (fun k p hp => h.of (by have := spL_lt hp; omega)) ρ
  unfold Best
  rw [h.sp, h.lg, h.2.2.2]
  simp only [hev]
  exact hb
theorem Same.endR (h : Same N A A' d) {en : Option (Nat × Nat)} {c : Nat} {ρ : Nat → Nat} (hb : EndR (spL N A d) (ofD N A d) (lgD N A d) (A 5 1) (A 4 d) en c ρ) : EndR (spL N A' d) (ofD N A' d) (lgD N A' d) (A' 5 1) (A' 4 d) en c ρ := by
  have hev : ∀ ρ k, ev (spL N A d) (ofD N A' d) (lgD N A d) (A 5 1) ρ k = ev (spL N A d) (ofD N A d) (lgD N A d) (A 5 1) ρ k := fun ρ => ev_of (fun k p hp => h.of (by have := spL_lt hp; omega)) ρ
  unfold EndR
  rw [h.sp, h.lg, h.2.2.2, h.2.1]
  simp only [hev]
  exact hb
/-- what the laying keeps of drive d -/
def LC (σ : ST) (N : NET) (A : AS) (d : Nat) : Prop := σ.1 3 15 = nI (A 4 d) ∧ SpX σ N A d (A 4 d) ∧ (σ.1 3 13 = 0 ∨ (σ.1 3 13 = 1 ∧ Stl σ N A d))
theorem Same.dpa (h : Same N A A' d) {σ : ST} {m : Nat} (hD : DPA σ N A d m) : DPA σ N A' d m := by
  intro k i v hk hv
  rw [h.sp] at hv
  obtain ⟨s1, s2, s3⟩ := hD k i v hk hv
  obtain ⟨b1, b2, b3⟩ := bD_eq (h.best s2)
  refine ⟨by rw [b2]; exact s1, b1, ?_⟩
  rcases s3 with ⟨p1, p2⟩ | ⟨e, i', q, p1, p2, p3, p4, p5⟩
  · exact Or.inl ⟨p1, fun j hj => by rw [b3 j (by omega)]; exact p2 j hj⟩
  · refine Or.inr ⟨e, i', q, p1, by rw [h.sp]; exact p2, p3, fun j hj => ?_, fun j h1 h2 => by rw [b3 j (by omega)]; exact p5 j h1 h2⟩
    obtain ⟨-, c2, c3⟩ := bD_eq (h.best (hD e i' q (by omega) p2).2.1)
    rw [b3 j (by omega), p4 j hj, c3 j hj]
theorem Same.lc (h : Same N A A' d) {σ : ST} (hL : LC σ N A d) : LC σ N A' d := by
  obtain ⟨h1, h2, h3⟩ := hL
  refine ⟨by rw [h.2.1]; exact h1, fun s hs => ?_, ?_⟩
  · rw [h.2.1] at hs
    rw [h.sp]
    refine ⟨(h2 s hs).1, fun i v hi => ⟨((h2 s hs).2 i v hi).1, ?_⟩⟩
    have := spL_lt (List.mem_of_getElem? hi)
    rw [h.of (by omega)]
    exact ((h2 s hs).2 i v hi).2
  · rcases h3 with z | ⟨z, hD, c, ρ, e1, e2, e3, e4⟩
    · exact Or.inl z
    · refine Or.inr ⟨z, by rw [h.2.1]; exact h.dpa hD, c, ρ, h.endR e1, e2, e3, by rw [h.2.1]; exact e4⟩
theorem LC.fr {P : Nat → Nat → Prop} {σ σ' : ST} (h : LC σ N A d) (hF : ∀ a b, ¬ P a b → σ'.1 a b = σ.1 a b) (hP : ∀ a b, P a b → ¬ (18 ≤ a ∧ a ≤ 23) ∧ ¬ (a = 3 ∧ 13 ≤ b)) : LC σ' N A d := by
  obtain ⟨h1, h2, h3⟩ := h
  have hF' : Fr P σ (σ'.1, σ.2) := ⟨hF, rfl⟩
  have e2 : SpX (σ'.1, σ.2) N A d (A 4 d) := h2.fr hF' (fun a b z => by have := hP a b z; omega)
  refine ⟨(hF 3 15 (fun z => by have := hP _ _ z; omega)).trans h1, e2, ?_⟩
  rcases h3 with z | ⟨z, z'⟩
  · exact Or.inl ((hF 3 13 (fun z => by have := hP _ _ z; omega)).trans z)
  · have e3 : Stl (σ'.1, σ.2) N A d := z'.fr hF' (fun a b z => by have := hP a b z; omega)
    exact Or.inr ⟨(hF 3 13 (fun z => by have := hP _ _ z; omega)).trans z, e3⟩
/-- bits of turns that nobody has set -/
def BX (σ : ST) (N : NET) : Prop := ∀ r s, r < 30 → s < 30 → ¬ (r < nR N ∧ s < nR N) → bx (σ.1 12 r) s = 0
theorem GD_iff {σ : ST} : GD σ N A d ↔ NX σ N ∧ KX σ N ∧ RX σ A ∧ BX σ N ∧ d < A 3 0 ∧ σ.2.1 3 12 = some (26 + 5 * d) ∧ LC σ N A d := Iff.rfl
/-- the class's store after a change that leaves nets, ways, spots and rows as they were -/
theorem GX.up {σ σ' : ST} (h : GX σ N A) (hA' : WFA N A') {P : Nat → Nat → Prop} (hF : ∀ a b, ¬ P a b → σ'.1 a b = σ.1 a b) (hP : ∀ a b, P a b → (a = 0 ∨ (a = 1 ∧ b = 0) ∨ (4 ≤ a ∧ a ≤ 8)) ∨ 26 ≤ a) (hr : σ'.2.1 3 12 = σ.2.1 3 12) (hR : RX σ' A') (h3 : A 3 0 ≤ A' 3 0) (hS : ∀ d, d < A 3 0 → Same N A A' d) : GX σ' N A' := by
  obtain ⟨h1, h2, -, h4, h5⟩ := h
  have hN : NX σ' N := by
    obtain ⟨a1, a2, a3, a4⟩ := h1
    have e : ∀ a b, (a = 1 → b ≠ 0) → (a = 1 ∨ (9 ≤ a ∧ a ≤ 14)) → σ'.1 a b = σ.1 a b := fun a b q1 q2 => hF a b (fun z => by have := hP a b z; omega)
    refine ⟨a1, by rw [e 1 3 (by omega) (by omega)]; exact a2, fun r hr => ?_, fun r s y1 y2 => by rw [e 12 r (by omega) (by omega)]; exact a4 r s y1 y2⟩
    rw [e 9 r (by omega) (by omega), e 10 r (by omega) (by omega), e 11 r (by omega) (by omega), e 14 _ (by omega) (by omega), e 14 _ (by omega) (by omega), e 13 _ (by omega) (by omega), e 13 _ (by omega) (by omega)]
    exact a3 r hr
  have hF' : Fr P σ (σ'.1, σ.2) := ⟨hF, rfl⟩
  have hK : KX (σ'.1, σ.2) N := h2.fr hF' (fun a b z => by have := hP a b z; omega)
  have hB : BX σ' N := fun r s y1 y2 y3 => by rw [hF 12 r (fun z => by have := hP _ _ z; omega)]; exact h4 r s y1 y2 y3
  refine ⟨hN, hK, hR, hB, ?_⟩
  rcases h5 with z | ⟨d, z⟩
  · exact Or.inl (by rw [hr]; exact z)
  · obtain ⟨-, -, -, -, g5, g6, g7⟩ := GD_iff.mp z
    exact Or.inr ⟨d, GD_iff.mpr ⟨hN, hK, hR, hB, by omega, by rw [hr]; exact g6, ((hS d g5).lc g7).fr hF (fun a b z => by have := hP a b z; omega)⟩⟩
theorem GM.up {σ σ' : ST} (h : GM σ N A) {P : Nat → Nat → Prop} (hF : Fr P σ σ') (hP : ∀ a b, P a b → (a = 0 ∧ b ≠ 8 ∧ b ≠ 20) ∨ a = 1 ∨ a = 2 ∨ (9 ≤ a ∧ a ≤ 14)) (hR : RM σ' A') : GM σ' N A' := by
  obtain ⟨h1, h2, -, h4⟩ := h
  have hN : NM σ' N := by
    obtain ⟨a1, a2, a3, a4⟩ := h1
    have e : ∀ a b, ((a = 0 ∧ b = 8) ∨ (3 ≤ a ∧ a ≤ 8)) → σ'.1 a b = σ.1 a b := fun a b q1 => hF.1 a b (fun z => by have := hP a b z; omega)
    refine ⟨a1, by rw [e 0 8 (by omega)]; exact a2, fun r hr => ?_, fun r s y1 y2 => by rw [e 8 _ (by omega)]; exact a4 r s y1 y2⟩
    rw [e 3 r (by omega), e 4 r (by omega), e 5 r (by omega), e 6 r (by omega), e 7 r (by omega)]
    exact a3 r hr
  refine ⟨hN, ?_, hR, fun r s y1 y2 y3 => by rw [hF.1 8 _ (fun z => by have := hP _ _ z; omega)]; exact h4 r s y1 y2 y3⟩
  rcases h2 with z | ⟨z, z'⟩
  · exact Or.inl ((hF.1 0 20 (fun z => by have := hP _ _ z; omega)).trans z)
  · exact Or.inr ⟨(hF.1 0 20 (fun z => by have := hP _ _ z; omega)).trans z, z'.fr hF (fun a b z => by have := hP _ _ z; omega)⟩
def aup (A : AS) (k i v : Nat) : AS := fun a b => if a = k ∧ b = i then v else A a b
theorem au_at (A : AS) (k i v : Nat) : aup A k i v k i = v := if_pos ⟨rfl, rfl⟩
theorem au_row (A : AS) {k i v a : Nat} (h : a ≠ k) : aup A k i v a = A a := funext fun b => if_neg (fun e => h e.1)
theorem au_idx (A : AS) {k i v b : Nat} (h : b ≠ i) : aup A k i v k b = A k b := if_neg (fun e => h e.2)
theorem bif0 {P : Prop} [Decidable P] {α : Type} (x y : α) : (if (if P then (1 : Int32) else 0) = 0 then x else y) = if P then y else x := by
  by_cases h : P
  · rw [if_pos h, if_pos h, if_neg (by decide)]
  · rw [if_neg h, if_neg h, if_pos rfl]
end StateP
