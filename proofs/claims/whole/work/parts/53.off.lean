-- pure: how far a point is off a sight (own work)
theorem sq_nI (u v : Nat) : (nI u - nI v) * (nI u - nI v) = nI (dif u v * dif u v) := by
  unfold dif
  by_cases h : u ≤ v
  · rw [if_pos h, ← neg_subI (nI v) (nI u), sub_nI h, ← pk_mul (v - u) (v - u)]
    generalize nI (v - u) = x
    grind
  · rw [if_neg h, sub_nI (by omega), pk_mul]
/-- a quarter point between a and b -/
def qa (a b k : Nat) : Nat := (4 - k) * a + k * b
theorem qa_nI {k : Nat} (hk : k ≤ 4) (a b : Nat) : 4 * nI a + nI k * (nI b - nI a) = nI (qa a b k) := by
  unfold qa
  rw [← nI_add, ← pk_mul, ← pk_mul, ← sub_nI hk, ← zl4]
  generalize nI a = x
  generalize nI b = y
  generalize nI k = z
  grind
theorem qa_le {a b k m : Nat} (hk : k ≤ 4) (ha : a ≤ m) (hb : b ≤ m) : qa a b k ≤ 4 * m := by
  unfold qa
  have h1 : (4 - k) * a ≤ (4 - k) * m := Nat.mul_le_mul_left _ ha
  have h2 : k * b ≤ k * m := Nat.mul_le_mul_left _ hb
  have h3 : (4 - k) * m + k * m = 4 * m := by rw [← Nat.add_mul]; congr 1; omega
  omega
def ofS (N : NET) (A : AS) (x y p : Nat) : Nat := (dif (qa (A 1 (nfr N (p / 5))) (A 1 (nto N (p / 5))) (p % 5)) (4 * x) * dif (qa (A 1 (nfr N (p / 5))) (A 1 (nto N (p / 5))) (p % 5)) (4 * x) + dif (qa (A 2 (nfr N (p / 5))) (A 2 (nto N (p / 5))) (p % 5)) (4 * y) * dif (qa (A 2 (nfr N (p / 5))) (A 2 (nto N (p / 5))) (p % 5)) (4 * y)) / 16
/-- how far point p is off sight s of drive d -/
def ofD (N : NET) (A : AS) (d s p : Nat) : Nat := ofS N A (A (10 + d) s) (A (20 + d) s) p
theorem dif_le {u v m : Nat} (hu : u ≤ m) (hv : v ≤ m) : dif u v ≤ m := by unfold dif; split <;> omega
theorem ofS_le {N : NET} {A : AS} (hA : WFA N A) {x y p : Nat} (hx : x < 100) (hy : y < 100) (hp : p / 5 < nR N) : ofS N A x y p ≤ 19602 := by
  obtain ⟨⟨h1, h2, h3⟩, -⟩ := hA
  obtain ⟨a, b⟩ := h3 _ hp
  obtain ⟨a1, a2⟩ := h2 _ a
  obtain ⟨b1, b2⟩ := h2 _ b
  unfold ofS
  have k4 : p % 5 ≤ 4 := by omega
  have e1 := dif_le (qa_le (m := 99) k4 (by omega : A 1 (nfr N (p / 5)) ≤ 99) (by omega : A 1 (nto N (p / 5)) ≤ 99)) (by omega : 4 * x ≤ 4 * 99)
  have e2 := dif_le (qa_le (m := 99) k4 (by omega : A 2 (nfr N (p / 5)) ≤ 99) (by omega : A 2 (nto N (p / 5)) ≤ 99)) (by omega : 4 * y ≤ 4 * 99)
  have f1 := Nat.mul_le_mul e1 e1
  have f2 := Nat.mul_le_mul e2 e2
  omega
theorem ofI_nI {N : NET} {A : AS} (hA : WFA N A) {x y p : Nat} (hx : x < 100) (hy : y < 100) (hp : p / 5 < nR N) : ((4 * nI (A 1 (nfr N (p / 5))) + nI (p % 5) * (nI (A 1 (nto N (p / 5))) - nI (A 1 (nfr N (p / 5)))) - 4 * nI x) * (4 * nI (A 1 (nfr N (p / 5))) + nI (p % 5) * (nI (A 1 (nto N (p / 5))) - nI (A 1 (nfr N (p / 5)))) - 4 * nI x) + (4 * nI (A 2 (nfr N (p / 5))) + nI (p % 5) * (nI (A 2 (nto N (p / 5))) - nI (A 2 (nfr N (p / 5)))) - 4 * nI y) * (4 * nI (A 2 (nfr N (p / 5))) + nI (p % 5) * (nI (A 2 (nto N (p / 5))) - nI (A 2 (nfr N (p / 5)))) - 4 * nI y)) / 16 = nI (ofS N A x y p) := by
  obtain ⟨⟨h1, h2, h3⟩, -⟩ := hA
  obtain ⟨a, b⟩ := h3 _ hp
  obtain ⟨a1, a2⟩ := h2 _ a
  obtain ⟨b1, b2⟩ := h2 _ b
  have k4 : p % 5 ≤ 4 := by omega
  have e1 := dif_le (qa_le (m := 99) k4 (by omega : A 1 (nfr N (p / 5)) ≤ 99) (by omega : A 1 (nto N (p / 5)) ≤ 99)) (by omega : 4 * x ≤ 4 * 99)
  have e2 := dif_le (qa_le (m := 99) k4 (by omega : A 2 (nfr N (p / 5)) ≤ 99) (by omega : A 2 (nto N (p / 5)) ≤ 99)) (by omega : 4 * y ≤ 4 * 99)
  have f1 := Nat.mul_le_mul e1 e1
  have f2 := Nat.mul_le_mul e2 e2
  rw [qa_nI k4, qa_nI k4, show (4 : Int32) * nI x = nI (4 * x) from pk_mul 4 x, show (4 : Int32) * nI y = nI (4 * y) from pk_mul 4 y, sq_nI, sq_nI, nI_add, show (16 : Int32) = nI 16 from rfl, div_nI (by omega) (by decide) (by decide)]
  rfl
theorem X_offFrom {σ : ST} {N : NET} {A : AS} (hN : NX σ N) (hA : WFA N A) (hR : RX σ A) {x y p : Nat} (hx : x < 100) (hy : y < 100) (hp : p < 5 * nR N) : fX2_offFrom (nI p) (nI x) (nI y) σ = some (nI (ofS N A x y p), σ) := by
  have hRb := hN.1.1
  have hr : p / 5 < nR N := by omega
  obtain ⟨-, -, -, e1, e2, -, -, f1, f2, -⟩ := hN.2.2.1 (p / 5) hr
  obtain ⟨⟨-, -, h3⟩, -⟩ := id hA
  obtain ⟨a, b⟩ := h3 _ hr
  obtain ⟨a1, a2⟩ := hR.1.2 _ a
  obtain ⟨b1, b2⟩ := hR.1.2 _ b
  have d5 : nI p / 5 = nI (p / 5) := div_nI (by omega) (by decide) (by decide)
  have m5 : nI p - nI (p / 5) * 5 = nI (p % 5) := by
    rw [← d5]; exact rem_nI (by omega) (by decide) (by decide)
  have t2 : (2 : Int32) * nI (p / 5) = nI (2 * (p / 5)) := pk_mul 2 _
  have i1 : ib (nI (2 * (p / 5))) 60 = true := ib_nI (by omega) (by decide)
  have i2 : ib (nI (2 * (p / 5) + 1)) 60 = true := ib_nI (by omega) (by decide)
  have c1 : (nI (2 * (p / 5))).toNatClampNeg = 2 * (p / 5) := cl_nI (by omega)
  have c2 : (nI (2 * (p / 5) + 1)).toNatClampNeg = 2 * (p / 5) + 1 := cl_nI (by omega)
  have j1 : ib (nI (nfr N (p / 5))) 16 = true := ib_nI f1 (by decide)
  have j2 : ib (nI (nto N (p / 5))) 16 = true := ib_nI f2 (by decide)
  have c3 : (nI (nfr N (p / 5))).toNatClampNeg = nfr N (p / 5) := cl_nI (by omega)
  have c4 : (nI (nto N (p / 5))).toNatClampNeg = nto N (p / 5) := cl_nI (by omega)
  unfold fX2_offFrom fX2_quartersAlong
  simp only [bindv, cb, Option.bind_some, d5, m5, t2, nI_1, i1, i2, c1, c2, ↓reduceIte, e1, e2, j1, j2, c3, c4, a1, a2, b1, b2]
  rw [ofI_nI hA hx hy hr]
theorem M_offOf {σ : ST} {N : NET} {A : AS} (hN : NM σ N) (hA : WFA N A) (hR : RM σ A) {d s p : Nat} (hd : d < A 3 0) (hs : s < A 4 d) (hp : p < 5 * nR N) : fX5_offOf (nI d) (nI s) (nI p) σ = some (nI (ofD N A d s p), σ) := by
  have hRb := hN.1.1
  have hr : p / 5 < nR N := by omega
  obtain ⟨e1, e2, -, -, -, f1, f2, -⟩ := hN.2.2.1 (p / 5) hr
  obtain ⟨⟨-, -, h3⟩, ⟨hd6, hdd⟩, -⟩ := id hA
  obtain ⟨hs20, hdx, -⟩ := hdd d hd
  obtain ⟨x1, x2, -⟩ := hdx s hs
  obtain ⟨a, b⟩ := h3 _ hr
  obtain ⟨a1, a2⟩ := hR.1.2 _ a
  obtain ⟨b1, b2⟩ := hR.1.2 _ b
  obtain ⟨s1, s2, -⟩ := hR.2.1.2.2 d hd s hs
  have d5 : nI p / 5 = nI (p / 5) := div_nI (by omega) (by decide) (by decide)
  have m5 : nI p - nI (p / 5) * 5 = nI (p % 5) := by
    rw [← d5]; exact rem_nI (by omega) (by decide) (by decide)
  have i1 : ib (nI (p / 5)) 30 = true := ib_nI (by omega) (by decide)
  have c1 : (nI (p / 5)).toNatClampNeg = p / 5 := cl_nI (by omega)
  have j1 : ib (nI (nfr N (p / 5))) 16 = true := ib_nI f1 (by decide)
  have j2 : ib (nI (nto N (p / 5))) 16 = true := ib_nI f2 (by decide)
  have c3 : (nI (nfr N (p / 5))).toNatClampNeg = nfr N (p / 5) := cl_nI (by omega)
  have c4 : (nI (nto N (p / 5))).toNatClampNeg = nto N (p / 5) := cl_nI (by omega)
  have t20 : (20 : Int32) * nI d + nI s = nI (20 * d + s) := by rw [show (20 : Int32) * nI d = nI (20 * d) from pk_mul 20 _, nI_add]
  have i5 : ib (nI (20 * d + s)) 120 = true := ib_nI (by omega) (by decide)
  have c5 : (nI (20 * d + s)).toNatClampNeg = 20 * d + s := cl_nI (by omega)
  unfold fX5_offOf
  simp only [bindv, d5, m5, t20, i1, c1, ↓reduceIte, e1, e2, j1, j2, c3, c4, a1, a2, b1, b2, i5, c5, s1, s2]
  rw [ofI_nI hA x1 x2 hr]
  rfl
