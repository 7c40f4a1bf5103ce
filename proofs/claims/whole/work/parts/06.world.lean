-- printed by gen_world.py: the cells of the two sides, and the words of fields and calls
def stI (σ : ST) (k i : Nat) (x : Int32) : ST := (fun a b => if a = k ∧ b = i then x else σ.1 a b, σ.2)
def stR (σ : ST) (k i : Nat) (x : Option Nat) : ST := (σ.1, fun a b => if a = k ∧ b = i then x else σ.2.1 a b, σ.2.2)
abbrev ENT : Type := ClassId → ClassId → ClassId → (Nat → Nat) → ST → Nat → va_E
def wlOf (N : ST → Nat) (ent : ENT) : WL := fun cI cZ cD ad σ => (List.range (N σ)).map (fun k => (ad k, ent cI cZ cD ad σ k))
theorem wlOf_at {N : ST → Nat} {ent : ENT} {cI cZ cD : ClassId} {ad : Nat → Nat} {σ : ST} {k : Nat} (h : k < N σ) : (wlOf N ent cI cZ cD ad σ)[k]? = some (ad k, ent cI cZ cD ad σ k) := by
  unfold wlOf
  rw [List.getElem?_map, List.getElem?_range h]
  rfl
theorem wlOf_set {N : ST → Nat} {ent : ENT} {cI cZ cD : ClassId} {ad : Nat → Nat} {σ σ2 : ST} {k : Nat} {e : va_E} (h : k < N σ) (hN : N σ2 = N σ) (he : ent cI cZ cD ad σ2 k = e) (ho : ∀ a, a ≠ k → ent cI cZ cD ad σ2 a = ent cI cZ cD ad σ a) : (wlOf N ent cI cZ cD ad σ).set k (ad k, e) = wlOf N ent cI cZ cD ad σ2 := by
  apply List.ext_getElem?
  intro a
  by_cases ha : a < N σ
  · rw [wlOf_at (σ := σ2) (by rw [hN]; exact ha)]
    by_cases hk : a = k
    · subst hk
      rw [List.getElem?_set_self (by unfold wlOf; simpa using ha), he]
    · rw [List.getElem?_set_ne (fun e => hk e.symm), wlOf_at ha, ho a hk]
  · have h1 : ((wlOf N ent cI cZ cD ad σ).set k (ad k, e)).length ≤ a := by unfold wlOf; simpa using Nat.not_lt.mp ha
    have h2 : (wlOf N ent cI cZ cD ad σ2).length ≤ a := by unfold wlOf; simp [hN]; exact Nat.not_lt.mp ha
    rw [List.getElem?_eq_none h1, List.getElem?_eq_none h2]
def Loc1 (ent : ENT) : Prop := ∀ (cI cZ cD : ClassId) (ad : Nat → Nat) (σ τ : ST) (a : Nat), (∀ b, σ.1 a b = τ.1 a b) → (∀ b, σ.2.1 a b = τ.2.1 a b) → ent cI cZ cD ad σ a = ent cI cZ cD ad τ a
theorem stI_ne {σ : ST} {k i : Nat} {x : Int32} {a b : Nat} (h : a ≠ k) : (stI σ k i x).1 a b = σ.1 a b := if_neg (fun e => h e.1)
theorem stR_ne {σ : ST} {k i : Nat} {x : Option Nat} {a b : Nat} (h : a ≠ k) : (stR σ k i x).2.1 a b = σ.2.1 a b := if_neg (fun e => h e.1)
theorem stI_up {σ : ST} {k i : Nat} {x : Int32} : upd (σ.1 k) i x = (stI σ k i x).1 k := by
  funext j
  by_cases h : j = i <;> simp [upd, stI, h]
def isDr (σ : ST) (k : Nat) : Bool := decide (26 ≤ k ∧ (k - 26) % 5 = 0 ∧ k < 26 + 5 * σ.2.2)
def isRw (σ : ST) (k : Nat) : Bool := decide ((k = 5 ∨ k = 18 ∨ k = 20 ∨ k = 24 ∨ k = 25) ∨ (26 ≤ k ∧ (k - 26) % 5 ≠ 0 ∧ k < 26 + 5 * σ.2.2))
def entM : ENT := fun cI cZ cD ad σ k => match k with
  | 0 => .inr (5, ([.inr (some 1), .inr (some 2), .inl (σ.1 0 2), .inr (some 3), .inr (some 4), .inr (some 5), .inr (some 6), .inr (some 7), .inl (σ.1 0 8), .inr (some 8), .inr (some 9), .inr (some 10), .inr (some 11), .inr (some 12), .inr (some 13), .inl (σ.1 0 15), .inl (σ.1 0 16), .inl (σ.1 0 17), .inr (some 14), .inl (σ.1 0 19), .inl (σ.1 0 20), .inr (some 15), .inr (some 16), .inr (some 17), .inr (some 18), .inr (some 19), .inr (some 20), .inr (some 21), .inr (some 22), .inr (some 23), .inl (σ.1 0 30), .inl (σ.1 0 31)] : List AV).map (av_v ad))
  | 1 => .inl (cI, 16, .inl (σ.1 1))
  | 2 => .inl (cI, 16, .inl (σ.1 2))
  | 3 => .inl (cI, 30, .inl (σ.1 3))
  | 4 => .inl (cI, 30, .inl (σ.1 4))
  | 5 => .inl (cI, 30, .inl (σ.1 5))
  | 6 => .inl (cI, 30, .inl (σ.1 6))
  | 7 => .inl (cI, 30, .inl (σ.1 7))
  | 8 => .inl (cZ, 900, .inl (σ.1 8))
  | 9 => .inl (cI, 120, .inl (σ.1 9))
  | 10 => .inl (cI, 120, .inl (σ.1 10))
  | 11 => .inl (cI, 120, .inl (σ.1 11))
  | 12 => .inl (cI, 120, .inl (σ.1 12))
  | 13 => .inl (cI, 6, .inl (σ.1 13))
  | 14 => .inl (cI, 20, .inl (σ.1 14))
  | 15 => .inl (cI, 22500, .inl (σ.1 15))
  | 16 => .inl (cI, 22500, .inl (σ.1 16))
  | 17 => .inl (cI, 60, .inl (σ.1 17))
  | 18 => .inl (cI, 60, .inl (σ.1 18))
  | 19 => .inl (cI, 200, .inl (σ.1 19))
  | 20 => .inl (cI, 20, .inl (σ.1 20))
  | 21 => .inl (cI, 200, .inl (σ.1 21))
  | 22 => .inl (cI, 20, .inl (σ.1 22))
  | 23 => .inl (cI, 20, .inl (σ.1 23))
  | _ => .inl (cI, 0, .inl (fun _ => 0))
def entX : ENT := fun cI cZ cD ad σ k => match k with
  | 0 => .inr (4, ([.inr (some 1), .inr (some 2), .inr (some 3), .inr (some 4), .inl (σ.1 0 4), .inr (some 5), .inl (σ.1 0 6), .inr (some 6)] : List AV).map (av_v ad))
  | 1 => .inr (2, ([.inl (σ.1 1 0), .inr (some 7), .inr (some 8), .inl (σ.1 1 3), .inr (some 9), .inr (some 10), .inr (some 11), .inr (some 12), .inr (some 13), .inr (some 14)] : List AV).map (av_v ad))
  | 2 => .inr (3, ([.inr (some 1), .inr (some 15), .inr (some 16), .inr (some 17)] : List AV).map (av_v ad))
  | 3 => .inr (1, ([.inl (σ.1 3 0), .inl (σ.1 3 1), .inr (some 18), .inr (some 19), .inr (some 20), .inr (some 1), .inr (some 2), .inr (some 21), .inr (some 22), .inr (some 23), .inr (some 24), .inr (some 25), .inr (σ.2.1 3 12), .inl (σ.1 3 13), .inl (σ.1 3 14), .inl (σ.1 3 15)] : List AV).map (av_v ad))
  | 4 => .inl (cD, 6, .inr (.inr (.inr (.inr (fun j => (σ.2.1 4 j).map ad)))))
  | 5 => .inl (cI, 20, .inl (σ.1 5))
  | 6 => .inl (cI, 6, .inl (σ.1 6))
  | 7 => .inl (cI, 16, .inl (σ.1 7))
  | 8 => .inl (cI, 16, .inl (σ.1 8))
  | 9 => .inl (cI, 30, .inl (σ.1 9))
  | 10 => .inl (cI, 30, .inl (σ.1 10))
  | 11 => .inl (cI, 30, .inl (σ.1 11))
  | 12 => .inl (cI, 30, .inl (σ.1 12))
  | 13 => .inl (cI, 60, .inl (σ.1 13))
  | 14 => .inl (cI, 60, .inl (σ.1 14))
  | 15 => .inl (cI, 3600, .inl (σ.1 15))
  | 16 => .inl (cZ, 60, .inl (σ.1 16))
  | 17 => .inl (cZ, 60, .inl (σ.1 17))
  | 18 => .inl (cI, 20, .inl (σ.1 18))
  | 19 => .inl (cI, 200, .inl (σ.1 19))
  | 20 => .inl (cI, 20, .inl (σ.1 20))
  | 21 => .inl (cI, 200, .inl (σ.1 21))
  | 22 => .inl (cI, 200, .inl (σ.1 22))
  | 23 => .inl (cI, 200, .inl (σ.1 23))
  | 24 => .inl (cI, 20, .inl (σ.1 24))
  | 25 => .inl (cI, 20, .inl (σ.1 25))
  | n + 26 => if n % 5 = 0 then .inr (0, ([.inl (σ.1 (n + 26) 0), .inr (some (n + 27)), .inr (some (n + 28)), .inr (some (n + 29)), .inr (some (n + 30))] : List AV).map (av_v ad)) else .inl (cI, 20, .inl (σ.1 (n + 26)))
def nM : ST → Nat := fun _ => 24
def nX : ST → Nat := fun σ => 26 + 5 * σ.2.2
def wlM : WL := wlOf nM entM
def wlX : WL := wlOf nX entX
theorem locM : Loc1 entM := by
  intro cI cZ cD ad σ τ a h1 h2
  match a, h1, h2 with
  | 0, h1, h2 => simp only [entM, h1, h2]
  | 1, h1, h2 => simp only [entM, show σ.1 1 = τ.1 1 from funext h1]
  | 2, h1, h2 => simp only [entM, show σ.1 2 = τ.1 2 from funext h1]
  | 3, h1, h2 => simp only [entM, show σ.1 3 = τ.1 3 from funext h1]
  | 4, h1, h2 => simp only [entM, show σ.1 4 = τ.1 4 from funext h1]
  | 5, h1, h2 => simp only [entM, show σ.1 5 = τ.1 5 from funext h1]
  | 6, h1, h2 => simp only [entM, show σ.1 6 = τ.1 6 from funext h1]
  | 7, h1, h2 => simp only [entM, show σ.1 7 = τ.1 7 from funext h1]
  | 8, h1, h2 => simp only [entM, show σ.1 8 = τ.1 8 from funext h1]
  | 9, h1, h2 => simp only [entM, show σ.1 9 = τ.1 9 from funext h1]
  | 10, h1, h2 => simp only [entM, show σ.1 10 = τ.1 10 from funext h1]
  | 11, h1, h2 => simp only [entM, show σ.1 11 = τ.1 11 from funext h1]
  | 12, h1, h2 => simp only [entM, show σ.1 12 = τ.1 12 from funext h1]
  | 13, h1, h2 => simp only [entM, show σ.1 13 = τ.1 13 from funext h1]
  | 14, h1, h2 => simp only [entM, show σ.1 14 = τ.1 14 from funext h1]
  | 15, h1, h2 => simp only [entM, show σ.1 15 = τ.1 15 from funext h1]
  | 16, h1, h2 => simp only [entM, show σ.1 16 = τ.1 16 from funext h1]
  | 17, h1, h2 => simp only [entM, show σ.1 17 = τ.1 17 from funext h1]
  | 18, h1, h2 => simp only [entM, show σ.1 18 = τ.1 18 from funext h1]
  | 19, h1, h2 => simp only [entM, show σ.1 19 = τ.1 19 from funext h1]
  | 20, h1, h2 => simp only [entM, show σ.1 20 = τ.1 20 from funext h1]
  | 21, h1, h2 => simp only [entM, show σ.1 21 = τ.1 21 from funext h1]
  | 22, h1, h2 => simp only [entM, show σ.1 22 = τ.1 22 from funext h1]
  | 23, h1, h2 => simp only [entM, show σ.1 23 = τ.1 23 from funext h1]
  | n + 24, h1, h2 => rfl
abbrev obM0 (σ : ST) : List AV := [.inr (some 1), .inr (some 2), .inl (σ.1 0 2), .inr (some 3), .inr (some 4), .inr (some 5), .inr (some 6), .inr (some 7), .inl (σ.1 0 8), .inr (some 8), .inr (some 9), .inr (some 10), .inr (some 11), .inr (some 12), .inr (some 13), .inl (σ.1 0 15), .inl (σ.1 0 16), .inl (σ.1 0 17), .inr (some 14), .inl (σ.1 0 19), .inl (σ.1 0 20), .inr (some 15), .inr (some 16), .inr (some 17), .inr (some 18), .inr (some 19), .inr (some 20), .inr (some 21), .inr (some 22), .inr (some 23), .inl (σ.1 0 30), .inl (σ.1 0 31)]
theorem atM0 (σ : ST) : ObjAt wlM σ 0 5 (obM0 σ) := fun cI cZ cD ad => wlOf_at (show 0 < 24 by decide)
theorem stM0_2 (σ : ST) (x : Int32) : ∀ cI cZ cD ad, (wlM cI cZ cD ad σ).set 0 (ad 0, .inr (5, ((obM0 σ).set 2 (.inl x)).map (av_v ad))) = wlM cI cZ cD ad (stI σ 0 2 x) := fun cI cZ cD ad => wlOf_set (σ2 := stI σ 0 2 x) (show 0 < 24 by decide) rfl rfl (fun a ha => locM _ _ _ _ _ _ _ (fun b => stI_ne ha) (fun b => rfl))
theorem stM0_8 (σ : ST) (x : Int32) : ∀ cI cZ cD ad, (wlM cI cZ cD ad σ).set 0 (ad 0, .inr (5, ((obM0 σ).set 8 (.inl x)).map (av_v ad))) = wlM cI cZ cD ad (stI σ 0 8 x) := fun cI cZ cD ad => wlOf_set (σ2 := stI σ 0 8 x) (show 0 < 24 by decide) rfl rfl (fun a ha => locM _ _ _ _ _ _ _ (fun b => stI_ne ha) (fun b => rfl))
theorem stM0_15 (σ : ST) (x : Int32) : ∀ cI cZ cD ad, (wlM cI cZ cD ad σ).set 0 (ad 0, .inr (5, ((obM0 σ).set 15 (.inl x)).map (av_v ad))) = wlM cI cZ cD ad (stI σ 0 15 x) := fun cI cZ cD ad => wlOf_set (σ2 := stI σ 0 15 x) (show 0 < 24 by decide) rfl rfl (fun a ha => locM _ _ _ _ _ _ _ (fun b => stI_ne ha) (fun b => rfl))
theorem stM0_16 (σ : ST) (x : Int32) : ∀ cI cZ cD ad, (wlM cI cZ cD ad σ).set 0 (ad 0, .inr (5, ((obM0 σ).set 16 (.inl x)).map (av_v ad))) = wlM cI cZ cD ad (stI σ 0 16 x) := fun cI cZ cD ad => wlOf_set (σ2 := stI σ 0 16 x) (show 0 < 24 by decide) rfl rfl (fun a ha => locM _ _ _ _ _ _ _ (fun b => stI_ne ha) (fun b => rfl))
theorem stM0_17 (σ : ST) (x : Int32) : ∀ cI cZ cD ad, (wlM cI cZ cD ad σ).set 0 (ad 0, .inr (5, ((obM0 σ).set 17 (.inl x)).map (av_v ad))) = wlM cI cZ cD ad (stI σ 0 17 x) := fun cI cZ cD ad => wlOf_set (σ2 := stI σ 0 17 x) (show 0 < 24 by decide) rfl rfl (fun a ha => locM _ _ _ _ _ _ _ (fun b => stI_ne ha) (fun b => rfl))
theorem stM0_19 (σ : ST) (x : Int32) : ∀ cI cZ cD ad, (wlM cI cZ cD ad σ).set 0 (ad 0, .inr (5, ((obM0 σ).set 19 (.inl x)).map (av_v ad))) = wlM cI cZ cD ad (stI σ 0 19 x) := fun cI cZ cD ad => wlOf_set (σ2 := stI σ 0 19 x) (show 0 < 24 by decide) rfl rfl (fun a ha => locM _ _ _ _ _ _ _ (fun b => stI_ne ha) (fun b => rfl))
theorem stM0_20 (σ : ST) (x : Int32) : ∀ cI cZ cD ad, (wlM cI cZ cD ad σ).set 0 (ad 0, .inr (5, ((obM0 σ).set 20 (.inl x)).map (av_v ad))) = wlM cI cZ cD ad (stI σ 0 20 x) := fun cI cZ cD ad => wlOf_set (σ2 := stI σ 0 20 x) (show 0 < 24 by decide) rfl rfl (fun a ha => locM _ _ _ _ _ _ _ (fun b => stI_ne ha) (fun b => rfl))
theorem stM0_30 (σ : ST) (x : Int32) : ∀ cI cZ cD ad, (wlM cI cZ cD ad σ).set 0 (ad 0, .inr (5, ((obM0 σ).set 30 (.inl x)).map (av_v ad))) = wlM cI cZ cD ad (stI σ 0 30 x) := fun cI cZ cD ad => wlOf_set (σ2 := stI σ 0 30 x) (show 0 < 24 by decide) rfl rfl (fun a ha => locM _ _ _ _ _ _ _ (fun b => stI_ne ha) (fun b => rfl))
theorem stM0_31 (σ : ST) (x : Int32) : ∀ cI cZ cD ad, (wlM cI cZ cD ad σ).set 0 (ad 0, .inr (5, ((obM0 σ).set 31 (.inl x)).map (av_v ad))) = wlM cI cZ cD ad (stI σ 0 31 x) := fun cI cZ cD ad => wlOf_set (σ2 := stI σ 0 31 x) (show 0 < 24 by decide) rfl rfl (fun a ha => locM _ _ _ _ _ _ _ (fun b => stI_ne ha) (fun b => rfl))
theorem atM1 (σ : ST) : IntAt wlM σ 1 16 (σ.1 1) := fun cI cZ cD ad => wlOf_at (show 1 < 24 by decide)
theorem stM1 (σ : ST) (i : Nat) (x : Int32) : ∀ cI cZ cD ad, (wlM cI cZ cD ad σ).set 1 (ad 1, .inl (cI, 16, .inl (upd (σ.1 1) i x))) = wlM cI cZ cD ad (stI σ 1 i x) := fun cI cZ cD ad => wlOf_set (σ2 := stI σ 1 i x) (show 1 < 24 by decide) rfl (by rw [stI_up]; rfl) (fun a ha => locM _ _ _ _ _ _ _ (fun b => stI_ne ha) (fun b => rfl))
theorem atM2 (σ : ST) : IntAt wlM σ 2 16 (σ.1 2) := fun cI cZ cD ad => wlOf_at (show 2 < 24 by decide)
theorem stM2 (σ : ST) (i : Nat) (x : Int32) : ∀ cI cZ cD ad, (wlM cI cZ cD ad σ).set 2 (ad 2, .inl (cI, 16, .inl (upd (σ.1 2) i x))) = wlM cI cZ cD ad (stI σ 2 i x) := fun cI cZ cD ad => wlOf_set (σ2 := stI σ 2 i x) (show 2 < 24 by decide) rfl (by rw [stI_up]; rfl) (fun a ha => locM _ _ _ _ _ _ _ (fun b => stI_ne ha) (fun b => rfl))
theorem atM3 (σ : ST) : IntAt wlM σ 3 30 (σ.1 3) := fun cI cZ cD ad => wlOf_at (show 3 < 24 by decide)
theorem stM3 (σ : ST) (i : Nat) (x : Int32) : ∀ cI cZ cD ad, (wlM cI cZ cD ad σ).set 3 (ad 3, .inl (cI, 30, .inl (upd (σ.1 3) i x))) = wlM cI cZ cD ad (stI σ 3 i x) := fun cI cZ cD ad => wlOf_set (σ2 := stI σ 3 i x) (show 3 < 24 by decide) rfl (by rw [stI_up]; rfl) (fun a ha => locM _ _ _ _ _ _ _ (fun b => stI_ne ha) (fun b => rfl))
theorem atM4 (σ : ST) : IntAt wlM σ 4 30 (σ.1 4) := fun cI cZ cD ad => wlOf_at (show 4 < 24 by decide)
theorem stM4 (σ : ST) (i : Nat) (x : Int32) : ∀ cI cZ cD ad, (wlM cI cZ cD ad σ).set 4 (ad 4, .inl (cI, 30, .inl (upd (σ.1 4) i x))) = wlM cI cZ cD ad (stI σ 4 i x) := fun cI cZ cD ad => wlOf_set (σ2 := stI σ 4 i x) (show 4 < 24 by decide) rfl (by rw [stI_up]; rfl) (fun a ha => locM _ _ _ _ _ _ _ (fun b => stI_ne ha) (fun b => rfl))
theorem atM5 (σ : ST) : IntAt wlM σ 5 30 (σ.1 5) := fun cI cZ cD ad => wlOf_at (show 5 < 24 by decide)
theorem stM5 (σ : ST) (i : Nat) (x : Int32) : ∀ cI cZ cD ad, (wlM cI cZ cD ad σ).set 5 (ad 5, .inl (cI, 30, .inl (upd (σ.1 5) i x))) = wlM cI cZ cD ad (stI σ 5 i x) := fun cI cZ cD ad => wlOf_set (σ2 := stI σ 5 i x) (show 5 < 24 by decide) rfl (by rw [stI_up]; rfl) (fun a ha => locM _ _ _ _ _ _ _ (fun b => stI_ne ha) (fun b => rfl))
theorem atM6 (σ : ST) : IntAt wlM σ 6 30 (σ.1 6) := fun cI cZ cD ad => wlOf_at (show 6 < 24 by decide)
theorem stM6 (σ : ST) (i : Nat) (x : Int32) : ∀ cI cZ cD ad, (wlM cI cZ cD ad σ).set 6 (ad 6, .inl (cI, 30, .inl (upd (σ.1 6) i x))) = wlM cI cZ cD ad (stI σ 6 i x) := fun cI cZ cD ad => wlOf_set (σ2 := stI σ 6 i x) (show 6 < 24 by decide) rfl (by rw [stI_up]; rfl) (fun a ha => locM _ _ _ _ _ _ _ (fun b => stI_ne ha) (fun b => rfl))
theorem atM7 (σ : ST) : IntAt wlM σ 7 30 (σ.1 7) := fun cI cZ cD ad => wlOf_at (show 7 < 24 by decide)
theorem stM7 (σ : ST) (i : Nat) (x : Int32) : ∀ cI cZ cD ad, (wlM cI cZ cD ad σ).set 7 (ad 7, .inl (cI, 30, .inl (upd (σ.1 7) i x))) = wlM cI cZ cD ad (stI σ 7 i x) := fun cI cZ cD ad => wlOf_set (σ2 := stI σ 7 i x) (show 7 < 24 by decide) rfl (by rw [stI_up]; rfl) (fun a ha => locM _ _ _ _ _ _ _ (fun b => stI_ne ha) (fun b => rfl))
theorem atM8 (σ : ST) : BoolAt wlM σ 8 900 (σ.1 8) := fun cI cZ cD ad => wlOf_at (show 8 < 24 by decide)
theorem stM8 (σ : ST) (i : Nat) (x : Int32) : ∀ cI cZ cD ad, (wlM cI cZ cD ad σ).set 8 (ad 8, .inl (cZ, 900, .inl (upd (σ.1 8) i x))) = wlM cI cZ cD ad (stI σ 8 i x) := fun cI cZ cD ad => wlOf_set (σ2 := stI σ 8 i x) (show 8 < 24 by decide) rfl (by rw [stI_up]; rfl) (fun a ha => locM _ _ _ _ _ _ _ (fun b => stI_ne ha) (fun b => rfl))
theorem atM9 (σ : ST) : IntAt wlM σ 9 120 (σ.1 9) := fun cI cZ cD ad => wlOf_at (show 9 < 24 by decide)
theorem stM9 (σ : ST) (i : Nat) (x : Int32) : ∀ cI cZ cD ad, (wlM cI cZ cD ad σ).set 9 (ad 9, .inl (cI, 120, .inl (upd (σ.1 9) i x))) = wlM cI cZ cD ad (stI σ 9 i x) := fun cI cZ cD ad => wlOf_set (σ2 := stI σ 9 i x) (show 9 < 24 by decide) rfl (by rw [stI_up]; rfl) (fun a ha => locM _ _ _ _ _ _ _ (fun b => stI_ne ha) (fun b => rfl))
theorem atM10 (σ : ST) : IntAt wlM σ 10 120 (σ.1 10) := fun cI cZ cD ad => wlOf_at (show 10 < 24 by decide)
theorem stM10 (σ : ST) (i : Nat) (x : Int32) : ∀ cI cZ cD ad, (wlM cI cZ cD ad σ).set 10 (ad 10, .inl (cI, 120, .inl (upd (σ.1 10) i x))) = wlM cI cZ cD ad (stI σ 10 i x) := fun cI cZ cD ad => wlOf_set (σ2 := stI σ 10 i x) (show 10 < 24 by decide) rfl (by rw [stI_up]; rfl) (fun a ha => locM _ _ _ _ _ _ _ (fun b => stI_ne ha) (fun b => rfl))
theorem atM11 (σ : ST) : IntAt wlM σ 11 120 (σ.1 11) := fun cI cZ cD ad => wlOf_at (show 11 < 24 by decide)
theorem stM11 (σ : ST) (i : Nat) (x : Int32) : ∀ cI cZ cD ad, (wlM cI cZ cD ad σ).set 11 (ad 11, .inl (cI, 120, .inl (upd (σ.1 11) i x))) = wlM cI cZ cD ad (stI σ 11 i x) := fun cI cZ cD ad => wlOf_set (σ2 := stI σ 11 i x) (show 11 < 24 by decide) rfl (by rw [stI_up]; rfl) (fun a ha => locM _ _ _ _ _ _ _ (fun b => stI_ne ha) (fun b => rfl))
theorem atM12 (σ : ST) : IntAt wlM σ 12 120 (σ.1 12) := fun cI cZ cD ad => wlOf_at (show 12 < 24 by decide)
theorem stM12 (σ : ST) (i : Nat) (x : Int32) : ∀ cI cZ cD ad, (wlM cI cZ cD ad σ).set 12 (ad 12, .inl (cI, 120, .inl (upd (σ.1 12) i x))) = wlM cI cZ cD ad (stI σ 12 i x) := fun cI cZ cD ad => wlOf_set (σ2 := stI σ 12 i x) (show 12 < 24 by decide) rfl (by rw [stI_up]; rfl) (fun a ha => locM _ _ _ _ _ _ _ (fun b => stI_ne ha) (fun b => rfl))
theorem atM13 (σ : ST) : IntAt wlM σ 13 6 (σ.1 13) := fun cI cZ cD ad => wlOf_at (show 13 < 24 by decide)
theorem stM13 (σ : ST) (i : Nat) (x : Int32) : ∀ cI cZ cD ad, (wlM cI cZ cD ad σ).set 13 (ad 13, .inl (cI, 6, .inl (upd (σ.1 13) i x))) = wlM cI cZ cD ad (stI σ 13 i x) := fun cI cZ cD ad => wlOf_set (σ2 := stI σ 13 i x) (show 13 < 24 by decide) rfl (by rw [stI_up]; rfl) (fun a ha => locM _ _ _ _ _ _ _ (fun b => stI_ne ha) (fun b => rfl))
theorem atM14 (σ : ST) : IntAt wlM σ 14 20 (σ.1 14) := fun cI cZ cD ad => wlOf_at (show 14 < 24 by decide)
theorem stM14 (σ : ST) (i : Nat) (x : Int32) : ∀ cI cZ cD ad, (wlM cI cZ cD ad σ).set 14 (ad 14, .inl (cI, 20, .inl (upd (σ.1 14) i x))) = wlM cI cZ cD ad (stI σ 14 i x) := fun cI cZ cD ad => wlOf_set (σ2 := stI σ 14 i x) (show 14 < 24 by decide) rfl (by rw [stI_up]; rfl) (fun a ha => locM _ _ _ _ _ _ _ (fun b => stI_ne ha) (fun b => rfl))
theorem atM15 (σ : ST) : IntAt wlM σ 15 22500 (σ.1 15) := fun cI cZ cD ad => wlOf_at (show 15 < 24 by decide)
theorem stM15 (σ : ST) (i : Nat) (x : Int32) : ∀ cI cZ cD ad, (wlM cI cZ cD ad σ).set 15 (ad 15, .inl (cI, 22500, .inl (upd (σ.1 15) i x))) = wlM cI cZ cD ad (stI σ 15 i x) := fun cI cZ cD ad => wlOf_set (σ2 := stI σ 15 i x) (show 15 < 24 by decide) rfl (by rw [stI_up]; rfl) (fun a ha => locM _ _ _ _ _ _ _ (fun b => stI_ne ha) (fun b => rfl))
theorem atM16 (σ : ST) : IntAt wlM σ 16 22500 (σ.1 16) := fun cI cZ cD ad => wlOf_at (show 16 < 24 by decide)
theorem stM16 (σ : ST) (i : Nat) (x : Int32) : ∀ cI cZ cD ad, (wlM cI cZ cD ad σ).set 16 (ad 16, .inl (cI, 22500, .inl (upd (σ.1 16) i x))) = wlM cI cZ cD ad (stI σ 16 i x) := fun cI cZ cD ad => wlOf_set (σ2 := stI σ 16 i x) (show 16 < 24 by decide) rfl (by rw [stI_up]; rfl) (fun a ha => locM _ _ _ _ _ _ _ (fun b => stI_ne ha) (fun b => rfl))
theorem atM17 (σ : ST) : IntAt wlM σ 17 60 (σ.1 17) := fun cI cZ cD ad => wlOf_at (show 17 < 24 by decide)
theorem stM17 (σ : ST) (i : Nat) (x : Int32) : ∀ cI cZ cD ad, (wlM cI cZ cD ad σ).set 17 (ad 17, .inl (cI, 60, .inl (upd (σ.1 17) i x))) = wlM cI cZ cD ad (stI σ 17 i x) := fun cI cZ cD ad => wlOf_set (σ2 := stI σ 17 i x) (show 17 < 24 by decide) rfl (by rw [stI_up]; rfl) (fun a ha => locM _ _ _ _ _ _ _ (fun b => stI_ne ha) (fun b => rfl))
theorem atM18 (σ : ST) : IntAt wlM σ 18 60 (σ.1 18) := fun cI cZ cD ad => wlOf_at (show 18 < 24 by decide)
theorem stM18 (σ : ST) (i : Nat) (x : Int32) : ∀ cI cZ cD ad, (wlM cI cZ cD ad σ).set 18 (ad 18, .inl (cI, 60, .inl (upd (σ.1 18) i x))) = wlM cI cZ cD ad (stI σ 18 i x) := fun cI cZ cD ad => wlOf_set (σ2 := stI σ 18 i x) (show 18 < 24 by decide) rfl (by rw [stI_up]; rfl) (fun a ha => locM _ _ _ _ _ _ _ (fun b => stI_ne ha) (fun b => rfl))
theorem atM19 (σ : ST) : IntAt wlM σ 19 200 (σ.1 19) := fun cI cZ cD ad => wlOf_at (show 19 < 24 by decide)
theorem stM19 (σ : ST) (i : Nat) (x : Int32) : ∀ cI cZ cD ad, (wlM cI cZ cD ad σ).set 19 (ad 19, .inl (cI, 200, .inl (upd (σ.1 19) i x))) = wlM cI cZ cD ad (stI σ 19 i x) := fun cI cZ cD ad => wlOf_set (σ2 := stI σ 19 i x) (show 19 < 24 by decide) rfl (by rw [stI_up]; rfl) (fun a ha => locM _ _ _ _ _ _ _ (fun b => stI_ne ha) (fun b => rfl))
theorem atM20 (σ : ST) : IntAt wlM σ 20 20 (σ.1 20) := fun cI cZ cD ad => wlOf_at (show 20 < 24 by decide)
theorem stM20 (σ : ST) (i : Nat) (x : Int32) : ∀ cI cZ cD ad, (wlM cI cZ cD ad σ).set 20 (ad 20, .inl (cI, 20, .inl (upd (σ.1 20) i x))) = wlM cI cZ cD ad (stI σ 20 i x) := fun cI cZ cD ad => wlOf_set (σ2 := stI σ 20 i x) (show 20 < 24 by decide) rfl (by rw [stI_up]; rfl) (fun a ha => locM _ _ _ _ _ _ _ (fun b => stI_ne ha) (fun b => rfl))
theorem atM21 (σ : ST) : IntAt wlM σ 21 200 (σ.1 21) := fun cI cZ cD ad => wlOf_at (show 21 < 24 by decide)
theorem stM21 (σ : ST) (i : Nat) (x : Int32) : ∀ cI cZ cD ad, (wlM cI cZ cD ad σ).set 21 (ad 21, .inl (cI, 200, .inl (upd (σ.1 21) i x))) = wlM cI cZ cD ad (stI σ 21 i x) := fun cI cZ cD ad => wlOf_set (σ2 := stI σ 21 i x) (show 21 < 24 by decide) rfl (by rw [stI_up]; rfl) (fun a ha => locM _ _ _ _ _ _ _ (fun b => stI_ne ha) (fun b => rfl))
theorem atM22 (σ : ST) : IntAt wlM σ 22 20 (σ.1 22) := fun cI cZ cD ad => wlOf_at (show 22 < 24 by decide)
theorem stM22 (σ : ST) (i : Nat) (x : Int32) : ∀ cI cZ cD ad, (wlM cI cZ cD ad σ).set 22 (ad 22, .inl (cI, 20, .inl (upd (σ.1 22) i x))) = wlM cI cZ cD ad (stI σ 22 i x) := fun cI cZ cD ad => wlOf_set (σ2 := stI σ 22 i x) (show 22 < 24 by decide) rfl (by rw [stI_up]; rfl) (fun a ha => locM _ _ _ _ _ _ _ (fun b => stI_ne ha) (fun b => rfl))
theorem atM23 (σ : ST) : IntAt wlM σ 23 20 (σ.1 23) := fun cI cZ cD ad => wlOf_at (show 23 < 24 by decide)
theorem stM23 (σ : ST) (i : Nat) (x : Int32) : ∀ cI cZ cD ad, (wlM cI cZ cD ad σ).set 23 (ad 23, .inl (cI, 20, .inl (upd (σ.1 23) i x))) = wlM cI cZ cD ad (stI σ 23 i x) := fun cI cZ cD ad => wlOf_set (σ2 := stI σ 23 i x) (show 23 < 24 by decide) rfl (by rw [stI_up]; rfl) (fun a ha => locM _ _ _ _ _ _ _ (fun b => stI_ne ha) (fun b => rfl))
theorem locX : Loc1 entX := by
  intro cI cZ cD ad σ τ a h1 h2
  match a, h1, h2 with
  | 0, h1, h2 => simp only [entX, h1, h2]
  | 1, h1, h2 => simp only [entX, h1, h2]
  | 2, h1, h2 => simp only [entX, h1, h2]
  | 3, h1, h2 => simp only [entX, h1, h2]
  | 4, h1, h2 => simp only [entX, h2]
  | 5, h1, h2 => simp only [entX, show σ.1 5 = τ.1 5 from funext h1]
  | 6, h1, h2 => simp only [entX, show σ.1 6 = τ.1 6 from funext h1]
  | 7, h1, h2 => simp only [entX, show σ.1 7 = τ.1 7 from funext h1]
  | 8, h1, h2 => simp only [entX, show σ.1 8 = τ.1 8 from funext h1]
  | 9, h1, h2 => simp only [entX, show σ.1 9 = τ.1 9 from funext h1]
  | 10, h1, h2 => simp only [entX, show σ.1 10 = τ.1 10 from funext h1]
  | 11, h1, h2 => simp only [entX, show σ.1 11 = τ.1 11 from funext h1]
  | 12, h1, h2 => simp only [entX, show σ.1 12 = τ.1 12 from funext h1]
  | 13, h1, h2 => simp only [entX, show σ.1 13 = τ.1 13 from funext h1]
  | 14, h1, h2 => simp only [entX, show σ.1 14 = τ.1 14 from funext h1]
  | 15, h1, h2 => simp only [entX, show σ.1 15 = τ.1 15 from funext h1]
  | 16, h1, h2 => simp only [entX, show σ.1 16 = τ.1 16 from funext h1]
  | 17, h1, h2 => simp only [entX, show σ.1 17 = τ.1 17 from funext h1]
  | 18, h1, h2 => simp only [entX, show σ.1 18 = τ.1 18 from funext h1]
  | 19, h1, h2 => simp only [entX, show σ.1 19 = τ.1 19 from funext h1]
  | 20, h1, h2 => simp only [entX, show σ.1 20 = τ.1 20 from funext h1]
  | 21, h1, h2 => simp only [entX, show σ.1 21 = τ.1 21 from funext h1]
  | 22, h1, h2 => simp only [entX, show σ.1 22 = τ.1 22 from funext h1]
  | 23, h1, h2 => simp only [entX, show σ.1 23 = τ.1 23 from funext h1]
  | 24, h1, h2 => simp only [entX, show σ.1 24 = τ.1 24 from funext h1]
  | 25, h1, h2 => simp only [entX, show σ.1 25 = τ.1 25 from funext h1]
  | n + 26, h1, h2 => simp only [entX, h1, show σ.1 (n + 26) = τ.1 (n + 26) from funext h1]
abbrev obX0 (σ : ST) : List AV := [.inr (some 1), .inr (some 2), .inr (some 3), .inr (some 4), .inl (σ.1 0 4), .inr (some 5), .inl (σ.1 0 6), .inr (some 6)]
theorem atX0 (σ : ST) : ObjAt wlX σ 0 4 (obX0 σ) := fun cI cZ cD ad => wlOf_at (show 0 < 26 + 5 * σ.2.2 by omega)
theorem stX0_4 (σ : ST) (x : Int32) : ∀ cI cZ cD ad, (wlX cI cZ cD ad σ).set 0 (ad 0, .inr (4, ((obX0 σ).set 4 (.inl x)).map (av_v ad))) = wlX cI cZ cD ad (stI σ 0 4 x) := fun cI cZ cD ad => wlOf_set (σ2 := stI σ 0 4 x) (show 0 < 26 + 5 * σ.2.2 by omega) rfl rfl (fun a ha => locX _ _ _ _ _ _ _ (fun b => stI_ne ha) (fun b => rfl))
theorem stX0_6 (σ : ST) (x : Int32) : ∀ cI cZ cD ad, (wlX cI cZ cD ad σ).set 0 (ad 0, .inr (4, ((obX0 σ).set 6 (.inl x)).map (av_v ad))) = wlX cI cZ cD ad (stI σ 0 6 x) := fun cI cZ cD ad => wlOf_set (σ2 := stI σ 0 6 x) (show 0 < 26 + 5 * σ.2.2 by omega) rfl rfl (fun a ha => locX _ _ _ _ _ _ _ (fun b => stI_ne ha) (fun b => rfl))
abbrev obX1 (σ : ST) : List AV := [.inl (σ.1 1 0), .inr (some 7), .inr (some 8), .inl (σ.1 1 3), .inr (some 9), .inr (some 10), .inr (some 11), .inr (some 12), .inr (some 13), .inr (some 14)]
theorem atX1 (σ : ST) : ObjAt wlX σ 1 2 (obX1 σ) := fun cI cZ cD ad => wlOf_at (show 1 < 26 + 5 * σ.2.2 by omega)
theorem stX1_0 (σ : ST) (x : Int32) : ∀ cI cZ cD ad, (wlX cI cZ cD ad σ).set 1 (ad 1, .inr (2, ((obX1 σ).set 0 (.inl x)).map (av_v ad))) = wlX cI cZ cD ad (stI σ 1 0 x) := fun cI cZ cD ad => wlOf_set (σ2 := stI σ 1 0 x) (show 1 < 26 + 5 * σ.2.2 by omega) rfl rfl (fun a ha => locX _ _ _ _ _ _ _ (fun b => stI_ne ha) (fun b => rfl))
theorem stX1_3 (σ : ST) (x : Int32) : ∀ cI cZ cD ad, (wlX cI cZ cD ad σ).set 1 (ad 1, .inr (2, ((obX1 σ).set 3 (.inl x)).map (av_v ad))) = wlX cI cZ cD ad (stI σ 1 3 x) := fun cI cZ cD ad => wlOf_set (σ2 := stI σ 1 3 x) (show 1 < 26 + 5 * σ.2.2 by omega) rfl rfl (fun a ha => locX _ _ _ _ _ _ _ (fun b => stI_ne ha) (fun b => rfl))
abbrev obX2 (σ : ST) : List AV := [.inr (some 1), .inr (some 15), .inr (some 16), .inr (some 17)]
theorem atX2 (σ : ST) : ObjAt wlX σ 2 3 (obX2 σ) := fun cI cZ cD ad => wlOf_at (show 2 < 26 + 5 * σ.2.2 by omega)
abbrev obX3 (σ : ST) : List AV := [.inl (σ.1 3 0), .inl (σ.1 3 1), .inr (some 18), .inr (some 19), .inr (some 20), .inr (some 1), .inr (some 2), .inr (some 21), .inr (some 22), .inr (some 23), .inr (some 24), .inr (some 25), .inr (σ.2.1 3 12), .inl (σ.1 3 13), .inl (σ.1 3 14), .inl (σ.1 3 15)]
theorem atX3 (σ : ST) : ObjAt wlX σ 3 1 (obX3 σ) := fun cI cZ cD ad => wlOf_at (show 3 < 26 + 5 * σ.2.2 by omega)
theorem stX3_0 (σ : ST) (x : Int32) : ∀ cI cZ cD ad, (wlX cI cZ cD ad σ).set 3 (ad 3, .inr (1, ((obX3 σ).set 0 (.inl x)).map (av_v ad))) = wlX cI cZ cD ad (stI σ 3 0 x) := fun cI cZ cD ad => wlOf_set (σ2 := stI σ 3 0 x) (show 3 < 26 + 5 * σ.2.2 by omega) rfl rfl (fun a ha => locX _ _ _ _ _ _ _ (fun b => stI_ne ha) (fun b => rfl))
theorem stX3_1 (σ : ST) (x : Int32) : ∀ cI cZ cD ad, (wlX cI cZ cD ad σ).set 3 (ad 3, .inr (1, ((obX3 σ).set 1 (.inl x)).map (av_v ad))) = wlX cI cZ cD ad (stI σ 3 1 x) := fun cI cZ cD ad => wlOf_set (σ2 := stI σ 3 1 x) (show 3 < 26 + 5 * σ.2.2 by omega) rfl rfl (fun a ha => locX _ _ _ _ _ _ _ (fun b => stI_ne ha) (fun b => rfl))
theorem stX3_12 (σ : ST) (x : Option Nat) : ∀ cI cZ cD ad, (wlX cI cZ cD ad σ).set 3 (ad 3, .inr (1, ((obX3 σ).set 12 (.inr x)).map (av_v ad))) = wlX cI cZ cD ad (stR σ 3 12 x) := fun cI cZ cD ad => wlOf_set (σ2 := stR σ 3 12 x) (show 3 < 26 + 5 * σ.2.2 by omega) rfl rfl (fun a ha => locX _ _ _ _ _ _ _ (fun b => rfl) (fun b => stR_ne ha))
theorem stX3_13 (σ : ST) (x : Int32) : ∀ cI cZ cD ad, (wlX cI cZ cD ad σ).set 3 (ad 3, .inr (1, ((obX3 σ).set 13 (.inl x)).map (av_v ad))) = wlX cI cZ cD ad (stI σ 3 13 x) := fun cI cZ cD ad => wlOf_set (σ2 := stI σ 3 13 x) (show 3 < 26 + 5 * σ.2.2 by omega) rfl rfl (fun a ha => locX _ _ _ _ _ _ _ (fun b => stI_ne ha) (fun b => rfl))
theorem stX3_14 (σ : ST) (x : Int32) : ∀ cI cZ cD ad, (wlX cI cZ cD ad σ).set 3 (ad 3, .inr (1, ((obX3 σ).set 14 (.inl x)).map (av_v ad))) = wlX cI cZ cD ad (stI σ 3 14 x) := fun cI cZ cD ad => wlOf_set (σ2 := stI σ 3 14 x) (show 3 < 26 + 5 * σ.2.2 by omega) rfl rfl (fun a ha => locX _ _ _ _ _ _ _ (fun b => stI_ne ha) (fun b => rfl))
theorem stX3_15 (σ : ST) (x : Int32) : ∀ cI cZ cD ad, (wlX cI cZ cD ad σ).set 3 (ad 3, .inr (1, ((obX3 σ).set 15 (.inl x)).map (av_v ad))) = wlX cI cZ cD ad (stI σ 3 15 x) := fun cI cZ cD ad => wlOf_set (σ2 := stI σ 3 15 x) (show 3 < 26 + 5 * σ.2.2 by omega) rfl rfl (fun a ha => locX _ _ _ _ _ _ _ (fun b => stI_ne ha) (fun b => rfl))
theorem atX4 (σ : ST) : RefAt wlX σ 4 6 (σ.2.1 4) := fun cI cZ cD ad => wlOf_at (show 4 < 26 + 5 * σ.2.2 by omega)
theorem atX5 (σ : ST) : IntAt wlX σ 5 20 (σ.1 5) := fun cI cZ cD ad => wlOf_at (show 5 < 26 + 5 * σ.2.2 by omega)
theorem stX5 (σ : ST) (i : Nat) (x : Int32) : ∀ cI cZ cD ad, (wlX cI cZ cD ad σ).set 5 (ad 5, .inl (cI, 20, .inl (upd (σ.1 5) i x))) = wlX cI cZ cD ad (stI σ 5 i x) := fun cI cZ cD ad => wlOf_set (σ2 := stI σ 5 i x) (show 5 < 26 + 5 * σ.2.2 by omega) rfl (by rw [stI_up]; rfl) (fun a ha => locX _ _ _ _ _ _ _ (fun b => stI_ne ha) (fun b => rfl))
theorem atX6 (σ : ST) : IntAt wlX σ 6 6 (σ.1 6) := fun cI cZ cD ad => wlOf_at (show 6 < 26 + 5 * σ.2.2 by omega)
theorem stX6 (σ : ST) (i : Nat) (x : Int32) : ∀ cI cZ cD ad, (wlX cI cZ cD ad σ).set 6 (ad 6, .inl (cI, 6, .inl (upd (σ.1 6) i x))) = wlX cI cZ cD ad (stI σ 6 i x) := fun cI cZ cD ad => wlOf_set (σ2 := stI σ 6 i x) (show 6 < 26 + 5 * σ.2.2 by omega) rfl (by rw [stI_up]; rfl) (fun a ha => locX _ _ _ _ _ _ _ (fun b => stI_ne ha) (fun b => rfl))
theorem atX7 (σ : ST) : IntAt wlX σ 7 16 (σ.1 7) := fun cI cZ cD ad => wlOf_at (show 7 < 26 + 5 * σ.2.2 by omega)
theorem stX7 (σ : ST) (i : Nat) (x : Int32) : ∀ cI cZ cD ad, (wlX cI cZ cD ad σ).set 7 (ad 7, .inl (cI, 16, .inl (upd (σ.1 7) i x))) = wlX cI cZ cD ad (stI σ 7 i x) := fun cI cZ cD ad => wlOf_set (σ2 := stI σ 7 i x) (show 7 < 26 + 5 * σ.2.2 by omega) rfl (by rw [stI_up]; rfl) (fun a ha => locX _ _ _ _ _ _ _ (fun b => stI_ne ha) (fun b => rfl))
theorem atX8 (σ : ST) : IntAt wlX σ 8 16 (σ.1 8) := fun cI cZ cD ad => wlOf_at (show 8 < 26 + 5 * σ.2.2 by omega)
theorem stX8 (σ : ST) (i : Nat) (x : Int32) : ∀ cI cZ cD ad, (wlX cI cZ cD ad σ).set 8 (ad 8, .inl (cI, 16, .inl (upd (σ.1 8) i x))) = wlX cI cZ cD ad (stI σ 8 i x) := fun cI cZ cD ad => wlOf_set (σ2 := stI σ 8 i x) (show 8 < 26 + 5 * σ.2.2 by omega) rfl (by rw [stI_up]; rfl) (fun a ha => locX _ _ _ _ _ _ _ (fun b => stI_ne ha) (fun b => rfl))
theorem atX9 (σ : ST) : IntAt wlX σ 9 30 (σ.1 9) := fun cI cZ cD ad => wlOf_at (show 9 < 26 + 5 * σ.2.2 by omega)
theorem stX9 (σ : ST) (i : Nat) (x : Int32) : ∀ cI cZ cD ad, (wlX cI cZ cD ad σ).set 9 (ad 9, .inl (cI, 30, .inl (upd (σ.1 9) i x))) = wlX cI cZ cD ad (stI σ 9 i x) := fun cI cZ cD ad => wlOf_set (σ2 := stI σ 9 i x) (show 9 < 26 + 5 * σ.2.2 by omega) rfl (by rw [stI_up]; rfl) (fun a ha => locX _ _ _ _ _ _ _ (fun b => stI_ne ha) (fun b => rfl))
theorem atX10 (σ : ST) : IntAt wlX σ 10 30 (σ.1 10) := fun cI cZ cD ad => wlOf_at (show 10 < 26 + 5 * σ.2.2 by omega)
theorem stX10 (σ : ST) (i : Nat) (x : Int32) : ∀ cI cZ cD ad, (wlX cI cZ cD ad σ).set 10 (ad 10, .inl (cI, 30, .inl (upd (σ.1 10) i x))) = wlX cI cZ cD ad (stI σ 10 i x) := fun cI cZ cD ad => wlOf_set (σ2 := stI σ 10 i x) (show 10 < 26 + 5 * σ.2.2 by omega) rfl (by rw [stI_up]; rfl) (fun a ha => locX _ _ _ _ _ _ _ (fun b => stI_ne ha) (fun b => rfl))
theorem atX11 (σ : ST) : IntAt wlX σ 11 30 (σ.1 11) := fun cI cZ cD ad => wlOf_at (show 11 < 26 + 5 * σ.2.2 by omega)
theorem stX11 (σ : ST) (i : Nat) (x : Int32) : ∀ cI cZ cD ad, (wlX cI cZ cD ad σ).set 11 (ad 11, .inl (cI, 30, .inl (upd (σ.1 11) i x))) = wlX cI cZ cD ad (stI σ 11 i x) := fun cI cZ cD ad => wlOf_set (σ2 := stI σ 11 i x) (show 11 < 26 + 5 * σ.2.2 by omega) rfl (by rw [stI_up]; rfl) (fun a ha => locX _ _ _ _ _ _ _ (fun b => stI_ne ha) (fun b => rfl))
theorem atX12 (σ : ST) : IntAt wlX σ 12 30 (σ.1 12) := fun cI cZ cD ad => wlOf_at (show 12 < 26 + 5 * σ.2.2 by omega)
theorem stX12 (σ : ST) (i : Nat) (x : Int32) : ∀ cI cZ cD ad, (wlX cI cZ cD ad σ).set 12 (ad 12, .inl (cI, 30, .inl (upd (σ.1 12) i x))) = wlX cI cZ cD ad (stI σ 12 i x) := fun cI cZ cD ad => wlOf_set (σ2 := stI σ 12 i x) (show 12 < 26 + 5 * σ.2.2 by omega) rfl (by rw [stI_up]; rfl) (fun a ha => locX _ _ _ _ _ _ _ (fun b => stI_ne ha) (fun b => rfl))
theorem atX13 (σ : ST) : IntAt wlX σ 13 60 (σ.1 13) := fun cI cZ cD ad => wlOf_at (show 13 < 26 + 5 * σ.2.2 by omega)
theorem stX13 (σ : ST) (i : Nat) (x : Int32) : ∀ cI cZ cD ad, (wlX cI cZ cD ad σ).set 13 (ad 13, .inl (cI, 60, .inl (upd (σ.1 13) i x))) = wlX cI cZ cD ad (stI σ 13 i x) := fun cI cZ cD ad => wlOf_set (σ2 := stI σ 13 i x) (show 13 < 26 + 5 * σ.2.2 by omega) rfl (by rw [stI_up]; rfl) (fun a ha => locX _ _ _ _ _ _ _ (fun b => stI_ne ha) (fun b => rfl))
theorem atX14 (σ : ST) : IntAt wlX σ 14 60 (σ.1 14) := fun cI cZ cD ad => wlOf_at (show 14 < 26 + 5 * σ.2.2 by omega)
theorem stX14 (σ : ST) (i : Nat) (x : Int32) : ∀ cI cZ cD ad, (wlX cI cZ cD ad σ).set 14 (ad 14, .inl (cI, 60, .inl (upd (σ.1 14) i x))) = wlX cI cZ cD ad (stI σ 14 i x) := fun cI cZ cD ad => wlOf_set (σ2 := stI σ 14 i x) (show 14 < 26 + 5 * σ.2.2 by omega) rfl (by rw [stI_up]; rfl) (fun a ha => locX _ _ _ _ _ _ _ (fun b => stI_ne ha) (fun b => rfl))
theorem atX15 (σ : ST) : IntAt wlX σ 15 3600 (σ.1 15) := fun cI cZ cD ad => wlOf_at (show 15 < 26 + 5 * σ.2.2 by omega)
theorem stX15 (σ : ST) (i : Nat) (x : Int32) : ∀ cI cZ cD ad, (wlX cI cZ cD ad σ).set 15 (ad 15, .inl (cI, 3600, .inl (upd (σ.1 15) i x))) = wlX cI cZ cD ad (stI σ 15 i x) := fun cI cZ cD ad => wlOf_set (σ2 := stI σ 15 i x) (show 15 < 26 + 5 * σ.2.2 by omega) rfl (by rw [stI_up]; rfl) (fun a ha => locX _ _ _ _ _ _ _ (fun b => stI_ne ha) (fun b => rfl))
theorem atX16 (σ : ST) : BoolAt wlX σ 16 60 (σ.1 16) := fun cI cZ cD ad => wlOf_at (show 16 < 26 + 5 * σ.2.2 by omega)
theorem stX16 (σ : ST) (i : Nat) (x : Int32) : ∀ cI cZ cD ad, (wlX cI cZ cD ad σ).set 16 (ad 16, .inl (cZ, 60, .inl (upd (σ.1 16) i x))) = wlX cI cZ cD ad (stI σ 16 i x) := fun cI cZ cD ad => wlOf_set (σ2 := stI σ 16 i x) (show 16 < 26 + 5 * σ.2.2 by omega) rfl (by rw [stI_up]; rfl) (fun a ha => locX _ _ _ _ _ _ _ (fun b => stI_ne ha) (fun b => rfl))
theorem atX17 (σ : ST) : BoolAt wlX σ 17 60 (σ.1 17) := fun cI cZ cD ad => wlOf_at (show 17 < 26 + 5 * σ.2.2 by omega)
theorem stX17 (σ : ST) (i : Nat) (x : Int32) : ∀ cI cZ cD ad, (wlX cI cZ cD ad σ).set 17 (ad 17, .inl (cZ, 60, .inl (upd (σ.1 17) i x))) = wlX cI cZ cD ad (stI σ 17 i x) := fun cI cZ cD ad => wlOf_set (σ2 := stI σ 17 i x) (show 17 < 26 + 5 * σ.2.2 by omega) rfl (by rw [stI_up]; rfl) (fun a ha => locX _ _ _ _ _ _ _ (fun b => stI_ne ha) (fun b => rfl))
theorem atX18 (σ : ST) : IntAt wlX σ 18 20 (σ.1 18) := fun cI cZ cD ad => wlOf_at (show 18 < 26 + 5 * σ.2.2 by omega)
theorem stX18 (σ : ST) (i : Nat) (x : Int32) : ∀ cI cZ cD ad, (wlX cI cZ cD ad σ).set 18 (ad 18, .inl (cI, 20, .inl (upd (σ.1 18) i x))) = wlX cI cZ cD ad (stI σ 18 i x) := fun cI cZ cD ad => wlOf_set (σ2 := stI σ 18 i x) (show 18 < 26 + 5 * σ.2.2 by omega) rfl (by rw [stI_up]; rfl) (fun a ha => locX _ _ _ _ _ _ _ (fun b => stI_ne ha) (fun b => rfl))
theorem atX19 (σ : ST) : IntAt wlX σ 19 200 (σ.1 19) := fun cI cZ cD ad => wlOf_at (show 19 < 26 + 5 * σ.2.2 by omega)
theorem stX19 (σ : ST) (i : Nat) (x : Int32) : ∀ cI cZ cD ad, (wlX cI cZ cD ad σ).set 19 (ad 19, .inl (cI, 200, .inl (upd (σ.1 19) i x))) = wlX cI cZ cD ad (stI σ 19 i x) := fun cI cZ cD ad => wlOf_set (σ2 := stI σ 19 i x) (show 19 < 26 + 5 * σ.2.2 by omega) rfl (by rw [stI_up]; rfl) (fun a ha => locX _ _ _ _ _ _ _ (fun b => stI_ne ha) (fun b => rfl))
theorem atX20 (σ : ST) : IntAt wlX σ 20 20 (σ.1 20) := fun cI cZ cD ad => wlOf_at (show 20 < 26 + 5 * σ.2.2 by omega)
theorem stX20 (σ : ST) (i : Nat) (x : Int32) : ∀ cI cZ cD ad, (wlX cI cZ cD ad σ).set 20 (ad 20, .inl (cI, 20, .inl (upd (σ.1 20) i x))) = wlX cI cZ cD ad (stI σ 20 i x) := fun cI cZ cD ad => wlOf_set (σ2 := stI σ 20 i x) (show 20 < 26 + 5 * σ.2.2 by omega) rfl (by rw [stI_up]; rfl) (fun a ha => locX _ _ _ _ _ _ _ (fun b => stI_ne ha) (fun b => rfl))
theorem atX21 (σ : ST) : IntAt wlX σ 21 200 (σ.1 21) := fun cI cZ cD ad => wlOf_at (show 21 < 26 + 5 * σ.2.2 by omega)
theorem stX21 (σ : ST) (i : Nat) (x : Int32) : ∀ cI cZ cD ad, (wlX cI cZ cD ad σ).set 21 (ad 21, .inl (cI, 200, .inl (upd (σ.1 21) i x))) = wlX cI cZ cD ad (stI σ 21 i x) := fun cI cZ cD ad => wlOf_set (σ2 := stI σ 21 i x) (show 21 < 26 + 5 * σ.2.2 by omega) rfl (by rw [stI_up]; rfl) (fun a ha => locX _ _ _ _ _ _ _ (fun b => stI_ne ha) (fun b => rfl))
theorem atX22 (σ : ST) : IntAt wlX σ 22 200 (σ.1 22) := fun cI cZ cD ad => wlOf_at (show 22 < 26 + 5 * σ.2.2 by omega)
theorem stX22 (σ : ST) (i : Nat) (x : Int32) : ∀ cI cZ cD ad, (wlX cI cZ cD ad σ).set 22 (ad 22, .inl (cI, 200, .inl (upd (σ.1 22) i x))) = wlX cI cZ cD ad (stI σ 22 i x) := fun cI cZ cD ad => wlOf_set (σ2 := stI σ 22 i x) (show 22 < 26 + 5 * σ.2.2 by omega) rfl (by rw [stI_up]; rfl) (fun a ha => locX _ _ _ _ _ _ _ (fun b => stI_ne ha) (fun b => rfl))
theorem atX23 (σ : ST) : IntAt wlX σ 23 200 (σ.1 23) := fun cI cZ cD ad => wlOf_at (show 23 < 26 + 5 * σ.2.2 by omega)
theorem stX23 (σ : ST) (i : Nat) (x : Int32) : ∀ cI cZ cD ad, (wlX cI cZ cD ad σ).set 23 (ad 23, .inl (cI, 200, .inl (upd (σ.1 23) i x))) = wlX cI cZ cD ad (stI σ 23 i x) := fun cI cZ cD ad => wlOf_set (σ2 := stI σ 23 i x) (show 23 < 26 + 5 * σ.2.2 by omega) rfl (by rw [stI_up]; rfl) (fun a ha => locX _ _ _ _ _ _ _ (fun b => stI_ne ha) (fun b => rfl))
theorem atX24 (σ : ST) : IntAt wlX σ 24 20 (σ.1 24) := fun cI cZ cD ad => wlOf_at (show 24 < 26 + 5 * σ.2.2 by omega)
theorem stX24 (σ : ST) (i : Nat) (x : Int32) : ∀ cI cZ cD ad, (wlX cI cZ cD ad σ).set 24 (ad 24, .inl (cI, 20, .inl (upd (σ.1 24) i x))) = wlX cI cZ cD ad (stI σ 24 i x) := fun cI cZ cD ad => wlOf_set (σ2 := stI σ 24 i x) (show 24 < 26 + 5 * σ.2.2 by omega) rfl (by rw [stI_up]; rfl) (fun a ha => locX _ _ _ _ _ _ _ (fun b => stI_ne ha) (fun b => rfl))
theorem atX25 (σ : ST) : IntAt wlX σ 25 20 (σ.1 25) := fun cI cZ cD ad => wlOf_at (show 25 < 26 + 5 * σ.2.2 by omega)
theorem stX25 (σ : ST) (i : Nat) (x : Int32) : ∀ cI cZ cD ad, (wlX cI cZ cD ad σ).set 25 (ad 25, .inl (cI, 20, .inl (upd (σ.1 25) i x))) = wlX cI cZ cD ad (stI σ 25 i x) := fun cI cZ cD ad => wlOf_set (σ2 := stI σ 25 i x) (show 25 < 26 + 5 * σ.2.2 by omega) rfl (by rw [stI_up]; rfl) (fun a ha => locX _ _ _ _ _ _ _ (fun b => stI_ne ha) (fun b => rfl))
abbrev obD (σ : ST) (k : Nat) : List AV := [.inl (σ.1 k 0), .inr (some (k + 1)), .inr (some (k + 2)), .inr (some (k + 3)), .inr (some (k + 4))]
theorem isDr_spec {σ : ST} {k : Nat} (h : isDr σ k = true) : ∃ n, k = n + 26 ∧ n % 5 = 0 ∧ k < 26 + 5 * σ.2.2 := by
  unfold isDr at h
  have h := of_decide_eq_true h
  exact ⟨k - 26, by omega, h.2.1, h.2.2⟩
theorem atD {σ : ST} {k : Nat} (h : isDr σ k = true) : ObjAt wlX σ k 0 (obD σ k) := by
  obtain ⟨n, rfl, h1, h2⟩ := isDr_spec h
  intro cI cZ cD ad
  refine (wlOf_at (show n + 26 < nX σ from h2)).trans ?_
  show some (_, (if n % 5 = 0 then _ else _)) = _
  rw [if_pos h1]
theorem stD {σ : ST} {k : Nat} (h : isDr σ k = true) (x : Int32) : ∀ cI cZ cD ad, (wlX cI cZ cD ad σ).set k (ad k, .inr (0, ((obD σ k).set 0 (.inl x)).map (av_v ad))) = wlX cI cZ cD ad (stI σ k 0 x) := by
  obtain ⟨n, rfl, h1, h2⟩ := isDr_spec h
  intro cI cZ cD ad
  refine wlOf_set (σ2 := stI σ (n + 26) 0 x) h2 rfl ?_ (fun a ha => locX _ _ _ _ _ _ _ (fun b => stI_ne ha) (fun b => rfl))
  show (if n % 5 = 0 then _ else _) = _
  rw [if_pos h1]
  simp [stI]
theorem isRw_at {σ : ST} {k : Nat} (h : isRw σ k = true) : k < nX σ ∧ ∀ (τ : ST) cI cZ cD ad, entX cI cZ cD ad τ k = .inl (cI, 20, .inl (τ.1 k)) := by
  unfold isRw at h
  have h := of_decide_eq_true h
  rcases h with h | ⟨h0, h1, h2⟩
  · rcases h with rfl | rfl | rfl | rfl | rfl <;> exact ⟨by show _ < 26 + 5 * _; omega, fun τ cI cZ cD ad => rfl⟩
  · obtain ⟨n, rfl⟩ : ∃ n, k = n + 26 := ⟨k - 26, by omega⟩
    refine ⟨h2, fun τ cI cZ cD ad => ?_⟩
    show (if n % 5 = 0 then _ else _) = _
    rw [if_neg (by omega)]
theorem atR {σ : ST} {k : Nat} (h : isRw σ k = true) : IntAt wlX σ k 20 (σ.1 k) := fun cI cZ cD ad => (wlOf_at (isRw_at h).1).trans (by rw [(isRw_at h).2])
theorem stRw {σ : ST} {k : Nat} (h : isRw σ k = true) (i : Nat) (x : Int32) : ∀ cI cZ cD ad, (wlX cI cZ cD ad σ).set k (ad k, .inl (cI, 20, .inl (upd (σ.1 k) i x))) = wlX cI cZ cD ad (stI σ k i x) := fun cI cZ cD ad => wlOf_set (σ2 := stI σ k i x) (isRw_at h).1 rfl (by rw [(isRw_at h).2, stI_up]) (fun a ha => locX _ _ _ _ _ _ _ (fun b => stI_ne ha) (fun b => rfl))
