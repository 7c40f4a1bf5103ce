-- drive(): the one call that makes an object (own work)
def newD (σ : ST) : ST := (fun a b => if 26 + 5 * σ.2.2 ≤ a then 0 else σ.1 a b, σ.2.1, σ.2.2 + 1)
def RV (σ : ST) : Prop := (∀ j k, σ.2.1 4 j = some k → k < nX σ) ∧ ∀ k, σ.2.1 3 12 = some k → k < nX σ
def fX4_drive (σ : ST) : Option (Int32 × ST) :=
  if σ.1 0 4 < 6 then (if ib (σ.1 0 4) 6 = true then bindv (stR (newD σ) 4 (σ.1 0 4).toNatClampNeg (some (26 + 5 * σ.2.2))) (fun σ1 => bindv (stI σ1 0 4 (σ1.1 0 4 + 1)) (fun σ2 => some (σ2.1 0 4 - 1, σ2))) else none) else some (-2, σ)
def adX (ad : Nat → Nat) (N q q1 q2 q3 q4 : Nat) : Nat → Nat := fun k => if k < N then ad k else if k = N then q else if k = N + 1 then q1 else if k = N + 2 then q2 else if k = N + 3 then q3 else q4
theorem omap_ad {ad ad' : Nat → Nat} {o : Option Nat} {N : Nat} (h : ∀ k, k < N → ad' k = ad k) (ho : ∀ k, o = some k → k < N) : o.map ad' = o.map ad := by
  cases o with
  | none => rfl
  | some k => show some _ = some _; rw [h k (ho k rfl)]
theorem entX_ad {cI cZ cD : ClassId} {ad ad' : Nat → Nat} {σ : ST} (h : ∀ k, k < nX σ → ad' k = ad k) (hR : RV σ) {a : Nat} (ha : a < nX σ) : entX cI cZ cD ad' (newD σ) a = entX cI cZ cD ad σ a := by
  have hn : nX σ = 26 + 5 * σ.2.2 := rfl
  have hs : ∀ a b, a < nX σ → (newD σ).1 a b = σ.1 a b := fun a b hab => if_neg (by rw [← hn]; omega)
  have c : ∀ k, k < 26 → ad' k = ad k := fun k hk => h k (by omega)
  match a, ha with
  | 0, ha => simp only [entX, List.map, av_v, Option.map, hs _ _ ha, c 1 (by decide), c 2 (by decide), c 3 (by decide), c 4 (by decide), c 5 (by decide), c 6 (by decide)]
  | 1, ha => simp only [entX, List.map, av_v, Option.map, hs _ _ ha, c 7 (by decide), c 8 (by decide), c 9 (by decide), c 10 (by decide), c 11 (by decide), c 12 (by decide), c 13 (by decide), c 14 (by decide)]
  | 2, ha => simp only [entX, List.map, av_v, Option.map, c 1 (by decide), c 15 (by decide), c 16 (by decide), c 17 (by decide)]
  | 3, ha =>
    have hg : (σ.2.1 3 12).map ad' = (σ.2.1 3 12).map ad := omap_ad h hR.2
    have hg2 : (newD σ).2.1 3 12 = σ.2.1 3 12 := rfl
    simp only [entX, List.map, av_v, hs _ _ ha, hg2, hg]
    simp only [Option.map, c 1 (by decide), c 2 (by decide), c 18 (by decide), c 19 (by decide), c 20 (by decide), c 21 (by decide), c 22 (by decide), c 23 (by decide), c 24 (by decide), c 25 (by decide)]
  | 4, ha =>
    have hg : (fun j => ((newD σ).2.1 4 j).map ad') = (fun j => (σ.2.1 4 j).map ad) := funext fun j => omap_ad h (hR.1 j)
    simp only [entX, hg]
  | 5, ha => simp only [entX, show (newD σ).1 5 = σ.1 5 from funext fun b => hs _ _ ha]
  | 6, ha => simp only [entX, show (newD σ).1 6 = σ.1 6 from funext fun b => hs _ _ ha]
  | 7, ha => simp only [entX, show (newD σ).1 7 = σ.1 7 from funext fun b => hs _ _ ha]
  | 8, ha => simp only [entX, show (newD σ).1 8 = σ.1 8 from funext fun b => hs _ _ ha]
  | 9, ha => simp only [entX, show (newD σ).1 9 = σ.1 9 from funext fun b => hs _ _ ha]
  | 10, ha => simp only [entX, show (newD σ).1 10 = σ.1 10 from funext fun b => hs _ _ ha]
  | 11, ha => simp only [entX, show (newD σ).1 11 = σ.1 11 from funext fun b => hs _ _ ha]
  | 12, ha => simp only [entX, show (newD σ).1 12 = σ.1 12 from funext fun b => hs _ _ ha]
  | 13, ha => simp only [entX, show (newD σ).1 13 = σ.1 13 from funext fun b => hs _ _ ha]
  | 14, ha => simp only [entX, show (newD σ).1 14 = σ.1 14 from funext fun b => hs _ _ ha]
  | 15, ha => simp only [entX, show (newD σ).1 15 = σ.1 15 from funext fun b => hs _ _ ha]
  | 16, ha => simp only [entX, show (newD σ).1 16 = σ.1 16 from funext fun b => hs _ _ ha]
  | 17, ha => simp only [entX, show (newD σ).1 17 = σ.1 17 from funext fun b => hs _ _ ha]
  | 18, ha => simp only [entX, show (newD σ).1 18 = σ.1 18 from funext fun b => hs _ _ ha]
  | 19, ha => simp only [entX, show (newD σ).1 19 = σ.1 19 from funext fun b => hs _ _ ha]
  | 20, ha => simp only [entX, show (newD σ).1 20 = σ.1 20 from funext fun b => hs _ _ ha]
  | 21, ha => simp only [entX, show (newD σ).1 21 = σ.1 21 from funext fun b => hs _ _ ha]
  | 22, ha => simp only [entX, show (newD σ).1 22 = σ.1 22 from funext fun b => hs _ _ ha]
  | 23, ha => simp only [entX, show (newD σ).1 23 = σ.1 23 from funext fun b => hs _ _ ha]
  | 24, ha => simp only [entX, show (newD σ).1 24 = σ.1 24 from funext fun b => hs _ _ ha]
  | 25, ha => simp only [entX, show (newD σ).1 25 = σ.1 25 from funext fun b => hs _ _ ha]
  | n + 26, ha =>
    have hf : (newD σ).1 (n + 26) = σ.1 (n + 26) := funext fun b => hs _ _ ha
    show (if n % 5 = 0 then _ else _) = (if n % 5 = 0 then _ else _)
    by_cases h5 : n % 5 = 0
    · rw [if_pos h5, if_pos h5]
      simp only [List.map, av_v, Option.map, hf, h (n + 27) (by omega), h (n + 28) (by omega), h (n + 29) (by omega), h (n + 30) (by omega)]
    · rw [if_neg h5, if_neg h5, hf]
theorem wlX_new {cI cZ cD : ClassId} {ad : Nat → Nat} {σ : ST} (hR : RV σ) (q q1 q2 q3 q4 : Nat) :
    wlX cI cZ cD ad σ ++ [(q, .inr (0, [.int 0, .ref q1, .ref q2, .ref q3, .ref q4])), (q1, .inl (cI, 20, .inl (fun _ => 0))), (q2, .inl (cI, 20, .inl (fun _ => 0))), (q3, .inl (cI, 20, .inl (fun _ => 0))), (q4, .inl (cI, 20, .inl (fun _ => 0)))] = wlX cI cZ cD (adX ad (nX σ) q q1 q2 q3 q4) (newD σ) := by
  have hn : nX σ = 26 + 5 * σ.2.2 := rfl
  have hn' : nX (newD σ) = nX σ + 5 := by show 26 + 5 * (σ.2.2 + 1) = 26 + 5 * σ.2.2 + 5; omega
  have hz : ∀ j, (newD σ).1 (nX σ + j) = fun _ => 0 := fun j => funext fun b => if_pos (by rw [← hn]; omega)
  have hlen : (wlX cI cZ cD ad σ).length = nX σ := by unfold wlX wlOf; simp
  have new : ∀ j, j < 5 → (wlX cI cZ cD (adX ad (nX σ) q q1 q2 q3 q4) (newD σ))[nX σ + j]? = some (adX ad (nX σ) q q1 q2 q3 q4 (nX σ + j), entX cI cZ cD (adX ad (nX σ) q q1 q2 q3 q4) (newD σ) (nX σ + j)) := fun j hj => wlOf_at (by rw [hn']; omega)
  have hent : ∀ j, entX cI cZ cD (adX ad (nX σ) q q1 q2 q3 q4) (newD σ) (nX σ + j) = if (5 * σ.2.2 + j) % 5 = 0 then .inr (0, ([.inl ((newD σ).1 (5 * σ.2.2 + j + 26) 0), .inr (some (5 * σ.2.2 + j + 27)), .inr (some (5 * σ.2.2 + j + 28)), .inr (some (5 * σ.2.2 + j + 29)), .inr (some (5 * σ.2.2 + j + 30))] : List AV).map (av_v (adX ad (nX σ) q q1 q2 q3 q4))) else .inl (cI, 20, .inl ((newD σ).1 (5 * σ.2.2 + j + 26))) := fun j => by
    rw [show nX σ + j = (5 * σ.2.2 + j) + 26 by omega]
    rfl
  have a0 : adX ad (nX σ) q q1 q2 q3 q4 (nX σ) = q := by unfold adX; rw [if_neg (by omega), if_pos rfl]
  have a1 : adX ad (nX σ) q q1 q2 q3 q4 (nX σ + 1) = q1 := by unfold adX; rw [if_neg (by omega), if_neg (by omega), if_pos rfl]
  have a2 : adX ad (nX σ) q q1 q2 q3 q4 (nX σ + 2) = q2 := by unfold adX; rw [if_neg (by omega), if_neg (by omega), if_neg (by omega), if_pos rfl]
  have a3 : adX ad (nX σ) q q1 q2 q3 q4 (nX σ + 3) = q3 := by unfold adX; rw [if_neg (by omega), if_neg (by omega), if_neg (by omega), if_neg (by omega), if_pos rfl]
  have a4 : adX ad (nX σ) q q1 q2 q3 q4 (nX σ + 4) = q4 := by unfold adX; rw [if_neg (by omega), if_neg (by omega), if_neg (by omega), if_neg (by omega), if_neg (by omega)]
  apply List.ext_getElem?
  intro a
  by_cases ha : a < nX σ
  · rw [List.getElem?_append_left (by rw [hlen]; exact ha)]
    refine (wlOf_at ha).trans ?_
    refine Eq.trans ?_ (wlOf_at (show a < nX (newD σ) by rw [hn']; omega)).symm
    rw [entX_ad (ad := ad) (fun k hk => by simp [adX, hk]) hR ha]
    simp [adX, ha]
  · rw [List.getElem?_append_right (by rw [hlen]; omega), hlen]
    obtain ⟨j, rfl⟩ : ∃ j, a = nX σ + j := ⟨a - nX σ, by omega⟩
    rw [show nX σ + j - nX σ = j by omega]
    rcases (show j = 0 ∨ j = 1 ∨ j = 2 ∨ j = 3 ∨ j = 4 ∨ 5 ≤ j by omega) with rfl | rfl | rfl | rfl | rfl | hj
    · rw [new 0 (by decide), hent 0, if_pos (by omega)]
      rw [show 5 * σ.2.2 + 0 + 26 = nX σ + 0 by omega, show 5 * σ.2.2 + 0 + 27 = nX σ + 1 by omega, show 5 * σ.2.2 + 0 + 28 = nX σ + 2 by omega, show 5 * σ.2.2 + 0 + 29 = nX σ + 3 by omega, show 5 * σ.2.2 + 0 + 30 = nX σ + 4 by omega, hz 0]
      simp only [List.map, av_v, Option.map, va_rf, a1, a2, a3, a4, Nat.add_zero, a0]
      rfl
    · rw [new 1 (by decide), hent 1, if_neg (by omega), show 5 * σ.2.2 + 1 + 26 = nX σ + 1 by omega, hz 1, a1]; rfl
    · rw [new 2 (by decide), hent 2, if_neg (by omega), show 5 * σ.2.2 + 2 + 26 = nX σ + 2 by omega, hz 2, a2]; rfl
    · rw [new 3 (by decide), hent 3, if_neg (by omega), show 5 * σ.2.2 + 3 + 26 = nX σ + 3 by omega, hz 3, a3]; rfl
    · rw [new 4 (by decide), hent 4, if_neg (by omega), show 5 * σ.2.2 + 4 + 26 = nX σ + 4 by omega, hz 4, a4]; rfl
    · have h1 : (wlX cI cZ cD (adX ad (nX σ) q q1 q2 q3 q4) (newD σ)).length = nX σ + 5 := by unfold wlX wlOf; simp [hn']
      rw [List.getElem?_eq_none (l := [_, _, _, _, _]) (by simpa using hj), List.getElem?_eq_none (by rw [h1]; omega)]
theorem stX4 {cI cZ cD : ClassId} {ad : Nat → Nat} (σ : ST) (i k : Nat) : (wlX cI cZ cD ad σ).set 4 (ad 4, .inl (cD, 6, .inr (.inr (.inr (.inr (va_up (fun j => (σ.2.1 4 j).map ad) i (some (ad k)))))))) = wlX cI cZ cD ad (stR σ 4 i (some k)) :=
  wlOf_set (σ2 := stR σ 4 i (some k)) (show 4 < 26 + 5 * σ.2.2 by omega) rfl (by
    have h : (fun j => ((stR σ 4 i (some k)).2.1 4 j).map ad) = va_up (fun j => (σ.2.1 4 j).map ad) i (some (ad k)) := by
      funext j
      by_cases hj : j = i <;> simp [stR, va_up, hj]
    rw [← h]; rfl) (fun a ha => locX _ _ _ _ _ _ _ (fun b => rfl) (fun b => stR_ne ha))
