-- drive(): its walk (own work; the numbers of words are printed)
abbrev rmX4_drive : Room := { frames := 2, cells := 5, slots := 85, locals := 44 }
theorem nwX4_34 : NewOK RX4 34 0 [.int 0, .null, .null, .null, .null] 5 := ⟨RX0, TX0, tyX0, rfl, iwX0, tyX0_ok, wt_in 190 (by decide +kernel) rfl, wt_in 335 (by decide +kernel) rfl, wt_in 53 (by decide +kernel) rfl, by decide +kernel⟩
set_option maxHeartbeats 4000000 in
set_option maxRecDepth 100000 in
theorem conX4_drive (D : va_G) (cI cZ cD : ClassId) (ad : Nat → Nat) (σ : ST) (hR : RV σ) (r : Int32) (σ' : ST) (hK : fX4_drive σ = some (r, σ')) : CM yX4_drive cX4_drive 1 (some .int) rmX4_drive 5 85 [.ref (ad 0)] D cI cZ cD (wlX cI cZ cD ad σ) (fun v w => ∃ ad' : Nat → Nat, v = some (.int r) ∧ w = wlX cI cZ cD ad' σ' ∧ ∀ k, k < nX σ → ad' k = ad k) := by
  refine CM.of (L := [(0, .ref (ad 0))]) (by decide +kernel) (Nat.le_of_ble_eq_true rfl) rfl ?_
  refine ac_aload_n (pc := 0) 0 dX4_drive_0 rfl rfl ?_
  refine ac_get (pc := 1) (q0 := 0) (v := .int (σ.1 0 4)) foX4_40 (atX0 σ cI cZ cD ad) rfl dX4_drive_1 ?_
  refine ac_bipush (pc := 4) (v := 6) dX4_drive_4 (by decide) ?_
  unfold fX4_drive at hK
  refine ac_lt (pc := 6) (tgt := 12) dX4_drive_6 (by decide) (fun h => ?_) (fun h => ?_)
  · rw [if_pos h] at hK
    by_cases hb : ib (σ.1 0 4) 6 = true
    · rw [if_pos hb] at hK
      refine ac_aload_n (pc := 12) 0 dX4_drive_12 rfl rfl ?_
      refine ac_get (pc := 13) (q0 := 0) (v := .ref (ad 4)) foX4_36 (atX0 σ cI cZ cD ad) rfl dX4_drive_13 ?_
      refine ac_aload_n (pc := 16) 0 dX4_drive_16 rfl rfl ?_
      refine ac_get (pc := 17) (q0 := 0) (v := .int (σ.1 0 4)) foX4_40 (atX0 σ cI cZ cD ad) rfl dX4_drive_17 ?_
      refine ac_new (pc := 20) nwX4_34 (by decide) (by decide) dX4_drive_20 (fun q => ?_)
      refine ac_dup (pc := 23) dX4_drive_23 ?_
      refine ac_initN (pc := 24) (st := [.ref q, .int (σ.1 0 4), .ref (ad 4)]) (wr := wlX cI cZ cD ad σ) (wc := [(q, .inr (0, [.int 0, .null, .null, .null, .null]))]) (conX0 D cI cZ cD q) (fun s h => h.2.1) ioX0 ⟨rfl, rfl, by decide, by decide⟩ ⟨by decide, by decide⟩ (Nat.le_of_ble_eq_true rfl) dX4_drive_24 rfl rfl (fun v w h => h.1) (fun w1 hw1 => ?_)
      obtain ⟨-, q1, q2, q3, q4, rfl⟩ := hw1
      rw [wlX_new hR]
      obtain ⟨ad', had⟩ : ∃ ad', ad' = adX ad (nX σ) q q1 q2 q3 q4 := ⟨_, rfl⟩
      have hk : ∀ k, k < nX σ → ad' k = ad k := fun k hk => by rw [had]; simp [adX, hk]
      have hq : ad' (26 + 5 * σ.2.2) = q := by
        have : nX σ = 26 + 5 * σ.2.2 := rfl
        rw [had]; simp [adX, this]
      rw [← had]
      have hn : nX σ = 26 + 5 * σ.2.2 := rfl
      rw [← hk 0 (by omega), ← hk 4 (by omega), ← hq]
      have hdr : isDr (newD σ) (26 + 5 * σ.2.2) = true := decide_eq_true ⟨by omega, by omega, by show _ < 26 + 5 * (σ.2.2 + 1); omega⟩
      refine ac_aast (pc := 27) (q0 := 4) (qk := 26 + 5 * σ.2.2) (atX4 (newD σ) cI cZ cD ad') (atD hdr cI cZ cD ad') rfl (ib_in hb) (stX4 (newD σ) _ _) dX4_drive_27 ?_
      obtain ⟨σ1, hσ1⟩ : ∃ σ1, σ1 = stR (newD σ) 4 (σ.1 0 4).toNatClampNeg (some (26 + 5 * σ.2.2)) := ⟨_, rfl⟩
      rw [← hσ1] at hK ⊢
      unfold bindv at hK
      refine ac_aload_n (pc := 28) 0 dX4_drive_28 rfl rfl ?_
      refine ac_dup (pc := 29) dX4_drive_29 ?_
      refine ac_get (pc := 30) (q0 := 0) (v := .int (σ1.1 0 4)) foX4_40 (atX0 σ1 cI cZ cD ad') rfl dX4_drive_30 ?_
      refine ac_iconst (pc := 33) (v := 1) dX4_drive_33 (by decide) ?_
      refine ac_iadd (pc := 34) dX4_drive_34 ?_
      refine ac_put (pc := 35) (ws' := wlX cI cZ cD ad' (stI σ1 0 4 (σ1.1 0 4 + 1))) 0 fwX4_40 (atX0 σ1 cI cZ cD ad') (Nat.le_of_ble_eq_true rfl) rfl rfl (stX0_4 σ1 _ cI cZ cD ad') dX4_drive_35 ?_
      refine ac_aload_n (pc := 38) 0 dX4_drive_38 rfl rfl ?_
      refine ac_get (pc := 39) (q0 := 0) (v := .int ((stI σ1 0 4 (σ1.1 0 4 + 1)).1 0 4)) foX4_40 (atX0 _ cI cZ cD ad') rfl dX4_drive_39 ?_
      refine ac_iconst (pc := 42) (v := 1) dX4_drive_42 (by decide) ?_
      refine ac_isub (pc := 43) dX4_drive_43 ?_
      cases hK
      exact ac_ret_i (pc := 44) rfl rfl rfl ⟨ad', rfl, rfl, hk⟩ dX4_drive_44
    · rw [if_neg hb] at hK; cases hK
  · rw [if_neg h] at hK
    cases hK
    refine ac_bipush (pc := 9) (v := -2) dX4_drive_9 (by decide) ?_
    refine ac_widen (k' := 5) (sl' := 85) (by decide) (by decide) ?_
    exact ac_ret_i (pc := 11) rfl rfl rfl ⟨ad, rfl, rfl, fun _ _ => rfl⟩ dX4_drive_11
