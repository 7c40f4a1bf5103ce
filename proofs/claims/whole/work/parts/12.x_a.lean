-- printed by gen2.py: methods as functions over stores, tied to their bytecode
abbrev rmX0_hasSight : Room := { frames := 0, cells := 0, slots := 0, locals := 0 }
noncomputable def fX0_hasSight (k0 : Nat) (a1 : Int32) (σ : ST) : Option (Int32 × ST) :=
  if a1 < 0 then (some (0, σ)) else (if isDr σ k0 = true then if (σ.1 k0 0) ≤ a1 then (some (0, σ)) else (some (1, σ)) else none)
set_option maxRecDepth 10000 in
theorem xX0_hasSight (k0 : Nat) (a1 : Int32) (σ : ST) : MS wlX yX0_hasSight cX0_hasSight 2 (some .boolean) rmX0_hasSight emI [.inr (some k0), .inl a1] σ (fX0_hasSight k0 a1 σ) := by
  refine MS.of (by decide +kernel) (Nat.le_of_ble_eq_true rfl) ?_
  show AW wlX yX0_hasSight cX0_hasSight 2 (some .boolean) rmX0_hasSight emI (fX0_hasSight k0 a1 σ) 0 [some (.inr (some k0)), some (.inl a1)] [] σ
  unfold fX0_hasSight
  refine aw_iload_n (pc := 0) dX0_hasSight_0 rfl rfl ?_
  refine aw_if_lt (pc := 1) (tgt := 16) dX0_hasSight_1 (by decide) (fun _ => ?_) (fun _ => ?_)
  · refine aw_iconst (pc := 16) (v := 0) dX0_hasSight_16 (by decide) ?_
    exact aw_ret_i (pc := 17) rfl rfl rfl dX0_hasSight_17
  refine aw_iload_n (pc := 4) dX0_hasSight_4 rfl rfl ?_
  refine aw_aload_n (pc := 5) dX0_hasSight_5 rfl rfl ?_
  refine aw_getD (pc := 6) (v := .inl (σ.1 k0 0)) foX0_24 rfl dX0_hasSight_6 ?_
  refine aw_icmp_ge (pc := 9) (tgt := 16) dX0_hasSight_9 (by decide) (fun _ => ?_) (fun _ => ?_)
  · refine aw_iconst (pc := 16) (v := 0) dX0_hasSight_16 (by decide) ?_
    exact aw_ret_i (pc := 17) rfl rfl rfl dX0_hasSight_17
  refine aw_iconst (pc := 12) (v := 1) dX0_hasSight_12 (by decide) ?_
  refine aw_goto (pc := 13) (tgt := 17) dX0_hasSight_13 (by decide) ?_
  exact aw_ret_i (pc := 17) rfl rfl rfl dX0_hasSight_17
abbrev rmX0_lastTick : Room := { frames := 0, cells := 0, slots := 0, locals := 0 }
noncomputable def fX0_lastTick (k0 : Nat) (σ : ST) : Option (Int32 × ST) :=
  if isDr σ k0 = true then if (σ.1 k0 0) ≤ 0 then (some ((-1), σ)) else (if isDr σ k0 = true then if isDr σ k0 = true then if (isRw σ ((k0 + 3)) && ib ((σ.1 k0 0) - 1) 20) = true then some ((σ.1 ((k0 + 3)) (((σ.1 k0 0) - 1)).toNatClampNeg), σ) else none else none else none) else none
set_option maxRecDepth 10000 in
theorem xX0_lastTick (k0 : Nat) (σ : ST) : MS wlX yX0_lastTick cX0_lastTick 1 (some .int) rmX0_lastTick emI [.inr (some k0)] σ (fX0_lastTick k0 σ) := by
  refine MS.of (by decide +kernel) (Nat.le_of_ble_eq_true rfl) ?_
  show AW wlX yX0_lastTick cX0_lastTick 1 (some .int) rmX0_lastTick emI (fX0_lastTick k0 σ) 0 [some (.inr (some k0))] [] σ
  unfold fX0_lastTick
  refine aw_aload_n (pc := 0) dX0_lastTick_0 rfl rfl ?_
  refine aw_getD (pc := 1) (v := .inl (σ.1 k0 0)) foX0_24 rfl dX0_lastTick_1 ?_
  refine aw_if_le (pc := 4) (tgt := 21) dX0_lastTick_4 (by decide) (fun _ => ?_) (fun _ => ?_)
  · refine aw_iconst (pc := 21) (v := (-1)) dX0_lastTick_21 (by decide) ?_
    exact aw_ret_i (pc := 22) rfl rfl rfl dX0_lastTick_22
  refine aw_aload_n (pc := 7) dX0_lastTick_7 rfl rfl ?_
  refine aw_getD (pc := 8) (v := .inr (some ((k0 + 3)))) foX0_18 rfl dX0_lastTick_8 ?_
  refine aw_aload_n (pc := 11) dX0_lastTick_11 rfl rfl ?_
  refine aw_getD (pc := 12) (v := .inl (σ.1 k0 0)) foX0_24 rfl dX0_lastTick_12 ?_
  refine aw_iconst (pc := 15) (v := 1) dX0_lastTick_15 (by decide) ?_
  refine aw_isub (pc := 16) dX0_lastTick_16 ?_
  refine aw_ildR (pc := 17) dX0_lastTick_17 ?_
  refine aw_goto (pc := 18) (tgt := 22) dX0_lastTick_18 (by decide) ?_
  exact aw_ret_i (pc := 22) rfl rfl rfl dX0_lastTick_22
abbrev rmX0_addSight : Room := { frames := 0, cells := 0, slots := 0, locals := 0 }
noncomputable def fX0_addSight (k0 : Nat) (a1 : Int32) (a2 : Int32) (a3 : Int32) (a4 : Int32) (σ : ST) : Option (Int32 × ST) :=
  if isDr σ k0 = true then if (σ.1 k0 0) < 20 then (if isDr σ k0 = true then if isDr σ k0 = true then if (isRw σ ((k0 + 1)) && ib (σ.1 k0 0) 20) = true then bindv (stI σ ((k0 + 1)) (σ.1 k0 0).toNatClampNeg a1) (fun σ1 => if isDr σ1 k0 = true then if isDr σ1 k0 = true then if (isRw σ1 ((k0 + 2)) && ib (σ1.1 k0 0) 20) = true then bindv (stI σ1 ((k0 + 2)) (σ1.1 k0 0).toNatClampNeg a2) (fun σ2 => if isDr σ2 k0 = true then if isDr σ2 k0 = true then if (isRw σ2 ((k0 + 3)) && ib (σ2.1 k0 0) 20) = true then bindv (stI σ2 ((k0 + 3)) (σ2.1 k0 0).toNatClampNeg a3) (fun σ3 => if isDr σ3 k0 = true then if isDr σ3 k0 = true then if (isRw σ3 ((k0 + 4)) && ib (σ3.1 k0 0) 20) = true then bindv (stI σ3 ((k0 + 4)) (σ3.1 k0 0).toNatClampNeg a4) (fun σ4 => if isDr σ4 k0 = true then if isDr σ4 k0 = true then bindv (stI σ4 k0 0 ((σ4.1 k0 0) + 1)) (fun σ5 => if isDr σ5 k0 = true then some (((σ5.1 k0 0) - 1), σ5) else none) else none else none) else none else none else none) else none else none else none) else none else none else none) else none else none else none) else (some ((-2), σ)) else none
set_option maxRecDepth 10000 in
theorem xX0_addSight (k0 : Nat) (a1 : Int32) (a2 : Int32) (a3 : Int32) (a4 : Int32) (σ : ST) : MS wlX yX0_addSight cX0_addSight 5 (some .int) rmX0_addSight emI [.inr (some k0), .inl a1, .inl a2, .inl a3, .inl a4] σ (fX0_addSight k0 a1 a2 a3 a4 σ) := by
  refine MS.of (by decide +kernel) (Nat.le_of_ble_eq_true rfl) ?_
  show AW wlX yX0_addSight cX0_addSight 5 (some .int) rmX0_addSight emI (fX0_addSight k0 a1 a2 a3 a4 σ) 0 [some (.inr (some k0)), some (.inl a1), some (.inl a2), some (.inl a3), some (.inl a4)] [] σ
  unfold fX0_addSight
  refine aw_aload_n (pc := 0) dX0_addSight_0 rfl rfl ?_
  refine aw_getD (pc := 1) (v := .inl (σ.1 k0 0)) foX0_24 rfl dX0_addSight_1 ?_
  refine aw_bipush (pc := 4) (v := 20) dX0_addSight_4 (by decide) ?_
  refine aw_icmp_lt (pc := 6) (tgt := 12) dX0_addSight_6 (by decide) (fun _ => ?_) (fun _ => ?_)
  · refine aw_aload_n (pc := 12) dX0_addSight_12 rfl rfl ?_
    refine aw_getD (pc := 13) (v := .inr (some ((k0 + 1)))) foX0_9 rfl dX0_addSight_13 ?_
    refine aw_aload_n (pc := 16) dX0_addSight_16 rfl rfl ?_
    refine aw_getD (pc := 17) (v := .inl (σ.1 k0 0)) foX0_24 rfl dX0_addSight_17 ?_
    refine aw_iload_n (pc := 20) dX0_addSight_20 rfl rfl ?_
    refine aw_istR (pc := 21) dX0_addSight_21 (fun σ1 => ?_)
    refine aw_aload_n (pc := 22) dX0_addSight_22 rfl rfl ?_
    refine aw_getD (pc := 23) (v := .inr (some ((k0 + 2)))) foX0_15 rfl dX0_addSight_23 ?_
    refine aw_aload_n (pc := 26) dX0_addSight_26 rfl rfl ?_
    refine aw_getD (pc := 27) (v := .inl (σ1.1 k0 0)) foX0_24 rfl dX0_addSight_27 ?_
    refine aw_iload_n (pc := 30) dX0_addSight_30 rfl rfl ?_
    refine aw_istR (pc := 31) dX0_addSight_31 (fun σ2 => ?_)
    refine aw_aload_n (pc := 32) dX0_addSight_32 rfl rfl ?_
    refine aw_getD (pc := 33) (v := .inr (some ((k0 + 3)))) foX0_18 rfl dX0_addSight_33 ?_
    refine aw_aload_n (pc := 36) dX0_addSight_36 rfl rfl ?_
    refine aw_getD (pc := 37) (v := .inl (σ2.1 k0 0)) foX0_24 rfl dX0_addSight_37 ?_
    refine aw_iload_n (pc := 40) dX0_addSight_40 rfl rfl ?_
    refine aw_istR (pc := 41) dX0_addSight_41 (fun σ3 => ?_)
    refine aw_aload_n (pc := 42) dX0_addSight_42 rfl rfl ?_
    refine aw_getD (pc := 43) (v := .inr (some ((k0 + 4)))) foX0_21 rfl dX0_addSight_43 ?_
    refine aw_aload_n (pc := 46) dX0_addSight_46 rfl rfl ?_
    refine aw_getD (pc := 47) (v := .inl (σ3.1 k0 0)) foX0_24 rfl dX0_addSight_47 ?_
    refine aw_iload (pc := 50) dX0_addSight_50 rfl ?_
    refine aw_istR (pc := 52) dX0_addSight_52 (fun σ4 => ?_)
    refine aw_aload_n (pc := 53) dX0_addSight_53 rfl rfl ?_
    refine aw_dup (pc := 54) dX0_addSight_54 ?_
    refine aw_getD (pc := 55) (v := .inl (σ4.1 k0 0)) foX0_24 rfl dX0_addSight_55 ?_
    refine aw_iconst (pc := 58) (v := 1) dX0_addSight_58 (by decide) ?_
    refine aw_iadd (pc := 59) dX0_addSight_59 ?_
    refine aw_putD (pc := 60) fwX0_24 dX0_addSight_60 (fun σ5 => ?_)
    refine aw_aload_n (pc := 63) dX0_addSight_63 rfl rfl ?_
    refine aw_getD (pc := 64) (v := .inl (σ5.1 k0 0)) foX0_24 rfl dX0_addSight_64 ?_
    refine aw_iconst (pc := 67) (v := 1) dX0_addSight_67 (by decide) ?_
    refine aw_isub (pc := 68) dX0_addSight_68 ?_
    exact aw_ret_i (pc := 69) rfl rfl rfl dX0_addSight_69
  refine aw_bipush (pc := 9) (v := (-2)) dX0_addSight_9 (by decide) ?_
  exact aw_ret_i (pc := 11) rfl rfl rfl dX0_addSight_11
abbrev rmX2_quartersAlong : Room := { frames := 0, cells := 0, slots := 0, locals := 0 }
noncomputable def fX2_quartersAlong (a0 : Int32) (a1 : Int32) (a2 : Int32) (σ : ST) : Option (Int32 × ST) :=
  some (((4 * a0) + (a2 * (a1 - a0))), σ)
set_option maxRecDepth 10000 in
theorem xX2_quartersAlong (a0 : Int32) (a1 : Int32) (a2 : Int32) (σ : ST) : MS wlX yX2_quartersAlong cX2_quartersAlong 3 (some .int) rmX2_quartersAlong emI [.inl a0, .inl a1, .inl a2] σ (fX2_quartersAlong a0 a1 a2 σ) := by
  refine MS.of (by decide +kernel) (Nat.le_of_ble_eq_true rfl) ?_
  show AW wlX yX2_quartersAlong cX2_quartersAlong 3 (some .int) rmX2_quartersAlong emI (fX2_quartersAlong a0 a1 a2 σ) 0 [some (.inl a0), some (.inl a1), some (.inl a2)] [] σ
  unfold fX2_quartersAlong
  refine aw_iconst (pc := 0) (v := 4) dX2_quartersAlong_0 (by decide) ?_
  refine aw_iload_n (pc := 1) dX2_quartersAlong_1 rfl rfl ?_
  refine aw_imul (pc := 2) dX2_quartersAlong_2 ?_
  refine aw_iload_n (pc := 3) dX2_quartersAlong_3 rfl rfl ?_
  refine aw_iload_n (pc := 4) dX2_quartersAlong_4 rfl rfl ?_
  refine aw_iload_n (pc := 5) dX2_quartersAlong_5 rfl rfl ?_
  refine aw_isub (pc := 6) dX2_quartersAlong_6 ?_
  refine aw_imul (pc := 7) dX2_quartersAlong_7 ?_
  refine aw_iadd (pc := 8) dX2_quartersAlong_8 ?_
  exact aw_ret_i (pc := 9) rfl rfl rfl dX2_quartersAlong_9
abbrev rmX2_offFrom : Room := { frames := 1, cells := 0, slots := 0, locals := 22 }
noncomputable def fX2_offFrom (a1 : Int32) (a2 : Int32) (a3 : Int32) (σ : ST) : Option (Int32 × ST) :=
  bindv (a1 / 5) (fun v1 => bindv (a1 - a1 / 5 * 5) (fun v2 => if ib (2 * v1) 60 = true then if ib (σ.1 14 (2 * v1).toNatClampNeg) 16 = true then if ib ((2 * v1) + 1) 60 = true then if ib (σ.1 14 ((2 * v1) + 1).toNatClampNeg) 16 = true then cb (fX2_quartersAlong (σ.1 7 (σ.1 14 (2 * v1).toNatClampNeg).toNatClampNeg) (σ.1 7 (σ.1 14 ((2 * v1) + 1).toNatClampNeg).toNatClampNeg) v2 σ) (fun r3 σ4 => bindv (r3 - (4 * a2)) (fun v5 => if ib (2 * v1) 60 = true then if ib (σ4.1 14 (2 * v1).toNatClampNeg) 16 = true then if ib ((2 * v1) + 1) 60 = true then if ib (σ4.1 14 ((2 * v1) + 1).toNatClampNeg) 16 = true then cb (fX2_quartersAlong (σ4.1 8 (σ4.1 14 (2 * v1).toNatClampNeg).toNatClampNeg) (σ4.1 8 (σ4.1 14 ((2 * v1) + 1).toNatClampNeg).toNatClampNeg) v2 σ4) (fun r6 σ7 => bindv (r6 - (4 * a3)) (fun v8 => some ((((v5 * v5) + (v8 * v8)) / 16), σ7))) else none else none else none else none)) else none else none else none else none))
set_option maxRecDepth 10000 in
theorem xX2_offFrom (a1 : Int32) (a2 : Int32) (a3 : Int32) (σ : ST) : MS wlX yX2_offFrom cX2_offFrom 8 (some .int) rmX2_offFrom emI [.inr (some 1), .inl a1, .inl a2, .inl a3] σ (fX2_offFrom a1 a2 a3 σ) := by
  refine MS.of (by decide +kernel) (Nat.le_of_ble_eq_true rfl) ?_
  show AW wlX yX2_offFrom cX2_offFrom 8 (some .int) rmX2_offFrom emI (fX2_offFrom a1 a2 a3 σ) 0 [some (.inr (some 1)), some (.inl a1), some (.inl a2), some (.inl a3), none, none, none, none] [] σ
  unfold fX2_offFrom
  refine aw_iload_n (pc := 0) dX2_offFrom_0 rfl rfl ?_
  refine aw_iconst (pc := 1) (v := 5) dX2_offFrom_1 (by decide) ?_
  refine aw_idiv (pc := 2) dX2_offFrom_2 (by decide) ?_
  refine aw_stB (pc := 3) (Lf := fun v1 => [some (.inr (some 1)), some (.inl a1), some (.inl a2), some (.inl a3), some (.inl v1), none, none, none]) dX2_offFrom_3 (by decide) (fun _ => rfl) (fun v1 => ?_)
  refine aw_iload_n (pc := 5) dX2_offFrom_5 rfl rfl ?_
  refine aw_iconst (pc := 6) (v := 5) dX2_offFrom_6 (by decide) ?_
  refine aw_irem (pc := 7) dX2_offFrom_7 (by decide) ?_
  refine aw_stB (pc := 8) (Lf := fun v2 => [some (.inr (some 1)), some (.inl a1), some (.inl a2), some (.inl a3), some (.inl v1), some (.inl v2), none, none]) dX2_offFrom_8 (by decide) (fun _ => rfl) (fun v2 => ?_)
  refine aw_aload_n (pc := 10) dX2_offFrom_10 rfl rfl ?_
  refine aw_get (pc := 11) (v := .inr (some 7)) foX2_9 (atX1 _) rfl dX2_offFrom_11 ?_
  refine aw_aload_n (pc := 14) dX2_offFrom_14 rfl rfl ?_
  refine aw_get (pc := 15) (v := .inr (some 14)) foX2_33 (atX1 _) rfl dX2_offFrom_15 ?_
  refine aw_iconst (pc := 18) (v := 2) dX2_offFrom_18 (by decide) ?_
  refine aw_iload (pc := 19) dX2_offFrom_19 rfl ?_
  refine aw_imul (pc := 21) dX2_offFrom_21 ?_
  refine aw_iald' (pc := 22) (atX14 _) dX2_offFrom_22 ?_
  refine aw_iald' (pc := 23) (atX7 _) dX2_offFrom_23 ?_
  refine aw_aload_n (pc := 24) dX2_offFrom_24 rfl rfl ?_
  refine aw_get (pc := 25) (v := .inr (some 7)) foX2_9 (atX1 _) rfl dX2_offFrom_25 ?_
  refine aw_aload_n (pc := 28) dX2_offFrom_28 rfl rfl ?_
  refine aw_get (pc := 29) (v := .inr (some 14)) foX2_33 (atX1 _) rfl dX2_offFrom_29 ?_
  refine aw_iconst (pc := 32) (v := 2) dX2_offFrom_32 (by decide) ?_
  refine aw_iload (pc := 33) dX2_offFrom_33 rfl ?_
  refine aw_imul (pc := 35) dX2_offFrom_35 ?_
  refine aw_iconst (pc := 36) (v := 1) dX2_offFrom_36 (by decide) ?_
  refine aw_iadd (pc := 37) dX2_offFrom_37 ?_
  refine aw_iald' (pc := 38) (atX14 _) dX2_offFrom_38 ?_
  refine aw_iald' (pc := 39) (atX7 _) dX2_offFrom_39 ?_
  refine aw_iload (pc := 40) dX2_offFrom_40 rfl ?_
  refine aw_cSI (pc := 42) (st := []) (xX2_quartersAlong (σ.1 7 (σ.1 14 (2 * v1).toNatClampNeg).toNatClampNeg) (σ.1 7 (σ.1 14 ((2 * v1) + 1).toNatClampNeg).toNatClampNeg) v2 σ) ckX2_51 ⟨rfl, rfl, by decide, by decide⟩ (Nat.le_of_ble_eq_true rfl) dX2_offFrom_42 rfl (fun r3 σ4 => ?_)
  refine aw_iconst (pc := 45) (v := 4) dX2_offFrom_45 (by decide) ?_
  refine aw_iload_n (pc := 46) dX2_offFrom_46 rfl rfl ?_
  refine aw_imul (pc := 47) dX2_offFrom_47 ?_
  refine aw_isub (pc := 48) dX2_offFrom_48 ?_
  refine aw_stB (pc := 49) (Lf := fun v5 => [some (.inr (some 1)), some (.inl a1), some (.inl a2), some (.inl a3), some (.inl v1), some (.inl v2), some (.inl v5), none]) dX2_offFrom_49 (by decide) (fun _ => rfl) (fun v5 => ?_)
  refine aw_aload_n (pc := 51) dX2_offFrom_51 rfl rfl ?_
  refine aw_get (pc := 52) (v := .inr (some 8)) foX2_15 (atX1 _) rfl dX2_offFrom_52 ?_
  refine aw_aload_n (pc := 55) dX2_offFrom_55 rfl rfl ?_
  refine aw_get (pc := 56) (v := .inr (some 14)) foX2_33 (atX1 _) rfl dX2_offFrom_56 ?_
  refine aw_iconst (pc := 59) (v := 2) dX2_offFrom_59 (by decide) ?_
  refine aw_iload (pc := 60) dX2_offFrom_60 rfl ?_
  refine aw_imul (pc := 62) dX2_offFrom_62 ?_
  refine aw_iald' (pc := 63) (atX14 _) dX2_offFrom_63 ?_
  refine aw_iald' (pc := 64) (atX8 _) dX2_offFrom_64 ?_
  refine aw_aload_n (pc := 65) dX2_offFrom_65 rfl rfl ?_
  refine aw_get (pc := 66) (v := .inr (some 8)) foX2_15 (atX1 _) rfl dX2_offFrom_66 ?_
  refine aw_aload_n (pc := 69) dX2_offFrom_69 rfl rfl ?_
  refine aw_get (pc := 70) (v := .inr (some 14)) foX2_33 (atX1 _) rfl dX2_offFrom_70 ?_
  refine aw_iconst (pc := 73) (v := 2) dX2_offFrom_73 (by decide) ?_
  refine aw_iload (pc := 74) dX2_offFrom_74 rfl ?_
  refine aw_imul (pc := 76) dX2_offFrom_76 ?_
  refine aw_iconst (pc := 77) (v := 1) dX2_offFrom_77 (by decide) ?_
  refine aw_iadd (pc := 78) dX2_offFrom_78 ?_
  refine aw_iald' (pc := 79) (atX14 _) dX2_offFrom_79 ?_
  refine aw_iald' (pc := 80) (atX8 _) dX2_offFrom_80 ?_
  refine aw_iload (pc := 81) dX2_offFrom_81 rfl ?_
  refine aw_cSI (pc := 83) (st := []) (xX2_quartersAlong (σ4.1 8 (σ4.1 14 (2 * v1).toNatClampNeg).toNatClampNeg) (σ4.1 8 (σ4.1 14 ((2 * v1) + 1).toNatClampNeg).toNatClampNeg) v2 σ4) ckX2_51 ⟨rfl, rfl, by decide, by decide⟩ (Nat.le_of_ble_eq_true rfl) dX2_offFrom_83 rfl (fun r6 σ7 => ?_)
  refine aw_iconst (pc := 86) (v := 4) dX2_offFrom_86 (by decide) ?_
  refine aw_iload_n (pc := 87) dX2_offFrom_87 rfl rfl ?_
  refine aw_imul (pc := 88) dX2_offFrom_88 ?_
  refine aw_isub (pc := 89) dX2_offFrom_89 ?_
  refine aw_stB (pc := 90) (Lf := fun v8 => [some (.inr (some 1)), some (.inl a1), some (.inl a2), some (.inl a3), some (.inl v1), some (.inl v2), some (.inl v5), some (.inl v8)]) dX2_offFrom_90 (by decide) (fun _ => rfl) (fun v8 => ?_)
  refine aw_iload (pc := 92) dX2_offFrom_92 rfl ?_
  refine aw_iload (pc := 94) dX2_offFrom_94 rfl ?_
  refine aw_imul (pc := 96) dX2_offFrom_96 ?_
  refine aw_iload (pc := 97) dX2_offFrom_97 rfl ?_
  refine aw_iload (pc := 99) dX2_offFrom_99 rfl ?_
  refine aw_imul (pc := 101) dX2_offFrom_101 ?_
  refine aw_iadd (pc := 102) dX2_offFrom_102 ?_
  refine aw_bipush (pc := 103) (v := 16) dX2_offFrom_103 (by decide) ?_
  refine aw_idiv (pc := 105) dX2_offFrom_105 (by decide) ?_
  exact aw_ret_i (pc := 106) rfl rfl rfl dX2_offFrom_106
abbrev rmX2_weightOfPart : Room := { frames := 0, cells := 0, slots := 0, locals := 0 }
noncomputable def fX2_weightOfPart (a1 : Int32) (a2 : Int32) (σ : ST) : Option (Int32 × ST) :=
  if a2 ≤ 0 then (some (0, σ)) else (if ib a1 30 = true then if ib a1 30 = true then some ((((a2 * (σ.1 9 a1.toNatClampNeg)) * 10000) + (σ.1 11 a1.toNatClampNeg)), σ) else none else none)
set_option maxRecDepth 10000 in
theorem xX2_weightOfPart (a1 : Int32) (a2 : Int32) (σ : ST) : MS wlX yX2_weightOfPart cX2_weightOfPart 3 (some .int) rmX2_weightOfPart emI [.inr (some 1), .inl a1, .inl a2] σ (fX2_weightOfPart a1 a2 σ) := by
  refine MS.of (by decide +kernel) (Nat.le_of_ble_eq_true rfl) ?_
  show AW wlX yX2_weightOfPart cX2_weightOfPart 3 (some .int) rmX2_weightOfPart emI (fX2_weightOfPart a1 a2 σ) 0 [some (.inr (some 1)), some (.inl a1), some (.inl a2)] [] σ
  unfold fX2_weightOfPart
  refine aw_iload_n (pc := 0) dX2_weightOfPart_0 rfl rfl ?_
  refine aw_if_le (pc := 1) (tgt := 26) dX2_weightOfPart_1 (by decide) (fun _ => ?_) (fun _ => ?_)
  · refine aw_iconst (pc := 26) (v := 0) dX2_weightOfPart_26 (by decide) ?_
    exact aw_ret_i (pc := 27) rfl rfl rfl dX2_weightOfPart_27
  refine aw_iload_n (pc := 4) dX2_weightOfPart_4 rfl rfl ?_
  refine aw_aload_n (pc := 5) dX2_weightOfPart_5 rfl rfl ?_
  refine aw_get (pc := 6) (v := .inr (some 9)) foX2_18 (atX1 _) rfl dX2_weightOfPart_6 ?_
  refine aw_iload_n (pc := 9) dX2_weightOfPart_9 rfl rfl ?_
  refine aw_iald' (pc := 10) (atX9 _) dX2_weightOfPart_10 ?_
  refine aw_imul (pc := 11) dX2_weightOfPart_11 ?_
  refine aw_sipush (pc := 12) (v := 10000) dX2_weightOfPart_12 (by decide) ?_
  refine aw_imul (pc := 15) dX2_weightOfPart_15 ?_
  refine aw_aload_n (pc := 16) dX2_weightOfPart_16 rfl rfl ?_
  refine aw_get (pc := 17) (v := .inr (some 11)) foX2_24 (atX1 _) rfl dX2_weightOfPart_17 ?_
  refine aw_iload_n (pc := 20) dX2_weightOfPart_20 rfl rfl ?_
  refine aw_iald' (pc := 21) (atX11 _) dX2_weightOfPart_21 ?_
  refine aw_iadd (pc := 22) dX2_weightOfPart_22 ?_
  refine aw_goto (pc := 23) (tgt := 27) dX2_weightOfPart_23 (by decide) ?_
  exact aw_ret_i (pc := 27) rfl rfl rfl dX2_weightOfPart_27
abbrev rmX3_alongOneRoad : Room := { frames := 1, cells := 0, slots := 0, locals := 24 }
noncomputable def fX3_alongOneRoad_J32 (l1 : Int32) (l2 : Int32) (l3 : Int32) (σ : ST) : Option (Int32 × ST) :=
  cb (fX2_weightOfPart l3 (if 0 ≤ (l2 - l1) then (l2 - l1) else 0 - (l2 - l1)) σ) (fun r2 σ3 => some (r2, σ3))
set_option maxRecDepth 10000 in
theorem xX3_alongOneRoad_J32 (l1 : Int32) (l2 : Int32) (l3 : Int32) (σ : ST) : AW wlX yX3_alongOneRoad cX3_alongOneRoad 4 (some .int) rmX3_alongOneRoad emI (fX3_alongOneRoad_J32 l1 l2 l3 σ) 32 [some (.inr (some 2)), some (.inl l1), some (.inl l2), some (.inl l3)] [] σ := by
  unfold fX3_alongOneRoad_J32
  refine aw_aload_n (pc := 32) dX3_alongOneRoad_32 rfl rfl ?_
  refine aw_get (pc := 33) (v := .inr (some 1)) foX3_22 (atX2 _) rfl dX3_alongOneRoad_33 ?_
  refine aw_iload_n (pc := 36) dX3_alongOneRoad_36 rfl rfl ?_
  refine aw_iload_n (pc := 37) dX3_alongOneRoad_37 rfl rfl ?_
  refine aw_iload_n (pc := 38) dX3_alongOneRoad_38 rfl rfl ?_
  refine aw_isub (pc := 39) dX3_alongOneRoad_39 ?_
  refine aw_mabs (pc := 40) ckX3_52 mj_abs.1 mj_ini mj_abs.2 (by decide) (Nat.le_of_ble_eq_true rfl) dX3_alongOneRoad_40 ?_
  refine aw_cVI (pc := 43) (st := []) (xX2_weightOfPart l3 (if 0 ≤ (l2 - l1) then (l2 - l1) else 0 - (l2 - l1)) σ) (atX1 _) rfl ckX3_34 ⟨rfl, rfl, by decide, by decide⟩ (Nat.le_of_ble_eq_true rfl) dX3_alongOneRoad_43 rfl (fun r2 σ3 => ?_)
  exact aw_ret_i (pc := 46) rfl rfl rfl dX3_alongOneRoad_46
noncomputable def fX3_alongOneRoad (a1 : Int32) (a2 : Int32) (σ : ST) : Option (Int32 × ST) :=
  bindv (a1 / 5) (fun v1 => if (a2 / 5) = v1 then (if a1 ≤ a2 then (fX3_alongOneRoad_J32 a1 a2 v1 σ) else (if ib v1 30 = true then if (σ.1 10 v1.toNatClampNeg) = 1 then (some (2000000000, σ)) else (fX3_alongOneRoad_J32 a1 a2 v1 σ) else none)) else (some (2000000000, σ)))
set_option maxRecDepth 10000 in
theorem xX3_alongOneRoad (a1 : Int32) (a2 : Int32) (σ : ST) : MS wlX yX3_alongOneRoad cX3_alongOneRoad 4 (some .int) rmX3_alongOneRoad emI [.inr (some 2), .inl a1, .inl a2] σ (fX3_alongOneRoad a1 a2 σ) := by
  refine MS.of (by decide +kernel) (Nat.le_of_ble_eq_true rfl) ?_
  show AW wlX yX3_alongOneRoad cX3_alongOneRoad 4 (some .int) rmX3_alongOneRoad emI (fX3_alongOneRoad a1 a2 σ) 0 [some (.inr (some 2)), some (.inl a1), some (.inl a2), none] [] σ
  unfold fX3_alongOneRoad
  refine aw_iload_n (pc := 0) dX3_alongOneRoad_0 rfl rfl ?_
  refine aw_iconst (pc := 1) (v := 5) dX3_alongOneRoad_1 (by decide) ?_
  refine aw_idiv (pc := 2) dX3_alongOneRoad_2 (by decide) ?_
  refine aw_stnB (pc := 3) (Lf := fun v1 => [some (.inr (some 2)), some (.inl a1), some (.inl a2), some (.inl v1)]) dX3_alongOneRoad_3 rfl (by decide) (fun _ => rfl) (fun v1 => ?_)
  refine aw_iload_n (pc := 4) dX3_alongOneRoad_4 rfl rfl ?_
  refine aw_iconst (pc := 5) (v := 5) dX3_alongOneRoad_5 (by decide) ?_
  refine aw_idiv (pc := 6) dX3_alongOneRoad_6 (by decide) ?_
  refine aw_iload_n (pc := 7) dX3_alongOneRoad_7 rfl rfl ?_
  refine aw_icmp_ne (pc := 8) (tgt := 29) dX3_alongOneRoad_8 (by decide) (fun _ => ?_) (fun _ => ?_)
  · refine aw_iload_n (pc := 11) dX3_alongOneRoad_11 rfl rfl ?_
    refine aw_iload_n (pc := 12) dX3_alongOneRoad_12 rfl rfl ?_
    refine aw_icmp_ge (pc := 13) (tgt := 32) dX3_alongOneRoad_13 (by decide) (fun _ => ?_) (fun _ => ?_)
    · exact aw_wk (wk_same (wk_same (wk_same (wk_same wk_nil)))) (xX3_alongOneRoad_J32 a1 a2 v1 σ)
    refine aw_aload_n (pc := 16) dX3_alongOneRoad_16 rfl rfl ?_
    refine aw_get (pc := 17) (v := .inr (some 1)) foX3_22 (atX2 _) rfl dX3_alongOneRoad_17 ?_
    refine aw_get (pc := 20) (v := .inr (some 10)) foX3_48 (atX1 _) rfl dX3_alongOneRoad_20 ?_
    refine aw_iload_n (pc := 23) dX3_alongOneRoad_23 rfl rfl ?_
    refine aw_iald' (pc := 24) (atX10 _) dX3_alongOneRoad_24 ?_
    refine aw_iconst (pc := 25) (v := 1) dX3_alongOneRoad_25 (by decide) ?_
    refine aw_icmp_ne (pc := 26) (tgt := 32) dX3_alongOneRoad_26 (by decide) (fun _ => ?_) (fun _ => ?_)
    · refine aw_ldc (pc := 29) lcX3_51 dX3_alongOneRoad_29 ?_
      exact aw_ret_i (pc := 31) rfl rfl rfl dX3_alongOneRoad_31
    exact aw_wk (wk_same (wk_same (wk_same (wk_same wk_nil)))) (xX3_alongOneRoad_J32 a1 a2 v1 σ)
  refine aw_ldc (pc := 29) lcX3_51 dX3_alongOneRoad_29 ?_
  exact aw_ret_i (pc := 31) rfl rfl rfl dX3_alongOneRoad_31
abbrev rmX3_throughTurns : Room := { frames := 1, cells := 0, slots := 0, locals := 24 }
noncomputable def fX3_throughTurns_J105 (l8 : Int32) (σ : ST) : Option (Int32 × ST) :=
  some (l8, σ)
set_option maxRecDepth 10000 in
theorem xX3_throughTurns_J105 (l8 : Int32) (σ : ST) : AW wlX yX3_throughTurns cX3_throughTurns 9 (some .int) rmX3_throughTurns emI (fX3_throughTurns_J105 l8 σ) 105 [none, none, none, none, none, none, none, none, some (.inl l8)] [] σ := by
  unfold fX3_throughTurns_J105
  refine aw_iload (pc := 105) dX3_throughTurns_105 rfl ?_
  exact aw_ret_i (pc := 107) rfl rfl rfl dX3_throughTurns_107
noncomputable def fX3_throughTurns_J75 (l2 : Int32) (l4 : Int32) (l5 : Int32) (l7 : Int32) (l8 : Int32) (σ : ST) : Option (Int32 × ST) :=
  if l7 = 2000000000 then (fX3_throughTurns_J105 l8 σ) else (cb (fX2_weightOfPart l4 l5 σ) (fun r5 σ6 => bindv (if ((l2 + l7) + r5) < l8 then ((l2 + l7) + r5) else l8) (fun v7 => fX3_throughTurns_J105 v7 σ6)))
set_option maxRecDepth 10000 in
theorem xX3_throughTurns_J75 (l2 : Int32) (l4 : Int32) (l5 : Int32) (l7 : Int32) (l8 : Int32) (σ : ST) : AW wlX yX3_throughTurns cX3_throughTurns 9 (some .int) rmX3_throughTurns emI (fX3_throughTurns_J75 l2 l4 l5 l7 l8 σ) 75 [some (.inr (some 2)), none, some (.inl l2), none, some (.inl l4), some (.inl l5), none, some (.inl l7), some (.inl l8)] [] σ := by
  unfold fX3_throughTurns_J75
  refine aw_iload (pc := 75) dX3_throughTurns_75 rfl ?_
  refine aw_ldc (pc := 77) lcX3_51 dX3_throughTurns_77 ?_
  refine aw_icmp_eq (pc := 79) (tgt := 105) dX3_throughTurns_79 (by decide) (fun _ => ?_) (fun _ => ?_)
  · exact aw_wk (wk_none (wk_none (wk_none (wk_none (wk_none (wk_none (wk_none (wk_none (wk_same wk_nil))))))))) (xX3_throughTurns_J105 l8 σ)
  refine aw_iload (pc := 82) dX3_throughTurns_82 rfl ?_
  refine aw_iload_n (pc := 84) dX3_throughTurns_84 rfl rfl ?_
  refine aw_iload (pc := 85) dX3_throughTurns_85 rfl ?_
  refine aw_iadd (pc := 87) dX3_throughTurns_87 ?_
  refine aw_aload_n (pc := 88) dX3_throughTurns_88 rfl rfl ?_
  refine aw_get (pc := 89) (v := .inr (some 1)) foX3_22 (atX2 _) rfl dX3_throughTurns_89 ?_
  refine aw_iload (pc := 92) dX3_throughTurns_92 rfl ?_
  refine aw_iload (pc := 94) dX3_throughTurns_94 rfl ?_
  refine aw_cVI (pc := 96) (st := [.inl (l2 + l7), .inl l8]) (xX2_weightOfPart l4 l5 σ) (atX1 _) rfl ckX3_34 ⟨rfl, rfl, by decide, by decide⟩ (Nat.le_of_ble_eq_true rfl) dX3_throughTurns_96 rfl (fun r5 σ6 => ?_)
  refine aw_iadd (pc := 99) dX3_throughTurns_99 ?_
  refine aw_mmin (pc := 100) ckX3_43 mj_min.1 mj_ini mj_min.2 (by decide) (Nat.le_of_ble_eq_true rfl) dX3_throughTurns_100 ?_
  refine aw_stB (pc := 103) (Lf := fun v7 => [some (.inr (some 2)), none, some (.inl l2), none, some (.inl l4), some (.inl l5), none, some (.inl l7), some (.inl v7)]) dX3_throughTurns_103 (by decide) (fun _ => rfl) (fun v7 => ?_)
  exact aw_wk (wk_none (wk_none (wk_none (wk_none (wk_none (wk_none (wk_none (wk_none (wk_same wk_nil))))))))) (xX3_throughTurns_J105 v7 σ6)
noncomputable def fX3_throughTurns (a1 : Int32) (a2 : Int32) (a3 : Int32) (σ : ST) : Option (Int32 × ST) :=
  bindv (a3 / 5) (fun v1 => bindv (a3 - a3 / 5 * 5) (fun v2 => if ib ((a1 * 60) + (2 * v1)) 3600 = true then bindv (σ.1 15 ((a1 * 60) + (2 * v1)).toNatClampNeg) (fun v3 => if ib (((a1 * 60) + (2 * v1)) + 1) 3600 = true then bindv (σ.1 15 (((a1 * 60) + (2 * v1)) + 1).toNatClampNeg) (fun v4 => if v3 = 2000000000 then (fX3_throughTurns_J75 a2 v1 v2 v4 2000000000 σ) else (cb (fX2_weightOfPart v1 (4 - v2) σ) (fun r8 σ9 => bindv ((a2 + v3) + r8) (fun v10 => fX3_throughTurns_J75 a2 v1 v2 v4 v10 σ9)))) else none) else none))
set_option maxRecDepth 10000 in
theorem xX3_throughTurns (a1 : Int32) (a2 : Int32) (a3 : Int32) (σ : ST) : MS wlX yX3_throughTurns cX3_throughTurns 9 (some .int) rmX3_throughTurns emI [.inr (some 2), .inl a1, .inl a2, .inl a3] σ (fX3_throughTurns a1 a2 a3 σ) := by
  refine MS.of (by decide +kernel) (Nat.le_of_ble_eq_true rfl) ?_
  show AW wlX yX3_throughTurns cX3_throughTurns 9 (some .int) rmX3_throughTurns emI (fX3_throughTurns a1 a2 a3 σ) 0 [some (.inr (some 2)), some (.inl a1), some (.inl a2), some (.inl a3), none, none, none, none, none] [] σ
  unfold fX3_throughTurns
  refine aw_iload_n (pc := 0) dX3_throughTurns_0 rfl rfl ?_
  refine aw_iconst (pc := 1) (v := 5) dX3_throughTurns_1 (by decide) ?_
  refine aw_idiv (pc := 2) dX3_throughTurns_2 (by decide) ?_
  refine aw_stB (pc := 3) (Lf := fun v1 => [some (.inr (some 2)), some (.inl a1), some (.inl a2), some (.inl a3), some (.inl v1), none, none, none, none]) dX3_throughTurns_3 (by decide) (fun _ => rfl) (fun v1 => ?_)
  refine aw_iload_n (pc := 5) dX3_throughTurns_5 rfl rfl ?_
  refine aw_iconst (pc := 6) (v := 5) dX3_throughTurns_6 (by decide) ?_
  refine aw_irem (pc := 7) dX3_throughTurns_7 (by decide) ?_
  refine aw_stB (pc := 8) (Lf := fun v2 => [some (.inr (some 2)), some (.inl a1), some (.inl a2), some (.inl a3), some (.inl v1), some (.inl v2), none, none, none]) dX3_throughTurns_8 (by decide) (fun _ => rfl) (fun v2 => ?_)
  refine aw_aload_n (pc := 10) dX3_throughTurns_10 rfl rfl ?_
  refine aw_get (pc := 11) (v := .inr (some 15)) foX3_9 (atX2 _) rfl dX3_throughTurns_11 ?_
  refine aw_iload_n (pc := 14) dX3_throughTurns_14 rfl rfl ?_
  refine aw_bipush (pc := 15) (v := 60) dX3_throughTurns_15 (by decide) ?_
  refine aw_imul (pc := 17) dX3_throughTurns_17 ?_
  refine aw_iconst (pc := 18) (v := 2) dX3_throughTurns_18 (by decide) ?_
  refine aw_iload (pc := 19) dX3_throughTurns_19 rfl ?_
  refine aw_imul (pc := 21) dX3_throughTurns_21 ?_
  refine aw_iadd (pc := 22) dX3_throughTurns_22 ?_
  refine aw_iald' (pc := 23) (atX15 _) dX3_throughTurns_23 ?_
  refine aw_stB (pc := 24) (Lf := fun v3 => [some (.inr (some 2)), some (.inl a1), some (.inl a2), some (.inl a3), some (.inl v1), some (.inl v2), some (.inl v3), none, none]) dX3_throughTurns_24 (by decide) (fun _ => rfl) (fun v3 => ?_)
  refine aw_aload_n (pc := 26) dX3_throughTurns_26 rfl rfl ?_
  refine aw_get (pc := 27) (v := .inr (some 15)) foX3_9 (atX2 _) rfl dX3_throughTurns_27 ?_
  refine aw_iload_n (pc := 30) dX3_throughTurns_30 rfl rfl ?_
  refine aw_bipush (pc := 31) (v := 60) dX3_throughTurns_31 (by decide) ?_
  refine aw_imul (pc := 33) dX3_throughTurns_33 ?_
  refine aw_iconst (pc := 34) (v := 2) dX3_throughTurns_34 (by decide) ?_
  refine aw_iload (pc := 35) dX3_throughTurns_35 rfl ?_
  refine aw_imul (pc := 37) dX3_throughTurns_37 ?_
  refine aw_iadd (pc := 38) dX3_throughTurns_38 ?_
  refine aw_iconst (pc := 39) (v := 1) dX3_throughTurns_39 (by decide) ?_
  refine aw_iadd (pc := 40) dX3_throughTurns_40 ?_
  refine aw_iald' (pc := 41) (atX15 _) dX3_throughTurns_41 ?_
  refine aw_stB (pc := 42) (Lf := fun v4 => [some (.inr (some 2)), some (.inl a1), some (.inl a2), some (.inl a3), some (.inl v1), some (.inl v2), some (.inl v3), some (.inl v4), none]) dX3_throughTurns_42 (by decide) (fun _ => rfl) (fun v4 => ?_)
  refine aw_ldc (pc := 44) lcX3_51 dX3_throughTurns_44 ?_
  refine aw_st (pc := 46) (L' := [some (.inr (some 2)), some (.inl a1), some (.inl a2), some (.inl a3), some (.inl v1), some (.inl v2), some (.inl v3), some (.inl v4), some (.inl 2000000000)]) dX3_throughTurns_46 (by decide) rfl ?_
  refine aw_iload (pc := 48) dX3_throughTurns_48 rfl ?_
  refine aw_ldc (pc := 50) lcX3_51 dX3_throughTurns_50 ?_
  refine aw_icmp_eq (pc := 52) (tgt := 75) dX3_throughTurns_52 (by decide) (fun _ => ?_) (fun _ => ?_)
  · exact aw_wk (wk_same (wk_none (wk_same (wk_none (wk_same (wk_same (wk_none (wk_same (wk_same wk_nil))))))))) (xX3_throughTurns_J75 a2 v1 v2 v4 2000000000 σ)
  refine aw_iload_n (pc := 55) dX3_throughTurns_55 rfl rfl ?_
  refine aw_iload (pc := 56) dX3_throughTurns_56 rfl ?_
  refine aw_iadd (pc := 58) dX3_throughTurns_58 ?_
  refine aw_aload_n (pc := 59) dX3_throughTurns_59 rfl rfl ?_
  refine aw_get (pc := 60) (v := .inr (some 1)) foX3_22 (atX2 _) rfl dX3_throughTurns_60 ?_
  refine aw_iload (pc := 63) dX3_throughTurns_63 rfl ?_
  refine aw_iconst (pc := 65) (v := 4) dX3_throughTurns_65 (by decide) ?_
  refine aw_iload (pc := 66) dX3_throughTurns_66 rfl ?_
  refine aw_isub (pc := 68) dX3_throughTurns_68 ?_
  refine aw_cVI (pc := 69) (st := [.inl (a2 + v3)]) (xX2_weightOfPart v1 (4 - v2) σ) (atX1 _) rfl ckX3_34 ⟨rfl, rfl, by decide, by decide⟩ (Nat.le_of_ble_eq_true rfl) dX3_throughTurns_69 rfl (fun r8 σ9 => ?_)
  refine aw_iadd (pc := 72) dX3_throughTurns_72 ?_
  refine aw_stB (pc := 73) (Lf := fun v10 => [some (.inr (some 2)), some (.inl a1), some (.inl a2), some (.inl a3), some (.inl v1), some (.inl v2), some (.inl v3), some (.inl v4), some (.inl v10)]) dX3_throughTurns_73 (by decide) (fun _ => rfl) (fun v10 => ?_)
  exact aw_wk (wk_same (wk_none (wk_same (wk_none (wk_same (wk_same (wk_none (wk_same (wk_same wk_nil))))))))) (xX3_throughTurns_J75 a2 v1 v2 v4 v10 σ9)
abbrev rmX3_nearestOpen : Room := { frames := 0, cells := 0, slots := 0, locals := 0 }
noncomputable def fX3_nearestOpen_J53 (k9 : Int32 → Int32 → Int32 → Int32 → Int32 → ST → Option (Int32 × ST)) (l1 : Int32) (l2 : Int32) (l3 : Int32) (l4 : Int32) (l5 : Int32) (σ : ST) : Option (Int32 × ST) :=
  bindv (l5 + 1) (fun v1 => k9 l1 l2 l3 l4 v1 σ)
set_option maxRecDepth 10000 in
theorem xX3_nearestOpen_J53 (k9 : Int32 → Int32 → Int32 → Int32 → Int32 → ST → Option (Int32 × ST)) (hk9 : ∀ (l1 : Int32) (l2 : Int32) (l3 : Int32) (l4 : Int32) (l5 : Int32) (σ : ST), AW wlX yX3_nearestOpen cX3_nearestOpen 6 (some .int) rmX3_nearestOpen emI (k9 l1 l2 l3 l4 l5 σ) 9 [some (.inr (some 2)), some (.inl l1), some (.inl l2), some (.inl l3), some (.inl l4), some (.inl l5)] [] σ) (l1 : Int32) (l2 : Int32) (l3 : Int32) (l4 : Int32) (l5 : Int32) (σ : ST) : AW wlX yX3_nearestOpen cX3_nearestOpen 6 (some .int) rmX3_nearestOpen emI (fX3_nearestOpen_J53 k9 l1 l2 l3 l4 l5 σ) 53 [some (.inr (some 2)), some (.inl l1), some (.inl l2), some (.inl l3), some (.inl l4), some (.inl l5)] [] σ := by
  unfold fX3_nearestOpen_J53
  refine aw_iincB (pc := 53) (v := 1) (Lf := fun v1 => [some (.inr (some 2)), some (.inl l1), some (.inl l2), some (.inl l3), some (.inl l4), some (.inl v1)]) dX3_nearestOpen_53 rfl (by decide) (by decide) (fun _ => rfl) (fun v1 => ?_)
  refine aw_goto (pc := 56) (tgt := 9) dX3_nearestOpen_56 (by decide) ?_
  exact aw_wk (wk_same (wk_same (wk_same (wk_same (wk_same (wk_same wk_nil)))))) (hk9 l1 l2 l3 l4 v1 σ)
noncomputable def fX3_nearestOpen_B9 (k9 : Int32 → Int32 → Int32 → Int32 → Int32 → ST → Option (Int32 × ST)) (l1 : Int32) (l2 : Int32) (l3 : Int32) (l4 : Int32) (l5 : Int32) (σ : ST) : Option (Int32 × ST) :=
  if l2 ≤ l5 then (some (l3, σ)) else (if ib (l1 + l5) 3600 = true then if l4 ≤ (σ.1 15 (l1 + l5).toNatClampNeg) then (fX3_nearestOpen_J53 k9 l1 l2 l3 l4 l5 σ) else (if ib l5 60 = true then if (σ.1 17 l5.toNatClampNeg) = 0 then (if ib (l1 + l5) 3600 = true then bindv (σ.1 15 (l1 + l5).toNatClampNeg) (fun v2 => fX3_nearestOpen_J53 k9 l1 l2 l5 v2 l5 σ) else none) else (fX3_nearestOpen_J53 k9 l1 l2 l3 l4 l5 σ) else none) else none)
set_option maxRecDepth 10000 in
theorem xX3_nearestOpen_B9 (k9 : Int32 → Int32 → Int32 → Int32 → Int32 → ST → Option (Int32 × ST)) (hk9 : ∀ (l1 : Int32) (l2 : Int32) (l3 : Int32) (l4 : Int32) (l5 : Int32) (σ : ST), AW wlX yX3_nearestOpen cX3_nearestOpen 6 (some .int) rmX3_nearestOpen emI (k9 l1 l2 l3 l4 l5 σ) 9 [some (.inr (some 2)), some (.inl l1), some (.inl l2), some (.inl l3), some (.inl l4), some (.inl l5)] [] σ) (l1 : Int32) (l2 : Int32) (l3 : Int32) (l4 : Int32) (l5 : Int32) (σ : ST) : AW wlX yX3_nearestOpen cX3_nearestOpen 6 (some .int) rmX3_nearestOpen emI (fX3_nearestOpen_B9 k9 l1 l2 l3 l4 l5 σ) 9 [some (.inr (some 2)), some (.inl l1), some (.inl l2), some (.inl l3), some (.inl l4), some (.inl l5)] [] σ := by
  unfold fX3_nearestOpen_B9
  refine aw_iload (pc := 9) dX3_nearestOpen_9 rfl ?_
  refine aw_iload_n (pc := 11) dX3_nearestOpen_11 rfl rfl ?_
  refine aw_icmp_ge (pc := 12) (tgt := 59) dX3_nearestOpen_12 (by decide) (fun _ => ?_) (fun _ => ?_)
  · refine aw_iload_n (pc := 59) dX3_nearestOpen_59 rfl rfl ?_
    exact aw_ret_i (pc := 60) rfl rfl rfl dX3_nearestOpen_60
  refine aw_aload_n (pc := 15) dX3_nearestOpen_15 rfl rfl ?_
  refine aw_get (pc := 16) (v := .inr (some 15)) foX3_9 (atX2 _) rfl dX3_nearestOpen_16 ?_
  refine aw_iload_n (pc := 19) dX3_nearestOpen_19 rfl rfl ?_
  refine aw_iload (pc := 20) dX3_nearestOpen_20 rfl ?_
  refine aw_iadd (pc := 22) dX3_nearestOpen_22 ?_
  refine aw_iald' (pc := 23) (atX15 _) dX3_nearestOpen_23 ?_
  refine aw_iload (pc := 24) dX3_nearestOpen_24 rfl ?_
  refine aw_icmp_ge (pc := 26) (tgt := 53) dX3_nearestOpen_26 (by decide) (fun _ => ?_) (fun _ => ?_)
  · exact aw_wk (wk_same (wk_same (wk_same (wk_same (wk_same (wk_same wk_nil)))))) (xX3_nearestOpen_J53 k9 hk9 l1 l2 l3 l4 l5 σ)
  refine aw_aload_n (pc := 29) dX3_nearestOpen_29 rfl rfl ?_
  refine aw_get (pc := 30) (v := .inr (some 17)) foX3_19 (atX2 _) rfl dX3_nearestOpen_30 ?_
  refine aw_iload (pc := 33) dX3_nearestOpen_33 rfl ?_
  refine aw_bald' (pc := 35) (atX17 _) dX3_nearestOpen_35 ?_
  refine aw_if_ne (pc := 36) (tgt := 53) dX3_nearestOpen_36 (by decide) (fun _ => ?_) (fun _ => ?_)
  · refine aw_iload (pc := 39) dX3_nearestOpen_39 rfl ?_
    refine aw_stn (pc := 41) (L' := [some (.inr (some 2)), some (.inl l1), some (.inl l2), some (.inl l5), some (.inl l4), some (.inl l5)]) dX3_nearestOpen_41 rfl (by decide) rfl ?_
    refine aw_aload_n (pc := 42) dX3_nearestOpen_42 rfl rfl ?_
    refine aw_get (pc := 43) (v := .inr (some 15)) foX3_9 (atX2 _) rfl dX3_nearestOpen_43 ?_
    refine aw_iload_n (pc := 46) dX3_nearestOpen_46 rfl rfl ?_
    refine aw_iload (pc := 47) dX3_nearestOpen_47 rfl ?_
    refine aw_iadd (pc := 49) dX3_nearestOpen_49 ?_
    refine aw_iald' (pc := 50) (atX15 _) dX3_nearestOpen_50 ?_
    refine aw_stB (pc := 51) (Lf := fun v2 => [some (.inr (some 2)), some (.inl l1), some (.inl l2), some (.inl l5), some (.inl v2), some (.inl l5)]) dX3_nearestOpen_51 (by decide) (fun _ => rfl) (fun v2 => ?_)
    exact aw_wk (wk_same (wk_same (wk_same (wk_same (wk_same (wk_same wk_nil)))))) (xX3_nearestOpen_J53 k9 hk9 l1 l2 l5 v2 l5 σ)
  exact aw_wk (wk_same (wk_same (wk_same (wk_same (wk_same (wk_same wk_nil)))))) (xX3_nearestOpen_J53 k9 hk9 l1 l2 l3 l4 l5 σ)
noncomputable def fX3_nearestOpen_L9 (n : Nat) (l1 : Int32) (l2 : Int32) (l3 : Int32) (l4 : Int32) (l5 : Int32) (σ : ST) : Option (Int32 × ST) := loopN (α := Int32 × Int32 × Int32 × Int32 × Int32 × ST) (fun k a => fX3_nearestOpen_B9 (fun l1 l2 l3 l4 l5 σ => k (l1, l2, l3, l4, l5, σ)) a.1 a.2.1 a.2.2.1 a.2.2.2.1 a.2.2.2.2.1 a.2.2.2.2.2) n (l1, l2, l3, l4, l5, σ)
theorem xX3_nearestOpen_L9 (n : Nat) (l1 : Int32) (l2 : Int32) (l3 : Int32) (l4 : Int32) (l5 : Int32) (σ : ST) : AW wlX yX3_nearestOpen cX3_nearestOpen 6 (some .int) rmX3_nearestOpen emI (fX3_nearestOpen_L9 n l1 l2 l3 l4 l5 σ) 9 [some (.inr (some 2)), some (.inl l1), some (.inl l2), some (.inl l3), some (.inl l4), some (.inl l5)] [] σ :=
  aw_loop (α := Int32 × Int32 × Int32 × Int32 × Int32 × ST) (Lf := fun a => [some (.inr (some 2)), some (.inl (a.1)), some (.inl (a.2.1)), some (.inl (a.2.2.1)), some (.inl (a.2.2.2.1)), some (.inl (a.2.2.2.2.1))]) (sf := fun a => a.2.2.2.2.2) (fun k hk a => by
    obtain ⟨l1, l2, l3, l4, l5, σ⟩ := a
    exact xX3_nearestOpen_B9 (fun l1 l2 l3 l4 l5 σ => k (l1, l2, l3, l4, l5, σ)) (fun l1 l2 l3 l4 l5 σ => hk (l1, l2, l3, l4, l5, σ)) l1 l2 l3 l4 l5 σ) n (l1, l2, l3, l4, l5, σ)
noncomputable def fX3_nearestOpen (a1 : Int32) (a2 : Int32) (σ : ST) : Option (Int32 × ST) :=
  fX3_nearestOpen_L9 FU a1 a2 (-1) 2000000000 0 σ
set_option maxRecDepth 10000 in
theorem xX3_nearestOpen (a1 : Int32) (a2 : Int32) (σ : ST) : MS wlX yX3_nearestOpen cX3_nearestOpen 6 (some .int) rmX3_nearestOpen emI [.inr (some 2), .inl a1, .inl a2] σ (fX3_nearestOpen a1 a2 σ) := by
  refine MS.of (by decide +kernel) (Nat.le_of_ble_eq_true rfl) ?_
  show AW wlX yX3_nearestOpen cX3_nearestOpen 6 (some .int) rmX3_nearestOpen emI (fX3_nearestOpen a1 a2 σ) 0 [some (.inr (some 2)), some (.inl a1), some (.inl a2), none, none, none] [] σ
  unfold fX3_nearestOpen
  refine aw_iconst (pc := 0) (v := (-1)) dX3_nearestOpen_0 (by decide) ?_
  refine aw_stn (pc := 1) (L' := [some (.inr (some 2)), some (.inl a1), some (.inl a2), some (.inl (-1)), none, none]) dX3_nearestOpen_1 rfl (by decide) rfl ?_
  refine aw_ldc (pc := 2) lcX3_51 dX3_nearestOpen_2 ?_
  refine aw_st (pc := 4) (L' := [some (.inr (some 2)), some (.inl a1), some (.inl a2), some (.inl (-1)), some (.inl 2000000000), none]) dX3_nearestOpen_4 (by decide) rfl ?_
  refine aw_iconst (pc := 6) (v := 0) dX3_nearestOpen_6 (by decide) ?_
  refine aw_st (pc := 7) (L' := [some (.inr (some 2)), some (.inl a1), some (.inl a2), some (.inl (-1)), some (.inl 2000000000), some (.inl 0)]) dX3_nearestOpen_7 (by decide) rfl ?_
  exact aw_wk (wk_same (wk_same (wk_same (wk_same (wk_same (wk_same wk_nil)))))) (xX3_nearestOpen_L9 FU a1 a2 (-1) 2000000000 0 σ)
abbrev rmX3_turnFrom : Room := { frames := 0, cells := 0, slots := 0, locals := 0 }
noncomputable def fX3_turnFrom_J95 (k38 : Int32 → Int32 → Int32 → Int32 → Int32 → Int32 → ST → Option (Unit × ST)) (l2 : Int32) (l3 : Int32) (l4 : Int32) (l5 : Int32) (l6 : Int32) (l7 : Int32) (σ : ST) : Option (Unit × ST) :=
  bindv (l7 + 1) (fun v4 => k38 l2 l3 l4 l5 l6 v4 σ)
set_option maxRecDepth 10000 in
theorem xX3_turnFrom_J95 (k38 : Int32 → Int32 → Int32 → Int32 → Int32 → Int32 → ST → Option (Unit × ST)) (hk38 : ∀ (l2 : Int32) (l3 : Int32) (l4 : Int32) (l5 : Int32) (l6 : Int32) (l7 : Int32) (σ : ST), AW wlX yX3_turnFrom cX3_turnFrom 8 none rmX3_turnFrom emV (k38 l2 l3 l4 l5 l6 l7 σ) 38 [some (.inr (some 2)), none, some (.inl l2), some (.inl l3), some (.inl l4), some (.inl l5), some (.inl l6), some (.inl l7)] [] σ) (l2 : Int32) (l3 : Int32) (l4 : Int32) (l5 : Int32) (l6 : Int32) (l7 : Int32) (σ : ST) : AW wlX yX3_turnFrom cX3_turnFrom 8 none rmX3_turnFrom emV (fX3_turnFrom_J95 k38 l2 l3 l4 l5 l6 l7 σ) 95 [some (.inr (some 2)), none, some (.inl l2), some (.inl l3), some (.inl l4), some (.inl l5), some (.inl l6), some (.inl l7)] [] σ := by
  unfold fX3_turnFrom_J95
  refine aw_iincB (pc := 95) (v := 1) (Lf := fun v4 => [some (.inr (some 2)), none, some (.inl l2), some (.inl l3), some (.inl l4), some (.inl l5), some (.inl l6), some (.inl v4)]) dX3_turnFrom_95 rfl (by decide) (by decide) (fun _ => rfl) (fun v4 => ?_)
  refine aw_goto (pc := 98) (tgt := 38) dX3_turnFrom_98 (by decide) ?_
  exact aw_wk (wk_same (wk_none (wk_same (wk_same (wk_same (wk_same (wk_same (wk_same wk_nil)))))))) (hk38 l2 l3 l4 l5 l6 v4 σ)
noncomputable def fX3_turnFrom_B38 (k38 : Int32 → Int32 → Int32 → Int32 → Int32 → Int32 → ST → Option (Unit × ST)) (l2 : Int32) (l3 : Int32) (l4 : Int32) (l5 : Int32) (l6 : Int32) (l7 : Int32) (σ : ST) : Option (Unit × ST) :=
  if l6 ≤ l7 then (some ((), σ)) else (if ib l7 60 = true then if (σ.1 13 l7.toNatClampNeg) = l4 then (if ((l5 >>> ((l7 / 2) &&& 31)) &&& 1) = 0 then (if ib (l3 + l7) 3600 = true then if (σ.1 15 (l3 + l7).toNatClampNeg) ≤ l2 then (fX3_turnFrom_J95 k38 l2 l3 l4 l5 l6 l7 σ) else (if ib (l3 + l7) 3600 = true then bindv (stI σ 15 (l3 + l7).toNatClampNeg l2) (fun σ5 => fX3_turnFrom_J95 k38 l2 l3 l4 l5 l6 l7 σ5) else none) else none) else (fX3_turnFrom_J95 k38 l2 l3 l4 l5 l6 l7 σ)) else (fX3_turnFrom_J95 k38 l2 l3 l4 l5 l6 l7 σ) else none)
set_option maxRecDepth 10000 in
theorem xX3_turnFrom_B38 (k38 : Int32 → Int32 → Int32 → Int32 → Int32 → Int32 → ST → Option (Unit × ST)) (hk38 : ∀ (l2 : Int32) (l3 : Int32) (l4 : Int32) (l5 : Int32) (l6 : Int32) (l7 : Int32) (σ : ST), AW wlX yX3_turnFrom cX3_turnFrom 8 none rmX3_turnFrom emV (k38 l2 l3 l4 l5 l6 l7 σ) 38 [some (.inr (some 2)), none, some (.inl l2), some (.inl l3), some (.inl l4), some (.inl l5), some (.inl l6), some (.inl l7)] [] σ) (l2 : Int32) (l3 : Int32) (l4 : Int32) (l5 : Int32) (l6 : Int32) (l7 : Int32) (σ : ST) : AW wlX yX3_turnFrom cX3_turnFrom 8 none rmX3_turnFrom emV (fX3_turnFrom_B38 k38 l2 l3 l4 l5 l6 l7 σ) 38 [some (.inr (some 2)), none, some (.inl l2), some (.inl l3), some (.inl l4), some (.inl l5), some (.inl l6), some (.inl l7)] [] σ := by
  unfold fX3_turnFrom_B38
  refine aw_iload (pc := 38) dX3_turnFrom_38 rfl ?_
  refine aw_iload (pc := 40) dX3_turnFrom_40 rfl ?_
  refine aw_icmp_ge (pc := 42) (tgt := 101) dX3_turnFrom_42 (by decide) (fun _ => ?_) (fun _ => ?_)
  · exact aw_ret_v (pc := 101) rfl rfl dX3_turnFrom_101
  refine aw_aload_n (pc := 45) dX3_turnFrom_45 rfl rfl ?_
  refine aw_get (pc := 46) (v := .inr (some 1)) foX3_22 (atX2 _) rfl dX3_turnFrom_46 ?_
  refine aw_get (pc := 49) (v := .inr (some 13)) foX3_73 (atX1 _) rfl dX3_turnFrom_49 ?_
  refine aw_iload (pc := 52) dX3_turnFrom_52 rfl ?_
  refine aw_iald' (pc := 54) (atX13 _) dX3_turnFrom_54 ?_
  refine aw_iload (pc := 55) dX3_turnFrom_55 rfl ?_
  refine aw_icmp_ne (pc := 57) (tgt := 95) dX3_turnFrom_57 (by decide) (fun _ => ?_) (fun _ => ?_)
  · refine aw_iload (pc := 60) dX3_turnFrom_60 rfl ?_
    refine aw_iload (pc := 62) dX3_turnFrom_62 rfl ?_
    refine aw_iconst (pc := 64) (v := 2) dX3_turnFrom_64 (by decide) ?_
    refine aw_idiv (pc := 65) dX3_turnFrom_65 (by decide) ?_
    refine aw_ishr (pc := 66) dX3_turnFrom_66 ?_
    refine aw_iconst (pc := 67) (v := 1) dX3_turnFrom_67 (by decide) ?_
    refine aw_iand (pc := 68) dX3_turnFrom_68 ?_
    refine aw_if_ne (pc := 69) (tgt := 95) dX3_turnFrom_69 (by decide) (fun _ => ?_) (fun _ => ?_)
    · refine aw_iload_n (pc := 72) dX3_turnFrom_72 rfl rfl ?_
      refine aw_aload_n (pc := 73) dX3_turnFrom_73 rfl rfl ?_
      refine aw_get (pc := 74) (v := .inr (some 15)) foX3_9 (atX2 _) rfl dX3_turnFrom_74 ?_
      refine aw_iload_n (pc := 77) dX3_turnFrom_77 rfl rfl ?_
      refine aw_iload (pc := 78) dX3_turnFrom_78 rfl ?_
      refine aw_iadd (pc := 80) dX3_turnFrom_80 ?_
      refine aw_iald' (pc := 81) (atX15 _) dX3_turnFrom_81 ?_
      refine aw_icmp_ge (pc := 82) (tgt := 95) dX3_turnFrom_82 (by decide) (fun _ => ?_) (fun _ => ?_)
      · exact aw_wk (wk_same (wk_none (wk_same (wk_same (wk_same (wk_same (wk_same (wk_same wk_nil)))))))) (xX3_turnFrom_J95 k38 hk38 l2 l3 l4 l5 l6 l7 σ)
      refine aw_aload_n (pc := 85) dX3_turnFrom_85 rfl rfl ?_
      refine aw_get (pc := 86) (v := .inr (some 15)) foX3_9 (atX2 _) rfl dX3_turnFrom_86 ?_
      refine aw_iload_n (pc := 89) dX3_turnFrom_89 rfl rfl ?_
      refine aw_iload (pc := 90) dX3_turnFrom_90 rfl ?_
      refine aw_iadd (pc := 92) dX3_turnFrom_92 ?_
      refine aw_iload_n (pc := 93) dX3_turnFrom_93 rfl rfl ?_
      refine aw_iastB (pc := 94) (atX15 _) (stX15 _ _ _) dX3_turnFrom_94 (fun σ5 => ?_)
      exact aw_wk (wk_same (wk_none (wk_same (wk_same (wk_same (wk_same (wk_same (wk_same wk_nil)))))))) (xX3_turnFrom_J95 k38 hk38 l2 l3 l4 l5 l6 l7 σ5)
    exact aw_wk (wk_same (wk_none (wk_same (wk_same (wk_same (wk_same (wk_same (wk_same wk_nil)))))))) (xX3_turnFrom_J95 k38 hk38 l2 l3 l4 l5 l6 l7 σ)
  exact aw_wk (wk_same (wk_none (wk_same (wk_same (wk_same (wk_same (wk_same (wk_same wk_nil)))))))) (xX3_turnFrom_J95 k38 hk38 l2 l3 l4 l5 l6 l7 σ)
noncomputable def fX3_turnFrom_L38 (n : Nat) (l2 : Int32) (l3 : Int32) (l4 : Int32) (l5 : Int32) (l6 : Int32) (l7 : Int32) (σ : ST) : Option (Unit × ST) := loopN (α := Int32 × Int32 × Int32 × Int32 × Int32 × Int32 × ST) (fun k a => fX3_turnFrom_B38 (fun l2 l3 l4 l5 l6 l7 σ => k (l2, l3, l4, l5, l6, l7, σ)) a.1 a.2.1 a.2.2.1 a.2.2.2.1 a.2.2.2.2.1 a.2.2.2.2.2.1 a.2.2.2.2.2.2) n (l2, l3, l4, l5, l6, l7, σ)
theorem xX3_turnFrom_L38 (n : Nat) (l2 : Int32) (l3 : Int32) (l4 : Int32) (l5 : Int32) (l6 : Int32) (l7 : Int32) (σ : ST) : AW wlX yX3_turnFrom cX3_turnFrom 8 none rmX3_turnFrom emV (fX3_turnFrom_L38 n l2 l3 l4 l5 l6 l7 σ) 38 [some (.inr (some 2)), none, some (.inl l2), some (.inl l3), some (.inl l4), some (.inl l5), some (.inl l6), some (.inl l7)] [] σ :=
  aw_loop (α := Int32 × Int32 × Int32 × Int32 × Int32 × Int32 × ST) (Lf := fun a => [some (.inr (some 2)), none, some (.inl (a.1)), some (.inl (a.2.1)), some (.inl (a.2.2.1)), some (.inl (a.2.2.2.1)), some (.inl (a.2.2.2.2.1)), some (.inl (a.2.2.2.2.2.1))]) (sf := fun a => a.2.2.2.2.2.2) (fun k hk a => by
    obtain ⟨l2, l3, l4, l5, l6, l7, σ⟩ := a
    exact xX3_turnFrom_B38 (fun l2 l3 l4 l5 l6 l7 σ => k (l2, l3, l4, l5, l6, l7, σ)) (fun l2 l3 l4 l5 l6 l7 σ => hk (l2, l3, l4, l5, l6, l7, σ)) l2 l3 l4 l5 l6 l7 σ) n (l2, l3, l4, l5, l6, l7, σ)
noncomputable def fX3_turnFrom (a1 : Int32) (a2 : Int32) (a3 : Int32) (σ : ST) : Option (Unit × ST) :=
  if ib a1 60 = true then bindv (σ.1 14 a1.toNatClampNeg) (fun v1 => if ib (a1 / 2) 30 = true then bindv (σ.1 12 (a1 / 2).toNatClampNeg) (fun v2 => bindv (2 * (σ.1 1 3)) (fun v3 => fX3_turnFrom_L38 FU a2 a3 v1 v2 v3 0 σ)) else none) else none
set_option maxRecDepth 10000 in
theorem xX3_turnFrom (a1 : Int32) (a2 : Int32) (a3 : Int32) (σ : ST) : MS wlX yX3_turnFrom cX3_turnFrom 8 none rmX3_turnFrom emV [.inr (some 2), .inl a1, .inl a2, .inl a3] σ (fX3_turnFrom a1 a2 a3 σ) := by
  refine MS.of (by decide +kernel) (Nat.le_of_ble_eq_true rfl) ?_
  show AW wlX yX3_turnFrom cX3_turnFrom 8 none rmX3_turnFrom emV (fX3_turnFrom a1 a2 a3 σ) 0 [some (.inr (some 2)), some (.inl a1), some (.inl a2), some (.inl a3), none, none, none, none] [] σ
  unfold fX3_turnFrom
  refine aw_aload_n (pc := 0) dX3_turnFrom_0 rfl rfl ?_
  refine aw_get (pc := 1) (v := .inr (some 1)) foX3_22 (atX2 _) rfl dX3_turnFrom_1 ?_
  refine aw_get (pc := 4) (v := .inr (some 14)) foX3_67 (atX1 _) rfl dX3_turnFrom_4 ?_
  refine aw_iload_n (pc := 7) dX3_turnFrom_7 rfl rfl ?_
  refine aw_iald' (pc := 8) (atX14 _) dX3_turnFrom_8 ?_
  refine aw_stB (pc := 9) (Lf := fun v1 => [some (.inr (some 2)), some (.inl a1), some (.inl a2), some (.inl a3), some (.inl v1), none, none, none]) dX3_turnFrom_9 (by decide) (fun _ => rfl) (fun v1 => ?_)
  refine aw_aload_n (pc := 11) dX3_turnFrom_11 rfl rfl ?_
  refine aw_get (pc := 12) (v := .inr (some 1)) foX3_22 (atX2 _) rfl dX3_turnFrom_12 ?_
  refine aw_get (pc := 15) (v := .inr (some 12)) foX3_70 (atX1 _) rfl dX3_turnFrom_15 ?_
  refine aw_iload_n (pc := 18) dX3_turnFrom_18 rfl rfl ?_
  refine aw_iconst (pc := 19) (v := 2) dX3_turnFrom_19 (by decide) ?_
  refine aw_idiv (pc := 20) dX3_turnFrom_20 (by decide) ?_
  refine aw_iald' (pc := 21) (atX12 _) dX3_turnFrom_21 ?_
  refine aw_stB (pc := 22) (Lf := fun v2 => [some (.inr (some 2)), some (.inl a1), some (.inl a2), some (.inl a3), some (.inl v1), some (.inl v2), none, none]) dX3_turnFrom_22 (by decide) (fun _ => rfl) (fun v2 => ?_)
  refine aw_iconst (pc := 24) (v := 2) dX3_turnFrom_24 (by decide) ?_
  refine aw_aload_n (pc := 25) dX3_turnFrom_25 rfl rfl ?_
  refine aw_get (pc := 26) (v := .inr (some 1)) foX3_22 (atX2 _) rfl dX3_turnFrom_26 ?_
  refine aw_get (pc := 29) (v := .inl (σ.1 1 3)) foX3_56 (atX1 _) rfl dX3_turnFrom_29 ?_
  refine aw_imul (pc := 32) dX3_turnFrom_32 ?_
  refine aw_stB (pc := 33) (Lf := fun v3 => [some (.inr (some 2)), some (.inl a1), some (.inl a2), some (.inl a3), some (.inl v1), some (.inl v2), some (.inl v3), none]) dX3_turnFrom_33 (by decide) (fun _ => rfl) (fun v3 => ?_)
  refine aw_iconst (pc := 35) (v := 0) dX3_turnFrom_35 (by decide) ?_
  refine aw_st (pc := 36) (L' := [some (.inr (some 2)), some (.inl a1), some (.inl a2), some (.inl a3), some (.inl v1), some (.inl v2), some (.inl v3), some (.inl 0)]) dX3_turnFrom_36 (by decide) rfl ?_
  exact aw_wk (wk_same (wk_none (wk_same (wk_same (wk_same (wk_same (wk_same (wk_same wk_nil)))))))) (xX3_turnFrom_L38 FU a2 a3 v1 v2 v3 0 σ)
abbrev rmX3_know : Room := { frames := 1, cells := 0, slots := 0, locals := 27 }
noncomputable def fX3_know_B76 (k76 : Int32 → Int32 → Int32 → ST → Option (Unit × ST)) (l2 : Int32) (l3 : Int32) (l4 : Int32) (σ : ST) : Option (Unit × ST) :=
  if l3 ≤ l4 then (some ((), σ)) else (cb (fX3_nearestOpen l2 l3 σ) (fun r6 σ7 => if r6 = (-1) then (some ((), σ7)) else (if ib r6 60 = true then bindv (stI σ7 17 r6.toNatClampNeg (vp_nar .boolean 1)) (fun σ8 => if ib (l2 + r6) 3600 = true then cb (fX2_weightOfPart (r6 / 2) 4 σ8) (fun r9 σ10 => cb (fX3_turnFrom r6 ((σ8.1 15 (l2 + r6).toNatClampNeg) + r9) l2 σ10) (fun r11 σ12 => bindv (l4 + 1) (fun v13 => k76 l2 l3 v13 σ12))) else none) else none)))
set_option maxRecDepth 10000 in
theorem xX3_know_B76 (k76 : Int32 → Int32 → Int32 → ST → Option (Unit × ST)) (hk76 : ∀ (l2 : Int32) (l3 : Int32) (l4 : Int32) (σ : ST), AW wlX yX3_know cX3_know 6 none rmX3_know emV (k76 l2 l3 l4 σ) 76 [some (.inr (some 2)), none, some (.inl l2), some (.inl l3), some (.inl l4), none] [] σ) (l2 : Int32) (l3 : Int32) (l4 : Int32) (σ : ST) : AW wlX yX3_know cX3_know 6 none rmX3_know emV (fX3_know_B76 k76 l2 l3 l4 σ) 76 [some (.inr (some 2)), none, some (.inl l2), some (.inl l3), some (.inl l4), none] [] σ := by
  unfold fX3_know_B76
  refine aw_iload (pc := 76) dX3_know_76 rfl ?_
  refine aw_iload_n (pc := 78) dX3_know_78 rfl rfl ?_
  refine aw_icmp_ge (pc := 79) (tgt := 142) dX3_know_79 (by decide) (fun _ => ?_) (fun _ => ?_)
  · exact aw_ret_v (pc := 142) rfl rfl dX3_know_142
  refine aw_aload_n (pc := 82) dX3_know_82 rfl rfl ?_
  refine aw_iload_n (pc := 83) dX3_know_83 rfl rfl ?_
  refine aw_iload_n (pc := 84) dX3_know_84 rfl rfl ?_
  refine aw_cVI (pc := 85) (st := []) (xX3_nearestOpen l2 l3 σ) (atX2 _) rfl ckX3_64 ⟨rfl, rfl, by decide, by decide⟩ (Nat.le_of_ble_eq_true rfl) dX3_know_85 rfl (fun r6 σ7 => ?_)
  refine aw_st (pc := 88) (L' := [some (.inr (some 2)), none, some (.inl l2), some (.inl l3), some (.inl l4), some (.inl r6)]) dX3_know_88 (by decide) rfl ?_
  refine aw_iload (pc := 90) dX3_know_90 rfl ?_
  refine aw_iconst (pc := 92) (v := (-1)) dX3_know_92 (by decide) ?_
  refine aw_icmp_ne (pc := 93) (tgt := 99) dX3_know_93 (by decide) (fun _ => ?_) (fun _ => ?_)
  · refine aw_goto (pc := 96) (tgt := 142) dX3_know_96 (by decide) ?_
    exact aw_ret_v (pc := 142) rfl rfl dX3_know_142
  refine aw_aload_n (pc := 99) dX3_know_99 rfl rfl ?_
  refine aw_get (pc := 100) (v := .inr (some 17)) foX3_19 (atX2 _) rfl dX3_know_100 ?_
  refine aw_iload (pc := 103) dX3_know_103 rfl ?_
  refine aw_iconst (pc := 105) (v := 1) dX3_know_105 (by decide) ?_
  refine aw_bastB (pc := 106) (atX17 _) (stX17 _ _ _) dX3_know_106 (fun σ8 => ?_)
  refine aw_aload_n (pc := 107) dX3_know_107 rfl rfl ?_
  refine aw_iload (pc := 108) dX3_know_108 rfl ?_
  refine aw_aload_n (pc := 110) dX3_know_110 rfl rfl ?_
  refine aw_get (pc := 111) (v := .inr (some 15)) foX3_9 (atX2 _) rfl dX3_know_111 ?_
  refine aw_iload_n (pc := 114) dX3_know_114 rfl rfl ?_
  refine aw_iload (pc := 115) dX3_know_115 rfl ?_
  refine aw_iadd (pc := 117) dX3_know_117 ?_
  refine aw_iald' (pc := 118) (atX15 _) dX3_know_118 ?_
  refine aw_aload_n (pc := 119) dX3_know_119 rfl rfl ?_
  refine aw_get (pc := 120) (v := .inr (some 1)) foX3_22 (atX2 _) rfl dX3_know_120 ?_
  refine aw_iload (pc := 123) dX3_know_123 rfl ?_
  refine aw_iconst (pc := 125) (v := 2) dX3_know_125 (by decide) ?_
  refine aw_idiv (pc := 126) dX3_know_126 (by decide) ?_
  refine aw_iconst (pc := 127) (v := 4) dX3_know_127 (by decide) ?_
  refine aw_cVI (pc := 128) (st := [.inl (σ8.1 15 (l2 + r6).toNatClampNeg), .inl r6, .inr (some 2)]) (xX2_weightOfPart (r6 / 2) 4 σ8) (atX1 _) rfl ckX3_34 ⟨rfl, rfl, by decide, by decide⟩ (Nat.le_of_ble_eq_true rfl) dX3_know_128 rfl (fun r9 σ10 => ?_)
  refine aw_iadd (pc := 131) dX3_know_131 ?_
  refine aw_iload_n (pc := 132) dX3_know_132 rfl rfl ?_
  refine aw_cVV (pc := 133) (st := []) (xX3_turnFrom r6 ((σ8.1 15 (l2 + r6).toNatClampNeg) + r9) l2 σ10) (atX2 _) rfl ckX3_60 ⟨rfl, rfl, by decide, by decide⟩ (Nat.le_of_ble_eq_true rfl) dX3_know_133 rfl (fun r11 σ12 => ?_)
  refine aw_iincB (pc := 136) (v := 1) (Lf := fun v13 => [some (.inr (some 2)), none, some (.inl l2), some (.inl l3), some (.inl v13), some (.inl r6)]) dX3_know_136 rfl (by decide) (by decide) (fun _ => rfl) (fun v13 => ?_)
  refine aw_goto (pc := 139) (tgt := 76) dX3_know_139 (by decide) ?_
  exact aw_wk (wk_same (wk_none (wk_same (wk_same (wk_same (wk_none wk_nil)))))) (hk76 l2 l3 v13 σ12)
noncomputable def fX3_know_L76 (n : Nat) (l2 : Int32) (l3 : Int32) (l4 : Int32) (σ : ST) : Option (Unit × ST) := loopN (α := Int32 × Int32 × Int32 × ST) (fun k a => fX3_know_B76 (fun l2 l3 l4 σ => k (l2, l3, l4, σ)) a.1 a.2.1 a.2.2.1 a.2.2.2) n (l2, l3, l4, σ)
theorem xX3_know_L76 (n : Nat) (l2 : Int32) (l3 : Int32) (l4 : Int32) (σ : ST) : AW wlX yX3_know cX3_know 6 none rmX3_know emV (fX3_know_L76 n l2 l3 l4 σ) 76 [some (.inr (some 2)), none, some (.inl l2), some (.inl l3), some (.inl l4), none] [] σ :=
  aw_loop (α := Int32 × Int32 × Int32 × ST) (Lf := fun a => [some (.inr (some 2)), none, some (.inl (a.1)), some (.inl (a.2.1)), some (.inl (a.2.2.1)), none]) (sf := fun a => a.2.2.2) (fun k hk a => by
    obtain ⟨l2, l3, l4, σ⟩ := a
    exact xX3_know_B76 (fun l2 l3 l4 σ => k (l2, l3, l4, σ)) (fun l2 l3 l4 σ => hk (l2, l3, l4, σ)) l2 l3 l4 σ) n (l2, l3, l4, σ)
noncomputable def fX3_know_B35 (k35 : Int32 → Int32 → Int32 → Int32 → ST → Option (Unit × ST)) (l1 : Int32) (l2 : Int32) (l3 : Int32) (l4 : Int32) (σ : ST) : Option (Unit × ST) :=
  if l3 ≤ l4 then (cb (fX3_turnFrom l1 0 l2 σ) (fun r4 σ5 => fX3_know_L76 FU l2 l3 0 σ5)) else (if ib (l2 + l4) 3600 = true then bindv (stI σ 15 (l2 + l4).toNatClampNeg 2000000000) (fun σ14 => if ib l4 60 = true then bindv (stI σ14 17 l4.toNatClampNeg (vp_nar .boolean 0)) (fun σ15 => bindv (l4 + 1) (fun v16 => k35 l1 l2 l3 v16 σ15)) else none) else none)
set_option maxRecDepth 10000 in
theorem xX3_know_B35 (k35 : Int32 → Int32 → Int32 → Int32 → ST → Option (Unit × ST)) (hk35 : ∀ (l1 : Int32) (l2 : Int32) (l3 : Int32) (l4 : Int32) (σ : ST), AW wlX yX3_know cX3_know 6 none rmX3_know emV (k35 l1 l2 l3 l4 σ) 35 [some (.inr (some 2)), some (.inl l1), some (.inl l2), some (.inl l3), some (.inl l4), none] [] σ) (l1 : Int32) (l2 : Int32) (l3 : Int32) (l4 : Int32) (σ : ST) : AW wlX yX3_know cX3_know 6 none rmX3_know emV (fX3_know_B35 k35 l1 l2 l3 l4 σ) 35 [some (.inr (some 2)), some (.inl l1), some (.inl l2), some (.inl l3), some (.inl l4), none] [] σ := by
  unfold fX3_know_B35
  refine aw_iload (pc := 35) dX3_know_35 rfl ?_
  refine aw_iload_n (pc := 37) dX3_know_37 rfl rfl ?_
  refine aw_icmp_ge (pc := 38) (tgt := 66) dX3_know_38 (by decide) (fun _ => ?_) (fun _ => ?_)
  · refine aw_aload_n (pc := 66) dX3_know_66 rfl rfl ?_
    refine aw_iload_n (pc := 67) dX3_know_67 rfl rfl ?_
    refine aw_iconst (pc := 68) (v := 0) dX3_know_68 (by decide) ?_
    refine aw_iload_n (pc := 69) dX3_know_69 rfl rfl ?_
    refine aw_cVV (pc := 70) (st := []) (xX3_turnFrom l1 0 l2 σ) (atX2 _) rfl ckX3_60 ⟨rfl, rfl, by decide, by decide⟩ (Nat.le_of_ble_eq_true rfl) dX3_know_70 rfl (fun r4 σ5 => ?_)
    refine aw_iconst (pc := 73) (v := 0) dX3_know_73 (by decide) ?_
    refine aw_st (pc := 74) (L' := [some (.inr (some 2)), some (.inl l1), some (.inl l2), some (.inl l3), some (.inl 0), none]) dX3_know_74 (by decide) rfl ?_
    exact aw_wk (wk_same (wk_none (wk_same (wk_same (wk_same (wk_none wk_nil)))))) (xX3_know_L76 FU l2 l3 0 σ5)
  refine aw_aload_n (pc := 41) dX3_know_41 rfl rfl ?_
  refine aw_get (pc := 42) (v := .inr (some 15)) foX3_9 (atX2 _) rfl dX3_know_42 ?_
  refine aw_iload_n (pc := 45) dX3_know_45 rfl rfl ?_
  refine aw_iload (pc := 46) dX3_know_46 rfl ?_
  refine aw_iadd (pc := 48) dX3_know_48 ?_
  refine aw_ldc (pc := 49) lcX3_51 dX3_know_49 ?_
  refine aw_iastB (pc := 51) (atX15 _) (stX15 _ _ _) dX3_know_51 (fun σ14 => ?_)
  refine aw_aload_n (pc := 52) dX3_know_52 rfl rfl ?_
  refine aw_get (pc := 53) (v := .inr (some 17)) foX3_19 (atX2 _) rfl dX3_know_53 ?_
  refine aw_iload (pc := 56) dX3_know_56 rfl ?_
  refine aw_iconst (pc := 58) (v := 0) dX3_know_58 (by decide) ?_
  refine aw_bastB (pc := 59) (atX17 _) (stX17 _ _ _) dX3_know_59 (fun σ15 => ?_)
  refine aw_iincB (pc := 60) (v := 1) (Lf := fun v16 => [some (.inr (some 2)), some (.inl l1), some (.inl l2), some (.inl l3), some (.inl v16), none]) dX3_know_60 rfl (by decide) (by decide) (fun _ => rfl) (fun v16 => ?_)
  refine aw_goto (pc := 63) (tgt := 35) dX3_know_63 (by decide) ?_
  exact aw_wk (wk_same (wk_same (wk_same (wk_same (wk_same (wk_none wk_nil)))))) (hk35 l1 l2 l3 v16 σ15)
noncomputable def fX3_know_L35 (n : Nat) (l1 : Int32) (l2 : Int32) (l3 : Int32) (l4 : Int32) (σ : ST) : Option (Unit × ST) := loopN (α := Int32 × Int32 × Int32 × Int32 × ST) (fun k a => fX3_know_B35 (fun l1 l2 l3 l4 σ => k (l1, l2, l3, l4, σ)) a.1 a.2.1 a.2.2.1 a.2.2.2.1 a.2.2.2.2) n (l1, l2, l3, l4, σ)
theorem xX3_know_L35 (n : Nat) (l1 : Int32) (l2 : Int32) (l3 : Int32) (l4 : Int32) (σ : ST) : AW wlX yX3_know cX3_know 6 none rmX3_know emV (fX3_know_L35 n l1 l2 l3 l4 σ) 35 [some (.inr (some 2)), some (.inl l1), some (.inl l2), some (.inl l3), some (.inl l4), none] [] σ :=
  aw_loop (α := Int32 × Int32 × Int32 × Int32 × ST) (Lf := fun a => [some (.inr (some 2)), some (.inl (a.1)), some (.inl (a.2.1)), some (.inl (a.2.2.1)), some (.inl (a.2.2.2.1)), none]) (sf := fun a => a.2.2.2.2) (fun k hk a => by
    obtain ⟨l1, l2, l3, l4, σ⟩ := a
    exact xX3_know_B35 (fun l1 l2 l3 l4 σ => k (l1, l2, l3, l4, σ)) (fun l1 l2 l3 l4 σ => hk (l1, l2, l3, l4, σ)) l1 l2 l3 l4 σ) n (l1, l2, l3, l4, σ)
noncomputable def fX3_know (a1 : Int32) (σ : ST) : Option (Unit × ST) :=
  if ib a1 60 = true then if (σ.1 16 a1.toNatClampNeg) = 0 then (if ib a1 60 = true then bindv (stI σ 16 a1.toNatClampNeg (vp_nar .boolean 1)) (fun σ1 => bindv (a1 * 60) (fun v2 => bindv (2 * (σ1.1 1 3)) (fun v3 => fX3_know_L35 FU a1 v2 v3 0 σ1))) else none) else (some ((), σ)) else none
set_option maxRecDepth 10000 in
theorem xX3_know (a1 : Int32) (σ : ST) : MS wlX yX3_know cX3_know 6 none rmX3_know emV [.inr (some 2), .inl a1] σ (fX3_know a1 σ) := by
  refine MS.of (by decide +kernel) (Nat.le_of_ble_eq_true rfl) ?_
  show AW wlX yX3_know cX3_know 6 none rmX3_know emV (fX3_know a1 σ) 0 [some (.inr (some 2)), some (.inl a1), none, none, none, none] [] σ
  unfold fX3_know
  refine aw_aload_n (pc := 0) dX3_know_0 rfl rfl ?_
  refine aw_get (pc := 1) (v := .inr (some 16)) foX3_15 (atX2 _) rfl dX3_know_1 ?_
  refine aw_iload_n (pc := 4) dX3_know_4 rfl rfl ?_
  refine aw_bald' (pc := 5) (atX16 _) dX3_know_5 ?_
  refine aw_if_eq (pc := 6) (tgt := 10) dX3_know_6 (by decide) (fun _ => ?_) (fun _ => ?_)
  · refine aw_aload_n (pc := 10) dX3_know_10 rfl rfl ?_
    refine aw_get (pc := 11) (v := .inr (some 16)) foX3_15 (atX2 _) rfl dX3_know_11 ?_
    refine aw_iload_n (pc := 14) dX3_know_14 rfl rfl ?_
    refine aw_iconst (pc := 15) (v := 1) dX3_know_15 (by decide) ?_
    refine aw_bastB (pc := 16) (atX16 _) (stX16 _ _ _) dX3_know_16 (fun σ1 => ?_)
    refine aw_iload_n (pc := 17) dX3_know_17 rfl rfl ?_
    refine aw_bipush (pc := 18) (v := 60) dX3_know_18 (by decide) ?_
    refine aw_imul (pc := 20) dX3_know_20 ?_
    refine aw_stnB (pc := 21) (Lf := fun v2 => [some (.inr (some 2)), some (.inl a1), some (.inl v2), none, none, none]) dX3_know_21 rfl (by decide) (fun _ => rfl) (fun v2 => ?_)
    refine aw_iconst (pc := 22) (v := 2) dX3_know_22 (by decide) ?_
    refine aw_aload_n (pc := 23) dX3_know_23 rfl rfl ?_
    refine aw_get (pc := 24) (v := .inr (some 1)) foX3_22 (atX2 _) rfl dX3_know_24 ?_
    refine aw_get (pc := 27) (v := .inl (σ1.1 1 3)) foX3_56 (atX1 _) rfl dX3_know_27 ?_
    refine aw_imul (pc := 30) dX3_know_30 ?_
    refine aw_stnB (pc := 31) (Lf := fun v3 => [some (.inr (some 2)), some (.inl a1), some (.inl v2), some (.inl v3), none, none]) dX3_know_31 rfl (by decide) (fun _ => rfl) (fun v3 => ?_)
    refine aw_iconst (pc := 32) (v := 0) dX3_know_32 (by decide) ?_
    refine aw_st (pc := 33) (L' := [some (.inr (some 2)), some (.inl a1), some (.inl v2), some (.inl v3), some (.inl 0), none]) dX3_know_33 (by decide) rfl ?_
    exact aw_wk (wk_same (wk_same (wk_same (wk_same (wk_same (wk_none wk_nil)))))) (xX3_know_L35 FU a1 v2 v3 0 σ1)
  exact aw_ret_v (pc := 9) rfl rfl dX3_know_9
abbrev rmX3_least : Room := { frames := 2, cells := 0, slots := 0, locals := 52 }
noncomputable def fX3_least_J112 (l5 : Int32) (σ : ST) : Option (Int32 × ST) :=
  some (l5, σ)
set_option maxRecDepth 10000 in
theorem xX3_least_J112 (l5 : Int32) (σ : ST) : AW wlX yX3_least cX3_least 6 (some .int) rmX3_least emI (fX3_least_J112 l5 σ) 112 [none, none, none, none, none, some (.inl l5)] [] σ := by
  unfold fX3_least_J112
  refine aw_iload (pc := 112) dX3_least_112 rfl ?_
  exact aw_ret_i (pc := 114) rfl rfl rfl dX3_least_114
noncomputable def fX3_least_J87 (l2 : Int32) (l3 : Int32) (l4 : Int32) (l5 : Int32) (σ : ST) : Option (Int32 × ST) :=
  cb (fX2_weightOfPart l3 l4 σ) (fun r14 σ15 => cb (fX3_throughTurns (2 * l3) r14 l2 σ15) (fun r16 σ17 => bindv (if r16 < l5 then r16 else l5) (fun v18 => fX3_least_J112 v18 σ17)))
set_option maxRecDepth 10000 in
theorem xX3_least_J87 (l2 : Int32) (l3 : Int32) (l4 : Int32) (l5 : Int32) (σ : ST) : AW wlX yX3_least cX3_least 6 (some .int) rmX3_least emI (fX3_least_J87 l2 l3 l4 l5 σ) 87 [some (.inr (some 2)), none, some (.inl l2), some (.inl l3), some (.inl l4), some (.inl l5)] [] σ := by
  unfold fX3_least_J87
  refine aw_iload (pc := 87) dX3_least_87 rfl ?_
  refine aw_aload_n (pc := 89) dX3_least_89 rfl rfl ?_
  refine aw_iconst (pc := 90) (v := 2) dX3_least_90 (by decide) ?_
  refine aw_iload_n (pc := 91) dX3_least_91 rfl rfl ?_
  refine aw_imul (pc := 92) dX3_least_92 ?_
  refine aw_aload_n (pc := 93) dX3_least_93 rfl rfl ?_
  refine aw_get (pc := 94) (v := .inr (some 1)) foX3_22 (atX2 _) rfl dX3_least_94 ?_
  refine aw_iload_n (pc := 97) dX3_least_97 rfl rfl ?_
  refine aw_iload (pc := 98) dX3_least_98 rfl ?_
  refine aw_cVI (pc := 100) (st := [.inl (2 * l3), .inr (some 2), .inl l5]) (xX2_weightOfPart l3 l4 σ) (atX1 _) rfl ckX3_34 ⟨rfl, rfl, by decide, by decide⟩ (Nat.le_of_ble_eq_true rfl) dX3_least_100 rfl (fun r14 σ15 => ?_)
  refine aw_iload_n (pc := 103) dX3_least_103 rfl rfl ?_
  refine aw_cVI (pc := 104) (st := [.inl l5]) (xX3_throughTurns (2 * l3) r14 l2 σ15) (atX2 _) rfl ckX3_39 ⟨rfl, rfl, by decide, by decide⟩ (Nat.le_of_ble_eq_true rfl) dX3_least_104 rfl (fun r16 σ17 => ?_)
  refine aw_mmin (pc := 107) ckX3_43 mj_min.1 mj_ini mj_min.2 (by decide) (Nat.le_of_ble_eq_true rfl) dX3_least_107 ?_
  refine aw_stB (pc := 110) (Lf := fun v18 => [some (.inr (some 2)), none, some (.inl l2), some (.inl l3), some (.inl l4), some (.inl v18)]) dX3_least_110 (by decide) (fun _ => rfl) (fun v18 => ?_)
  exact aw_wk (wk_none (wk_none (wk_none (wk_none (wk_none (wk_same wk_nil)))))) (xX3_least_J112 v18 σ17)
noncomputable def fX3_least (a1 : Int32) (a2 : Int32) (σ : ST) : Option (Int32 × ST) :=
  if a1 = a2 then (some (0, σ)) else (bindv (a1 / 5) (fun v1 => bindv (a1 - a1 / 5 * 5) (fun v2 => cb (fX3_know (2 * v1) σ) (fun r3 σ4 => cb (fX3_know ((2 * v1) + 1) σ4) (fun r5 σ6 => cb (fX3_alongOneRoad a1 a2 σ6) (fun r7 σ8 => cb (fX2_weightOfPart v1 (4 - v2) σ8) (fun r9 σ10 => cb (fX3_throughTurns ((2 * v1) + 1) r9 a2 σ10) (fun r11 σ12 => bindv (if r11 < r7 then r11 else r7) (fun v13 => if ib v1 30 = true then if (σ12.1 10 v1.toNatClampNeg) = 1 then (if v2 = 0 then (fX3_least_J87 a2 v1 v2 v13 σ12) else (fX3_least_J112 v13 σ12)) else (fX3_least_J87 a2 v1 v2 v13 σ12) else none)))))))))
set_option maxRecDepth 10000 in
theorem xX3_least (a1 : Int32) (a2 : Int32) (σ : ST) : MS wlX yX3_least cX3_least 6 (some .int) rmX3_least emI [.inr (some 2), .inl a1, .inl a2] σ (fX3_least a1 a2 σ) := by
  refine MS.of (by decide +kernel) (Nat.le_of_ble_eq_true rfl) ?_
  show AW wlX yX3_least cX3_least 6 (some .int) rmX3_least emI (fX3_least a1 a2 σ) 0 [some (.inr (some 2)), some (.inl a1), some (.inl a2), none, none, none] [] σ
  unfold fX3_least
  refine aw_iload_n (pc := 0) dX3_least_0 rfl rfl ?_
  refine aw_iload_n (pc := 1) dX3_least_1 rfl rfl ?_
  refine aw_icmp_ne (pc := 2) (tgt := 7) dX3_least_2 (by decide) (fun _ => ?_) (fun _ => ?_)
  · refine aw_iconst (pc := 5) (v := 0) dX3_least_5 (by decide) ?_
    exact aw_ret_i (pc := 6) rfl rfl rfl dX3_least_6
  refine aw_iload_n (pc := 7) dX3_least_7 rfl rfl ?_
  refine aw_iconst (pc := 8) (v := 5) dX3_least_8 (by decide) ?_
  refine aw_idiv (pc := 9) dX3_least_9 (by decide) ?_
  refine aw_stnB (pc := 10) (Lf := fun v1 => [some (.inr (some 2)), some (.inl a1), some (.inl a2), some (.inl v1), none, none]) dX3_least_10 rfl (by decide) (fun _ => rfl) (fun v1 => ?_)
  refine aw_iload_n (pc := 11) dX3_least_11 rfl rfl ?_
  refine aw_iconst (pc := 12) (v := 5) dX3_least_12 (by decide) ?_
  refine aw_irem (pc := 13) dX3_least_13 (by decide) ?_
  refine aw_stB (pc := 14) (Lf := fun v2 => [some (.inr (some 2)), some (.inl a1), some (.inl a2), some (.inl v1), some (.inl v2), none]) dX3_least_14 (by decide) (fun _ => rfl) (fun v2 => ?_)
  refine aw_aload_n (pc := 16) dX3_least_16 rfl rfl ?_
  refine aw_iconst (pc := 17) (v := 2) dX3_least_17 (by decide) ?_
  refine aw_iload_n (pc := 18) dX3_least_18 rfl rfl ?_
  refine aw_imul (pc := 19) dX3_least_19 ?_
  refine aw_cVV (pc := 20) (st := []) (xX3_know (2 * v1) σ) (atX2 _) rfl ckX3_26 ⟨rfl, rfl, by decide, by decide⟩ (Nat.le_of_ble_eq_true rfl) dX3_least_20 rfl (fun r3 σ4 => ?_)
  refine aw_aload_n (pc := 23) dX3_least_23 rfl rfl ?_
  refine aw_iconst (pc := 24) (v := 2) dX3_least_24 (by decide) ?_
  refine aw_iload_n (pc := 25) dX3_least_25 rfl rfl ?_
  refine aw_imul (pc := 26) dX3_least_26 ?_
  refine aw_iconst (pc := 27) (v := 1) dX3_least_27 (by decide) ?_
  refine aw_iadd (pc := 28) dX3_least_28 ?_
  refine aw_cVV (pc := 29) (st := []) (xX3_know ((2 * v1) + 1) σ4) (atX2 _) rfl ckX3_26 ⟨rfl, rfl, by decide, by decide⟩ (Nat.le_of_ble_eq_true rfl) dX3_least_29 rfl (fun r5 σ6 => ?_)
  refine aw_aload_n (pc := 32) dX3_least_32 rfl rfl ?_
  refine aw_iload_n (pc := 33) dX3_least_33 rfl rfl ?_
  refine aw_iload_n (pc := 34) dX3_least_34 rfl rfl ?_
  refine aw_cVI (pc := 35) (st := []) (xX3_alongOneRoad a1 a2 σ6) (atX2 _) rfl ckX3_30 ⟨rfl, rfl, by decide, by decide⟩ (Nat.le_of_ble_eq_true rfl) dX3_least_35 rfl (fun r7 σ8 => ?_)
  refine aw_st (pc := 38) (L' := [some (.inr (some 2)), some (.inl a1), some (.inl a2), some (.inl v1), some (.inl v2), some (.inl r7)]) dX3_least_38 (by decide) rfl ?_
  refine aw_iload (pc := 40) dX3_least_40 rfl ?_
  refine aw_aload_n (pc := 42) dX3_least_42 rfl rfl ?_
  refine aw_iconst (pc := 43) (v := 2) dX3_least_43 (by decide) ?_
  refine aw_iload_n (pc := 44) dX3_least_44 rfl rfl ?_
  refine aw_imul (pc := 45) dX3_least_45 ?_
  refine aw_iconst (pc := 46) (v := 1) dX3_least_46 (by decide) ?_
  refine aw_iadd (pc := 47) dX3_least_47 ?_
  refine aw_aload_n (pc := 48) dX3_least_48 rfl rfl ?_
  refine aw_get (pc := 49) (v := .inr (some 1)) foX3_22 (atX2 _) rfl dX3_least_49 ?_
  refine aw_iload_n (pc := 52) dX3_least_52 rfl rfl ?_
  refine aw_iconst (pc := 53) (v := 4) dX3_least_53 (by decide) ?_
  refine aw_iload (pc := 54) dX3_least_54 rfl ?_
  refine aw_isub (pc := 56) dX3_least_56 ?_
  refine aw_cVI (pc := 57) (st := [.inl ((2 * v1) + 1), .inr (some 2), .inl r7]) (xX2_weightOfPart v1 (4 - v2) σ8) (atX1 _) rfl ckX3_34 ⟨rfl, rfl, by decide, by decide⟩ (Nat.le_of_ble_eq_true rfl) dX3_least_57 rfl (fun r9 σ10 => ?_)
  refine aw_iload_n (pc := 60) dX3_least_60 rfl rfl ?_
  refine aw_cVI (pc := 61) (st := [.inl r7]) (xX3_throughTurns ((2 * v1) + 1) r9 a2 σ10) (atX2 _) rfl ckX3_39 ⟨rfl, rfl, by decide, by decide⟩ (Nat.le_of_ble_eq_true rfl) dX3_least_61 rfl (fun r11 σ12 => ?_)
  refine aw_mmin (pc := 64) ckX3_43 mj_min.1 mj_ini mj_min.2 (by decide) (Nat.le_of_ble_eq_true rfl) dX3_least_64 ?_
  refine aw_stB (pc := 67) (Lf := fun v13 => [some (.inr (some 2)), some (.inl a1), some (.inl a2), some (.inl v1), some (.inl v2), some (.inl v13)]) dX3_least_67 (by decide) (fun _ => rfl) (fun v13 => ?_)
  refine aw_aload_n (pc := 69) dX3_least_69 rfl rfl ?_
  refine aw_get (pc := 70) (v := .inr (some 1)) foX3_22 (atX2 _) rfl dX3_least_70 ?_
  refine aw_get (pc := 73) (v := .inr (some 10)) foX3_48 (atX1 _) rfl dX3_least_73 ?_
  refine aw_iload_n (pc := 76) dX3_least_76 rfl rfl ?_
  refine aw_iald' (pc := 77) (atX10 _) dX3_least_77 ?_
  refine aw_iconst (pc := 78) (v := 1) dX3_least_78 (by decide) ?_
  refine aw_icmp_ne (pc := 79) (tgt := 87) dX3_least_79 (by decide) (fun _ => ?_) (fun _ => ?_)
  · refine aw_iload (pc := 82) dX3_least_82 rfl ?_
    refine aw_if_ne (pc := 84) (tgt := 112) dX3_least_84 (by decide) (fun _ => ?_) (fun _ => ?_)
    · exact aw_wk (wk_same (wk_none (wk_same (wk_same (wk_same (wk_same wk_nil)))))) (xX3_least_J87 a2 v1 v2 v13 σ12)
    exact aw_wk (wk_none (wk_none (wk_none (wk_none (wk_none (wk_same wk_nil)))))) (xX3_least_J112 v13 σ12)
  exact aw_wk (wk_same (wk_none (wk_same (wk_same (wk_same (wk_same wk_nil)))))) (xX3_least_J87 a2 v1 v2 v13 σ12)
abbrev rmX2_hasKnot : Room := { frames := 0, cells := 0, slots := 0, locals := 0 }
noncomputable def fX2_hasKnot (a1 : Int32) (σ : ST) : Option (Int32 × ST) :=
  if a1 < 0 then (some (0, σ)) else (if (σ.1 1 0) ≤ a1 then (some (0, σ)) else (some (1, σ)))
set_option maxRecDepth 10000 in
theorem xX2_hasKnot (a1 : Int32) (σ : ST) : MS wlX yX2_hasKnot cX2_hasKnot 2 (some .boolean) rmX2_hasKnot emI [.inr (some 1), .inl a1] σ (fX2_hasKnot a1 σ) := by
  refine MS.of (by decide +kernel) (Nat.le_of_ble_eq_true rfl) ?_
  show AW wlX yX2_hasKnot cX2_hasKnot 2 (some .boolean) rmX2_hasKnot emI (fX2_hasKnot a1 σ) 0 [some (.inr (some 1)), some (.inl a1)] [] σ
  unfold fX2_hasKnot
  refine aw_iload_n (pc := 0) dX2_hasKnot_0 rfl rfl ?_
  refine aw_if_lt (pc := 1) (tgt := 16) dX2_hasKnot_1 (by decide) (fun _ => ?_) (fun _ => ?_)
  · refine aw_iconst (pc := 16) (v := 0) dX2_hasKnot_16 (by decide) ?_
    exact aw_ret_i (pc := 17) rfl rfl rfl dX2_hasKnot_17
  refine aw_iload_n (pc := 4) dX2_hasKnot_4 rfl rfl ?_
  refine aw_aload_n (pc := 5) dX2_hasKnot_5 rfl rfl ?_
  refine aw_get (pc := 6) (v := .inl (σ.1 1 0)) foX2_36 (atX1 _) rfl dX2_hasKnot_6 ?_
  refine aw_icmp_ge (pc := 9) (tgt := 16) dX2_hasKnot_9 (by decide) (fun _ => ?_) (fun _ => ?_)
  · refine aw_iconst (pc := 16) (v := 0) dX2_hasKnot_16 (by decide) ?_
    exact aw_ret_i (pc := 17) rfl rfl rfl dX2_hasKnot_17
  refine aw_iconst (pc := 12) (v := 1) dX2_hasKnot_12 (by decide) ?_
  refine aw_goto (pc := 13) (tgt := 17) dX2_hasKnot_13 (by decide) ?_
  exact aw_ret_i (pc := 17) rfl rfl rfl dX2_hasKnot_17
abbrev rmX2_hasRoad : Room := { frames := 0, cells := 0, slots := 0, locals := 0 }
noncomputable def fX2_hasRoad (a1 : Int32) (σ : ST) : Option (Int32 × ST) :=
  if a1 < 0 then (some (0, σ)) else (if (σ.1 1 3) ≤ a1 then (some (0, σ)) else (some (1, σ)))
set_option maxRecDepth 10000 in
theorem xX2_hasRoad (a1 : Int32) (σ : ST) : MS wlX yX2_hasRoad cX2_hasRoad 2 (some .boolean) rmX2_hasRoad emI [.inr (some 1), .inl a1] σ (fX2_hasRoad a1 σ) := by
  refine MS.of (by decide +kernel) (Nat.le_of_ble_eq_true rfl) ?_
  show AW wlX yX2_hasRoad cX2_hasRoad 2 (some .boolean) rmX2_hasRoad emI (fX2_hasRoad a1 σ) 0 [some (.inr (some 1)), some (.inl a1)] [] σ
  unfold fX2_hasRoad
  refine aw_iload_n (pc := 0) dX2_hasRoad_0 rfl rfl ?_
  refine aw_if_lt (pc := 1) (tgt := 16) dX2_hasRoad_1 (by decide) (fun _ => ?_) (fun _ => ?_)
  · refine aw_iconst (pc := 16) (v := 0) dX2_hasRoad_16 (by decide) ?_
    exact aw_ret_i (pc := 17) rfl rfl rfl dX2_hasRoad_17
  refine aw_iload_n (pc := 4) dX2_hasRoad_4 rfl rfl ?_
  refine aw_aload_n (pc := 5) dX2_hasRoad_5 rfl rfl ?_
  refine aw_get (pc := 6) (v := .inl (σ.1 1 3)) foX2_40 (atX1 _) rfl dX2_hasRoad_6 ?_
  refine aw_icmp_ge (pc := 9) (tgt := 16) dX2_hasRoad_9 (by decide) (fun _ => ?_) (fun _ => ?_)
  · refine aw_iconst (pc := 16) (v := 0) dX2_hasRoad_16 (by decide) ?_
    exact aw_ret_i (pc := 17) rfl rfl rfl dX2_hasRoad_17
  refine aw_iconst (pc := 12) (v := 1) dX2_hasRoad_12 (by decide) ?_
  refine aw_goto (pc := 13) (tgt := 17) dX2_hasRoad_13 (by decide) ?_
  exact aw_ret_i (pc := 17) rfl rfl rfl dX2_hasRoad_17
abbrev rmX2_hasPoint : Room := { frames := 0, cells := 0, slots := 0, locals := 0 }
noncomputable def fX2_hasPoint (a1 : Int32) (σ : ST) : Option (Int32 × ST) :=
  if a1 < 0 then (some (0, σ)) else (if (5 * (σ.1 1 3)) ≤ a1 then (some (0, σ)) else (some (1, σ)))
set_option maxRecDepth 10000 in
theorem xX2_hasPoint (a1 : Int32) (σ : ST) : MS wlX yX2_hasPoint cX2_hasPoint 2 (some .boolean) rmX2_hasPoint emI [.inr (some 1), .inl a1] σ (fX2_hasPoint a1 σ) := by
  refine MS.of (by decide +kernel) (Nat.le_of_ble_eq_true rfl) ?_
  show AW wlX yX2_hasPoint cX2_hasPoint 2 (some .boolean) rmX2_hasPoint emI (fX2_hasPoint a1 σ) 0 [some (.inr (some 1)), some (.inl a1)] [] σ
  unfold fX2_hasPoint
  refine aw_iload_n (pc := 0) dX2_hasPoint_0 rfl rfl ?_
  refine aw_if_lt (pc := 1) (tgt := 18) dX2_hasPoint_1 (by decide) (fun _ => ?_) (fun _ => ?_)
  · refine aw_iconst (pc := 18) (v := 0) dX2_hasPoint_18 (by decide) ?_
    exact aw_ret_i (pc := 19) rfl rfl rfl dX2_hasPoint_19
  refine aw_iload_n (pc := 4) dX2_hasPoint_4 rfl rfl ?_
  refine aw_iconst (pc := 5) (v := 5) dX2_hasPoint_5 (by decide) ?_
  refine aw_aload_n (pc := 6) dX2_hasPoint_6 rfl rfl ?_
  refine aw_get (pc := 7) (v := .inl (σ.1 1 3)) foX2_40 (atX1 _) rfl dX2_hasPoint_7 ?_
  refine aw_imul (pc := 10) dX2_hasPoint_10 ?_
  refine aw_icmp_ge (pc := 11) (tgt := 18) dX2_hasPoint_11 (by decide) (fun _ => ?_) (fun _ => ?_)
  · refine aw_iconst (pc := 18) (v := 0) dX2_hasPoint_18 (by decide) ?_
    exact aw_ret_i (pc := 19) rfl rfl rfl dX2_hasPoint_19
  refine aw_iconst (pc := 14) (v := 1) dX2_hasPoint_14 (by decide) ?_
  refine aw_goto (pc := 15) (tgt := 19) dX2_hasPoint_15 (by decide) ?_
  exact aw_ret_i (pc := 19) rfl rfl rfl dX2_hasPoint_19
abbrev rmX2_addKnot : Room := { frames := 0, cells := 0, slots := 0, locals := 0 }
noncomputable def fX2_addKnot (a1 : Int32) (a2 : Int32) (σ : ST) : Option (Int32 × ST) :=
  if (σ.1 1 0) < 16 then (if ib (σ.1 1 0) 16 = true then bindv (stI σ 7 (σ.1 1 0).toNatClampNeg a1) (fun σ1 => if ib (σ1.1 1 0) 16 = true then bindv (stI σ1 8 (σ1.1 1 0).toNatClampNeg a2) (fun σ2 => bindv (stI σ2 1 0 ((σ2.1 1 0) + 1)) (fun σ3 => some (((σ3.1 1 0) - 1), σ3))) else none) else none) else (some ((-2), σ))
set_option maxRecDepth 10000 in
theorem xX2_addKnot (a1 : Int32) (a2 : Int32) (σ : ST) : MS wlX yX2_addKnot cX2_addKnot 3 (some .int) rmX2_addKnot emI [.inr (some 1), .inl a1, .inl a2] σ (fX2_addKnot a1 a2 σ) := by
  refine MS.of (by decide +kernel) (Nat.le_of_ble_eq_true rfl) ?_
  show AW wlX yX2_addKnot cX2_addKnot 3 (some .int) rmX2_addKnot emI (fX2_addKnot a1 a2 σ) 0 [some (.inr (some 1)), some (.inl a1), some (.inl a2)] [] σ
  unfold fX2_addKnot
  refine aw_aload_n (pc := 0) dX2_addKnot_0 rfl rfl ?_
  refine aw_get (pc := 1) (v := .inl (σ.1 1 0)) foX2_36 (atX1 _) rfl dX2_addKnot_1 ?_
  refine aw_bipush (pc := 4) (v := 16) dX2_addKnot_4 (by decide) ?_
  refine aw_icmp_lt (pc := 6) (tgt := 12) dX2_addKnot_6 (by decide) (fun _ => ?_) (fun _ => ?_)
  · refine aw_aload_n (pc := 12) dX2_addKnot_12 rfl rfl ?_
    refine aw_get (pc := 13) (v := .inr (some 7)) foX2_9 (atX1 _) rfl dX2_addKnot_13 ?_
    refine aw_aload_n (pc := 16) dX2_addKnot_16 rfl rfl ?_
    refine aw_get (pc := 17) (v := .inl (σ.1 1 0)) foX2_36 (atX1 _) rfl dX2_addKnot_17 ?_
    refine aw_iload_n (pc := 20) dX2_addKnot_20 rfl rfl ?_
    refine aw_iastB (pc := 21) (atX7 _) (stX7 _ _ _) dX2_addKnot_21 (fun σ1 => ?_)
    refine aw_aload_n (pc := 22) dX2_addKnot_22 rfl rfl ?_
    refine aw_get (pc := 23) (v := .inr (some 8)) foX2_15 (atX1 _) rfl dX2_addKnot_23 ?_
    refine aw_aload_n (pc := 26) dX2_addKnot_26 rfl rfl ?_
    refine aw_get (pc := 27) (v := .inl (σ1.1 1 0)) foX2_36 (atX1 _) rfl dX2_addKnot_27 ?_
    refine aw_iload_n (pc := 30) dX2_addKnot_30 rfl rfl ?_
    refine aw_iastB (pc := 31) (atX8 _) (stX8 _ _ _) dX2_addKnot_31 (fun σ2 => ?_)
    refine aw_aload_n (pc := 32) dX2_addKnot_32 rfl rfl ?_
    refine aw_dup (pc := 33) dX2_addKnot_33 ?_
    refine aw_get (pc := 34) (v := .inl (σ2.1 1 0)) foX2_36 (atX1 _) rfl dX2_addKnot_34 ?_
    refine aw_iconst (pc := 37) (v := 1) dX2_addKnot_37 (by decide) ?_
    refine aw_iadd (pc := 38) dX2_addKnot_38 ?_
    refine aw_putI (pc := 39) fwX2_36 (atX1 _) (Nat.le_of_ble_eq_true rfl) (stX1_0 _ _) dX2_addKnot_39 (fun σ3 => ?_)
    refine aw_aload_n (pc := 42) dX2_addKnot_42 rfl rfl ?_
    refine aw_get (pc := 43) (v := .inl (σ3.1 1 0)) foX2_36 (atX1 _) rfl dX2_addKnot_43 ?_
    refine aw_iconst (pc := 46) (v := 1) dX2_addKnot_46 (by decide) ?_
    refine aw_isub (pc := 47) dX2_addKnot_47 ?_
    exact aw_ret_i (pc := 48) rfl rfl rfl dX2_addKnot_48
  refine aw_bipush (pc := 9) (v := (-2)) dX2_addKnot_9 (by decide) ?_
  exact aw_ret_i (pc := 11) rfl rfl rfl dX2_addKnot_11
abbrev rmX2_setKind : Room := { frames := 0, cells := 0, slots := 0, locals := 0 }
noncomputable def fX2_setKind_J33 (s0 : Int32) (s1 : Int32) (σ : ST) : Option (Unit × ST) :=
  if ib s1 60 = true then bindv (stI σ 13 s1.toNatClampNeg s0) (fun σ2 => some ((), σ2)) else none
set_option maxRecDepth 10000 in
theorem xX2_setKind_J33 (s0 : Int32) (s1 : Int32) (σ : ST) : AW wlX yX2_setKind cX2_setKind 3 none rmX2_setKind emV (fX2_setKind_J33 s0 s1 σ) 33 [none, none, none] [.inl s0, .inl s1, .inr (some 13)] σ := by
  unfold fX2_setKind_J33
  refine aw_iastB (pc := 33) (atX13 _) (stX13 _ _ _) dX2_setKind_33 (fun σ2 => ?_)
  exact aw_ret_v (pc := 34) rfl rfl dX2_setKind_34
noncomputable def fX2_setKind (a1 : Int32) (a2 : Int32) (σ : ST) : Option (Unit × ST) :=
  if ib a1 30 = true then bindv (stI σ 10 a1.toNatClampNeg a2) (fun σ1 => if a2 = 1 then (fX2_setKind_J33 (-1) (2 * a1) σ1) else (if ib ((2 * a1) + 1) 60 = true then fX2_setKind_J33 (σ1.1 14 ((2 * a1) + 1).toNatClampNeg) (2 * a1) σ1 else none)) else none
set_option maxRecDepth 10000 in
theorem xX2_setKind (a1 : Int32) (a2 : Int32) (σ : ST) : MS wlX yX2_setKind cX2_setKind 3 none rmX2_setKind emV [.inr (some 1), .inl a1, .inl a2] σ (fX2_setKind a1 a2 σ) := by
  refine MS.of (by decide +kernel) (Nat.le_of_ble_eq_true rfl) ?_
  show AW wlX yX2_setKind cX2_setKind 3 none rmX2_setKind emV (fX2_setKind a1 a2 σ) 0 [some (.inr (some 1)), some (.inl a1), some (.inl a2)] [] σ
  unfold fX2_setKind
  refine aw_aload_n (pc := 0) dX2_setKind_0 rfl rfl ?_
  refine aw_get (pc := 1) (v := .inr (some 10)) foX2_21 (atX1 _) rfl dX2_setKind_1 ?_
  refine aw_iload_n (pc := 4) dX2_setKind_4 rfl rfl ?_
  refine aw_iload_n (pc := 5) dX2_setKind_5 rfl rfl ?_
  refine aw_iastB (pc := 6) (atX10 _) (stX10 _ _ _) dX2_setKind_6 (fun σ1 => ?_)
  refine aw_aload_n (pc := 7) dX2_setKind_7 rfl rfl ?_
  refine aw_get (pc := 8) (v := .inr (some 13)) foX2_30 (atX1 _) rfl dX2_setKind_8 ?_
  refine aw_iconst (pc := 11) (v := 2) dX2_setKind_11 (by decide) ?_
  refine aw_iload_n (pc := 12) dX2_setKind_12 rfl rfl ?_
  refine aw_imul (pc := 13) dX2_setKind_13 ?_
  refine aw_iload_n (pc := 14) dX2_setKind_14 rfl rfl ?_
  refine aw_iconst (pc := 15) (v := 1) dX2_setKind_15 (by decide) ?_
  refine aw_icmp_ne (pc := 16) (tgt := 23) dX2_setKind_16 (by decide) (fun _ => ?_) (fun _ => ?_)
  · refine aw_iconst (pc := 19) (v := (-1)) dX2_setKind_19 (by decide) ?_
    refine aw_goto (pc := 20) (tgt := 33) dX2_setKind_20 (by decide) ?_
    exact aw_wk (wk_none (wk_none (wk_none wk_nil))) (xX2_setKind_J33 (-1) (2 * a1) σ1)
  refine aw_aload_n (pc := 23) dX2_setKind_23 rfl rfl ?_
  refine aw_get (pc := 24) (v := .inr (some 14)) foX2_33 (atX1 _) rfl dX2_setKind_24 ?_
  refine aw_iconst (pc := 27) (v := 2) dX2_setKind_27 (by decide) ?_
  refine aw_iload_n (pc := 28) dX2_setKind_28 rfl rfl ?_
  refine aw_imul (pc := 29) dX2_setKind_29 ?_
  refine aw_iconst (pc := 30) (v := 1) dX2_setKind_30 (by decide) ?_
  refine aw_iadd (pc := 31) dX2_setKind_31 ?_
  refine aw_iald' (pc := 32) (atX14 _) dX2_setKind_32 ?_
  exact aw_wk (wk_none (wk_none (wk_none wk_nil))) (xX2_setKind_J33 (σ1.1 14 ((2 * a1) + 1).toNatClampNeg) (2 * a1) σ1)
abbrev rmX2_addRoad : Room := { frames := 1, cells := 0, slots := 0, locals := 22 }
noncomputable def fX2_addRoad (a1 : Int32) (a2 : Int32) (a3 : Int32) (a4 : Int32) (a5 : Int32) (σ : ST) : Option (Int32 × ST) :=
  if (σ.1 1 3) < 30 then (bindv (σ.1 1 3) (fun v1 => bindv (stI σ 1 3 ((σ.1 1 3) + 1)) (fun σ2 => if ib v1 30 = true then bindv (stI σ2 9 v1.toNatClampNeg a3) (fun σ3 => if ib v1 30 = true then bindv (stI σ3 11 v1.toNatClampNeg a5) (fun σ4 => if ib (2 * v1) 60 = true then bindv (stI σ4 14 (2 * v1).toNatClampNeg a1) (fun σ5 => if ib ((2 * v1) + 1) 60 = true then bindv (stI σ5 14 ((2 * v1) + 1).toNatClampNeg a2) (fun σ6 => if ib ((2 * v1) + 1) 60 = true then bindv (stI σ6 13 ((2 * v1) + 1).toNatClampNeg a1) (fun σ7 => cb (fX2_setKind v1 a4 σ7) (fun r8 σ9 => some (v1, σ9))) else none) else none) else none) else none) else none))) else (some ((-2), σ))
set_option maxRecDepth 10000 in
theorem xX2_addRoad (a1 : Int32) (a2 : Int32) (a3 : Int32) (a4 : Int32) (a5 : Int32) (σ : ST) : MS wlX yX2_addRoad cX2_addRoad 7 (some .int) rmX2_addRoad emI [.inr (some 1), .inl a1, .inl a2, .inl a3, .inl a4, .inl a5] σ (fX2_addRoad a1 a2 a3 a4 a5 σ) := by
  refine MS.of (by decide +kernel) (Nat.le_of_ble_eq_true rfl) ?_
  show AW wlX yX2_addRoad cX2_addRoad 7 (some .int) rmX2_addRoad emI (fX2_addRoad a1 a2 a3 a4 a5 σ) 0 [some (.inr (some 1)), some (.inl a1), some (.inl a2), some (.inl a3), some (.inl a4), some (.inl a5), none] [] σ
  unfold fX2_addRoad
  refine aw_aload_n (pc := 0) dX2_addRoad_0 rfl rfl ?_
  refine aw_get (pc := 1) (v := .inl (σ.1 1 3)) foX2_40 (atX1 _) rfl dX2_addRoad_1 ?_
  refine aw_bipush (pc := 4) (v := 30) dX2_addRoad_4 (by decide) ?_
  refine aw_icmp_lt (pc := 6) (tgt := 12) dX2_addRoad_6 (by decide) (fun _ => ?_) (fun _ => ?_)
  · refine aw_aload_n (pc := 12) dX2_addRoad_12 rfl rfl ?_
    refine aw_get (pc := 13) (v := .inl (σ.1 1 3)) foX2_40 (atX1 _) rfl dX2_addRoad_13 ?_
    refine aw_stB (pc := 16) (Lf := fun v1 => [some (.inr (some 1)), some (.inl a1), some (.inl a2), some (.inl a3), some (.inl a4), some (.inl a5), some (.inl v1)]) dX2_addRoad_16 (by decide) (fun _ => rfl) (fun v1 => ?_)
    refine aw_aload_n (pc := 18) dX2_addRoad_18 rfl rfl ?_
    refine aw_dup (pc := 19) dX2_addRoad_19 ?_
    refine aw_get (pc := 20) (v := .inl (σ.1 1 3)) foX2_40 (atX1 _) rfl dX2_addRoad_20 ?_
    refine aw_iconst (pc := 23) (v := 1) dX2_addRoad_23 (by decide) ?_
    refine aw_iadd (pc := 24) dX2_addRoad_24 ?_
    refine aw_putI (pc := 25) fwX2_40 (atX1 _) (Nat.le_of_ble_eq_true rfl) (stX1_3 _ _) dX2_addRoad_25 (fun σ2 => ?_)
    refine aw_aload_n (pc := 28) dX2_addRoad_28 rfl rfl ?_
    refine aw_get (pc := 29) (v := .inr (some 9)) foX2_18 (atX1 _) rfl dX2_addRoad_29 ?_
    refine aw_iload (pc := 32) dX2_addRoad_32 rfl ?_
    refine aw_iload_n (pc := 34) dX2_addRoad_34 rfl rfl ?_
    refine aw_iastB (pc := 35) (atX9 _) (stX9 _ _ _) dX2_addRoad_35 (fun σ3 => ?_)
    refine aw_aload_n (pc := 36) dX2_addRoad_36 rfl rfl ?_
    refine aw_get (pc := 37) (v := .inr (some 11)) foX2_24 (atX1 _) rfl dX2_addRoad_37 ?_
    refine aw_iload (pc := 40) dX2_addRoad_40 rfl ?_
    refine aw_iload (pc := 42) dX2_addRoad_42 rfl ?_
    refine aw_iastB (pc := 44) (atX11 _) (stX11 _ _ _) dX2_addRoad_44 (fun σ4 => ?_)
    refine aw_aload_n (pc := 45) dX2_addRoad_45 rfl rfl ?_
    refine aw_get (pc := 46) (v := .inr (some 14)) foX2_33 (atX1 _) rfl dX2_addRoad_46 ?_
    refine aw_iconst (pc := 49) (v := 2) dX2_addRoad_49 (by decide) ?_
    refine aw_iload (pc := 50) dX2_addRoad_50 rfl ?_
    refine aw_imul (pc := 52) dX2_addRoad_52 ?_
    refine aw_iload_n (pc := 53) dX2_addRoad_53 rfl rfl ?_
    refine aw_iastB (pc := 54) (atX14 _) (stX14 _ _ _) dX2_addRoad_54 (fun σ5 => ?_)
    refine aw_aload_n (pc := 55) dX2_addRoad_55 rfl rfl ?_
    refine aw_get (pc := 56) (v := .inr (some 14)) foX2_33 (atX1 _) rfl dX2_addRoad_56 ?_
    refine aw_iconst (pc := 59) (v := 2) dX2_addRoad_59 (by decide) ?_
    refine aw_iload (pc := 60) dX2_addRoad_60 rfl ?_
    refine aw_imul (pc := 62) dX2_addRoad_62 ?_
    refine aw_iconst (pc := 63) (v := 1) dX2_addRoad_63 (by decide) ?_
    refine aw_iadd (pc := 64) dX2_addRoad_64 ?_
    refine aw_iload_n (pc := 65) dX2_addRoad_65 rfl rfl ?_
    refine aw_iastB (pc := 66) (atX14 _) (stX14 _ _ _) dX2_addRoad_66 (fun σ6 => ?_)
    refine aw_aload_n (pc := 67) dX2_addRoad_67 rfl rfl ?_
    refine aw_get (pc := 68) (v := .inr (some 13)) foX2_30 (atX1 _) rfl dX2_addRoad_68 ?_
    refine aw_iconst (pc := 71) (v := 2) dX2_addRoad_71 (by decide) ?_
    refine aw_iload (pc := 72) dX2_addRoad_72 rfl ?_
    refine aw_imul (pc := 74) dX2_addRoad_74 ?_
    refine aw_iconst (pc := 75) (v := 1) dX2_addRoad_75 (by decide) ?_
    refine aw_iadd (pc := 76) dX2_addRoad_76 ?_
    refine aw_iload_n (pc := 77) dX2_addRoad_77 rfl rfl ?_
    refine aw_iastB (pc := 78) (atX13 _) (stX13 _ _ _) dX2_addRoad_78 (fun σ7 => ?_)
    refine aw_aload_n (pc := 79) dX2_addRoad_79 rfl rfl ?_
    refine aw_iload (pc := 80) dX2_addRoad_80 rfl ?_
    refine aw_iload (pc := 82) dX2_addRoad_82 rfl ?_
    refine aw_cVV (pc := 84) (st := []) (xX2_setKind v1 a4 σ7) (atX1 _) rfl ckX2_43 ⟨rfl, rfl, by decide, by decide⟩ (Nat.le_of_ble_eq_true rfl) dX2_addRoad_84 rfl (fun r8 σ9 => ?_)
    refine aw_iload (pc := 87) dX2_addRoad_87 rfl ?_
    exact aw_ret_i (pc := 89) rfl rfl rfl dX2_addRoad_89
  refine aw_bipush (pc := 9) (v := (-2)) dX2_addRoad_9 (by decide) ?_
  exact aw_ret_i (pc := 11) rfl rfl rfl dX2_addRoad_11
abbrev rmX2_isAtKnot : Room := { frames := 0, cells := 0, slots := 0, locals := 0 }
noncomputable def fX2_isAtKnot (a1 : Int32) (a2 : Int32) (σ : ST) : Option (Int32 × ST) :=
  if ib (2 * a1) 60 = true then if (σ.1 14 (2 * a1).toNatClampNeg) = a2 then (some (1, σ)) else (if ib ((2 * a1) + 1) 60 = true then if (σ.1 14 ((2 * a1) + 1).toNatClampNeg) = a2 then (some (1, σ)) else (some (0, σ)) else none) else none
set_option maxRecDepth 10000 in
theorem xX2_isAtKnot (a1 : Int32) (a2 : Int32) (σ : ST) : MS wlX yX2_isAtKnot cX2_isAtKnot 3 (some .boolean) rmX2_isAtKnot emI [.inr (some 1), .inl a1, .inl a2] σ (fX2_isAtKnot a1 a2 σ) := by
  refine MS.of (by decide +kernel) (Nat.le_of_ble_eq_true rfl) ?_
  show AW wlX yX2_isAtKnot cX2_isAtKnot 3 (some .boolean) rmX2_isAtKnot emI (fX2_isAtKnot a1 a2 σ) 0 [some (.inr (some 1)), some (.inl a1), some (.inl a2)] [] σ
  unfold fX2_isAtKnot
  refine aw_aload_n (pc := 0) dX2_isAtKnot_0 rfl rfl ?_
  refine aw_get (pc := 1) (v := .inr (some 14)) foX2_33 (atX1 _) rfl dX2_isAtKnot_1 ?_
  refine aw_iconst (pc := 4) (v := 2) dX2_isAtKnot_4 (by decide) ?_
  refine aw_iload_n (pc := 5) dX2_isAtKnot_5 rfl rfl ?_
  refine aw_imul (pc := 6) dX2_isAtKnot_6 ?_
  refine aw_iald' (pc := 7) (atX14 _) dX2_isAtKnot_7 ?_
  refine aw_iload_n (pc := 8) dX2_isAtKnot_8 rfl rfl ?_
  refine aw_icmp_eq (pc := 9) (tgt := 26) dX2_isAtKnot_9 (by decide) (fun _ => ?_) (fun _ => ?_)
  · refine aw_iconst (pc := 26) (v := 1) dX2_isAtKnot_26 (by decide) ?_
    refine aw_goto (pc := 27) (tgt := 31) dX2_isAtKnot_27 (by decide) ?_
    exact aw_ret_i (pc := 31) rfl rfl rfl dX2_isAtKnot_31
  refine aw_aload_n (pc := 12) dX2_isAtKnot_12 rfl rfl ?_
  refine aw_get (pc := 13) (v := .inr (some 14)) foX2_33 (atX1 _) rfl dX2_isAtKnot_13 ?_
  refine aw_iconst (pc := 16) (v := 2) dX2_isAtKnot_16 (by decide) ?_
  refine aw_iload_n (pc := 17) dX2_isAtKnot_17 rfl rfl ?_
  refine aw_imul (pc := 18) dX2_isAtKnot_18 ?_
  refine aw_iconst (pc := 19) (v := 1) dX2_isAtKnot_19 (by decide) ?_
  refine aw_iadd (pc := 20) dX2_isAtKnot_20 ?_
  refine aw_iald' (pc := 21) (atX14 _) dX2_isAtKnot_21 ?_
  refine aw_iload_n (pc := 22) dX2_isAtKnot_22 rfl rfl ?_
  refine aw_icmp_ne (pc := 23) (tgt := 30) dX2_isAtKnot_23 (by decide) (fun _ => ?_) (fun _ => ?_)
  · refine aw_iconst (pc := 26) (v := 1) dX2_isAtKnot_26 (by decide) ?_
    refine aw_goto (pc := 27) (tgt := 31) dX2_isAtKnot_27 (by decide) ?_
    exact aw_ret_i (pc := 31) rfl rfl rfl dX2_isAtKnot_31
  refine aw_iconst (pc := 30) (v := 0) dX2_isAtKnot_30 (by decide) ?_
  exact aw_ret_i (pc := 31) rfl rfl rfl dX2_isAtKnot_31
abbrev rmX2_haveCommonKnot : Room := { frames := 1, cells := 0, slots := 0, locals := 22 }
noncomputable def fX2_haveCommonKnot (a1 : Int32) (a2 : Int32) (σ : ST) : Option (Int32 × ST) :=
  if ib (2 * a1) 60 = true then cb (fX2_isAtKnot a2 (σ.1 14 (2 * a1).toNatClampNeg) σ) (fun r1 σ2 => if r1 = 0 then (if ib ((2 * a1) + 1) 60 = true then cb (fX2_isAtKnot a2 (σ2.1 14 ((2 * a1) + 1).toNatClampNeg) σ2) (fun r3 σ4 => if r3 = 0 then (some (0, σ4)) else (some (1, σ4))) else none) else (some (1, σ2))) else none
set_option maxRecDepth 10000 in
theorem xX2_haveCommonKnot (a1 : Int32) (a2 : Int32) (σ : ST) : MS wlX yX2_haveCommonKnot cX2_haveCommonKnot 3 (some .boolean) rmX2_haveCommonKnot emI [.inr (some 1), .inl a1, .inl a2] σ (fX2_haveCommonKnot a1 a2 σ) := by
  refine MS.of (by decide +kernel) (Nat.le_of_ble_eq_true rfl) ?_
  show AW wlX yX2_haveCommonKnot cX2_haveCommonKnot 3 (some .boolean) rmX2_haveCommonKnot emI (fX2_haveCommonKnot a1 a2 σ) 0 [some (.inr (some 1)), some (.inl a1), some (.inl a2)] [] σ
  unfold fX2_haveCommonKnot
  refine aw_aload_n (pc := 0) dX2_haveCommonKnot_0 rfl rfl ?_
  refine aw_iload_n (pc := 1) dX2_haveCommonKnot_1 rfl rfl ?_
  refine aw_aload_n (pc := 2) dX2_haveCommonKnot_2 rfl rfl ?_
  refine aw_get (pc := 3) (v := .inr (some 14)) foX2_33 (atX1 _) rfl dX2_haveCommonKnot_3 ?_
  refine aw_iconst (pc := 6) (v := 2) dX2_haveCommonKnot_6 (by decide) ?_
  refine aw_iload_n (pc := 7) dX2_haveCommonKnot_7 rfl rfl ?_
  refine aw_imul (pc := 8) dX2_haveCommonKnot_8 ?_
  refine aw_iald' (pc := 9) (atX14 _) dX2_haveCommonKnot_9 ?_
  refine aw_cVI (pc := 10) (st := []) (xX2_isAtKnot a2 (σ.1 14 (2 * a1).toNatClampNeg) σ) (atX1 _) rfl ckX2_47 ⟨rfl, rfl, by decide, by decide⟩ (Nat.le_of_ble_eq_true rfl) dX2_haveCommonKnot_10 rfl (fun r1 σ2 => ?_)
  refine aw_if_ne (pc := 13) (tgt := 34) dX2_haveCommonKnot_13 (by decide) (fun _ => ?_) (fun _ => ?_)
  · refine aw_aload_n (pc := 16) dX2_haveCommonKnot_16 rfl rfl ?_
    refine aw_iload_n (pc := 17) dX2_haveCommonKnot_17 rfl rfl ?_
    refine aw_aload_n (pc := 18) dX2_haveCommonKnot_18 rfl rfl ?_
    refine aw_get (pc := 19) (v := .inr (some 14)) foX2_33 (atX1 _) rfl dX2_haveCommonKnot_19 ?_
    refine aw_iconst (pc := 22) (v := 2) dX2_haveCommonKnot_22 (by decide) ?_
    refine aw_iload_n (pc := 23) dX2_haveCommonKnot_23 rfl rfl ?_
    refine aw_imul (pc := 24) dX2_haveCommonKnot_24 ?_
    refine aw_iconst (pc := 25) (v := 1) dX2_haveCommonKnot_25 (by decide) ?_
    refine aw_iadd (pc := 26) dX2_haveCommonKnot_26 ?_
    refine aw_iald' (pc := 27) (atX14 _) dX2_haveCommonKnot_27 ?_
    refine aw_cVI (pc := 28) (st := []) (xX2_isAtKnot a2 (σ2.1 14 ((2 * a1) + 1).toNatClampNeg) σ2) (atX1 _) rfl ckX2_47 ⟨rfl, rfl, by decide, by decide⟩ (Nat.le_of_ble_eq_true rfl) dX2_haveCommonKnot_28 rfl (fun r3 σ4 => ?_)
    refine aw_if_eq (pc := 31) (tgt := 38) dX2_haveCommonKnot_31 (by decide) (fun _ => ?_) (fun _ => ?_)
    · refine aw_iconst (pc := 38) (v := 0) dX2_haveCommonKnot_38 (by decide) ?_
      exact aw_ret_i (pc := 39) rfl rfl rfl dX2_haveCommonKnot_39
    refine aw_iconst (pc := 34) (v := 1) dX2_haveCommonKnot_34 (by decide) ?_
    refine aw_goto (pc := 35) (tgt := 39) dX2_haveCommonKnot_35 (by decide) ?_
    exact aw_ret_i (pc := 39) rfl rfl rfl dX2_haveCommonKnot_39
  refine aw_iconst (pc := 34) (v := 1) dX2_haveCommonKnot_34 (by decide) ?_
  refine aw_goto (pc := 35) (tgt := 39) dX2_haveCommonKnot_35 (by decide) ?_
  exact aw_ret_i (pc := 39) rfl rfl rfl dX2_haveCommonKnot_39
abbrev rmX2_isBarred : Room := { frames := 0, cells := 0, slots := 0, locals := 0 }
noncomputable def fX2_isBarred (a1 : Int32) (a2 : Int32) (σ : ST) : Option (Int32 × ST) :=
  if ib a1 30 = true then if (((σ.1 12 a1.toNatClampNeg) >>> (a2 &&& 31)) &&& 1) = 1 then (some (1, σ)) else (some (0, σ)) else none
set_option maxRecDepth 10000 in
theorem xX2_isBarred (a1 : Int32) (a2 : Int32) (σ : ST) : MS wlX yX2_isBarred cX2_isBarred 3 (some .boolean) rmX2_isBarred emI [.inr (some 1), .inl a1, .inl a2] σ (fX2_isBarred a1 a2 σ) := by
  refine MS.of (by decide +kernel) (Nat.le_of_ble_eq_true rfl) ?_
  show AW wlX yX2_isBarred cX2_isBarred 3 (some .boolean) rmX2_isBarred emI (fX2_isBarred a1 a2 σ) 0 [some (.inr (some 1)), some (.inl a1), some (.inl a2)] [] σ
  unfold fX2_isBarred
  refine aw_aload_n (pc := 0) dX2_isBarred_0 rfl rfl ?_
  refine aw_get (pc := 1) (v := .inr (some 12)) foX2_27 (atX1 _) rfl dX2_isBarred_1 ?_
  refine aw_iload_n (pc := 4) dX2_isBarred_4 rfl rfl ?_
  refine aw_iald' (pc := 5) (atX12 _) dX2_isBarred_5 ?_
  refine aw_iload_n (pc := 6) dX2_isBarred_6 rfl rfl ?_
  refine aw_ishr (pc := 7) dX2_isBarred_7 ?_
  refine aw_iconst (pc := 8) (v := 1) dX2_isBarred_8 (by decide) ?_
  refine aw_iand (pc := 9) dX2_isBarred_9 ?_
  refine aw_iconst (pc := 10) (v := 1) dX2_isBarred_10 (by decide) ?_
  refine aw_icmp_ne (pc := 11) (tgt := 18) dX2_isBarred_11 (by decide) (fun _ => ?_) (fun _ => ?_)
  · refine aw_iconst (pc := 14) (v := 1) dX2_isBarred_14 (by decide) ?_
    refine aw_goto (pc := 15) (tgt := 19) dX2_isBarred_15 (by decide) ?_
    exact aw_ret_i (pc := 19) rfl rfl rfl dX2_isBarred_19
  refine aw_iconst (pc := 18) (v := 0) dX2_isBarred_18 (by decide) ?_
  exact aw_ret_i (pc := 19) rfl rfl rfl dX2_isBarred_19
abbrev rmX2_setBarred : Room := { frames := 0, cells := 0, slots := 0, locals := 0 }
noncomputable def fX2_setBarred_J37 (s0 : Int32) (s1 : Int32) (σ : ST) : Option (Unit × ST) :=
  if ib s1 30 = true then bindv (stI σ 12 s1.toNatClampNeg s0) (fun σ2 => some ((), σ2)) else none
set_option maxRecDepth 10000 in
theorem xX2_setBarred_J37 (s0 : Int32) (s1 : Int32) (σ : ST) : AW wlX yX2_setBarred cX2_setBarred 5 none rmX2_setBarred emV (fX2_setBarred_J37 s0 s1 σ) 37 [none, none, none, none, none] [.inl s0, .inl s1, .inr (some 12)] σ := by
  unfold fX2_setBarred_J37
  refine aw_iastB (pc := 37) (atX12 _) (stX12 _ _ _) dX2_setBarred_37 (fun σ2 => ?_)
  exact aw_ret_v (pc := 38) rfl rfl dX2_setBarred_38
noncomputable def fX2_setBarred (a1 : Int32) (a2 : Int32) (a3 : Int32) (σ : ST) : Option (Unit × ST) :=
  bindv (1 <<< (a2 &&& 31)) (fun v1 => if a3 = 0 then (if ib a1 30 = true then fX2_setBarred_J37 ((σ.1 12 a1.toNatClampNeg) &&& (v1 ^^^ (-1))) a1 σ else none) else (if ib a1 30 = true then fX2_setBarred_J37 ((σ.1 12 a1.toNatClampNeg) ||| v1) a1 σ else none))
set_option maxRecDepth 10000 in
theorem xX2_setBarred (a1 : Int32) (a2 : Int32) (a3 : Int32) (σ : ST) : MS wlX yX2_setBarred cX2_setBarred 5 none rmX2_setBarred emV [.inr (some 1), .inl a1, .inl a2, .inl a3] σ (fX2_setBarred a1 a2 a3 σ) := by
  refine MS.of (by decide +kernel) (Nat.le_of_ble_eq_true rfl) ?_
  show AW wlX yX2_setBarred cX2_setBarred 5 none rmX2_setBarred emV (fX2_setBarred a1 a2 a3 σ) 0 [some (.inr (some 1)), some (.inl a1), some (.inl a2), some (.inl a3), none] [] σ
  unfold fX2_setBarred
  refine aw_iconst (pc := 0) (v := 1) dX2_setBarred_0 (by decide) ?_
  refine aw_iload_n (pc := 1) dX2_setBarred_1 rfl rfl ?_
  refine aw_ishl (pc := 2) dX2_setBarred_2 ?_
  refine aw_stB (pc := 3) (Lf := fun v1 => [some (.inr (some 1)), some (.inl a1), some (.inl a2), some (.inl a3), some (.inl v1)]) dX2_setBarred_3 (by decide) (fun _ => rfl) (fun v1 => ?_)
  refine aw_aload_n (pc := 5) dX2_setBarred_5 rfl rfl ?_
  refine aw_get (pc := 6) (v := .inr (some 12)) foX2_27 (atX1 _) rfl dX2_setBarred_6 ?_
  refine aw_iload_n (pc := 9) dX2_setBarred_9 rfl rfl ?_
  refine aw_iload_n (pc := 10) dX2_setBarred_10 rfl rfl ?_
  refine aw_if_eq (pc := 11) (tgt := 26) dX2_setBarred_11 (by decide) (fun _ => ?_) (fun _ => ?_)
  · refine aw_aload_n (pc := 26) dX2_setBarred_26 rfl rfl ?_
    refine aw_get (pc := 27) (v := .inr (some 12)) foX2_27 (atX1 _) rfl dX2_setBarred_27 ?_
    refine aw_iload_n (pc := 30) dX2_setBarred_30 rfl rfl ?_
    refine aw_iald' (pc := 31) (atX12 _) dX2_setBarred_31 ?_
    refine aw_iload (pc := 32) dX2_setBarred_32 rfl ?_
    refine aw_iconst (pc := 34) (v := (-1)) dX2_setBarred_34 (by decide) ?_
    refine aw_ixor (pc := 35) dX2_setBarred_35 ?_
    refine aw_iand (pc := 36) dX2_setBarred_36 ?_
    exact aw_wk (wk_none (wk_none (wk_none (wk_none (wk_none wk_nil))))) (xX2_setBarred_J37 ((σ.1 12 a1.toNatClampNeg) &&& (v1 ^^^ (-1))) a1 σ)
  refine aw_aload_n (pc := 14) dX2_setBarred_14 rfl rfl ?_
  refine aw_get (pc := 15) (v := .inr (some 12)) foX2_27 (atX1 _) rfl dX2_setBarred_15 ?_
  refine aw_iload_n (pc := 18) dX2_setBarred_18 rfl rfl ?_
  refine aw_iald' (pc := 19) (atX12 _) dX2_setBarred_19 ?_
  refine aw_iload (pc := 20) dX2_setBarred_20 rfl ?_
  refine aw_ior (pc := 22) dX2_setBarred_22 ?_
  refine aw_goto (pc := 23) (tgt := 37) dX2_setBarred_23 (by decide) ?_
  exact aw_wk (wk_none (wk_none (wk_none (wk_none (wk_none wk_nil))))) (xX2_setBarred_J37 ((σ.1 12 a1.toNatClampNeg) ||| v1) a1 σ)
abbrev rmX3_forget : Room := { frames := 0, cells := 0, slots := 0, locals := 0 }
noncomputable def fX3_forget_B2 (k2 : Int32 → ST → Option (Unit × ST)) (l1 : Int32) (σ : ST) : Option (Unit × ST) :=
  if 60 ≤ l1 then (some ((), σ)) else (if ib l1 60 = true then bindv (stI σ 16 l1.toNatClampNeg (vp_nar .boolean 0)) (fun σ1 => bindv (l1 + 1) (fun v2 => k2 v2 σ1)) else none)
set_option maxRecDepth 10000 in
theorem xX3_forget_B2 (k2 : Int32 → ST → Option (Unit × ST)) (hk2 : ∀ (l1 : Int32) (σ : ST), AW wlX yX3_forget cX3_forget 2 none rmX3_forget emV (k2 l1 σ) 2 [some (.inr (some 2)), some (.inl l1)] [] σ) (l1 : Int32) (σ : ST) : AW wlX yX3_forget cX3_forget 2 none rmX3_forget emV (fX3_forget_B2 k2 l1 σ) 2 [some (.inr (some 2)), some (.inl l1)] [] σ := by
  unfold fX3_forget_B2
  refine aw_iload_n (pc := 2) dX3_forget_2 rfl rfl ?_
  refine aw_bipush (pc := 3) (v := 60) dX3_forget_3 (by decide) ?_
  refine aw_icmp_ge (pc := 5) (tgt := 21) dX3_forget_5 (by decide) (fun _ => ?_) (fun _ => ?_)
  · exact aw_ret_v (pc := 21) rfl rfl dX3_forget_21
  refine aw_aload_n (pc := 8) dX3_forget_8 rfl rfl ?_
  refine aw_get (pc := 9) (v := .inr (some 16)) foX3_15 (atX2 _) rfl dX3_forget_9 ?_
  refine aw_iload_n (pc := 12) dX3_forget_12 rfl rfl ?_
  refine aw_iconst (pc := 13) (v := 0) dX3_forget_13 (by decide) ?_
  refine aw_bastB (pc := 14) (atX16 _) (stX16 _ _ _) dX3_forget_14 (fun σ1 => ?_)
  refine aw_iincB (pc := 15) (v := 1) (Lf := fun v2 => [some (.inr (some 2)), some (.inl v2)]) dX3_forget_15 rfl (by decide) (by decide) (fun _ => rfl) (fun v2 => ?_)
  refine aw_goto (pc := 18) (tgt := 2) dX3_forget_18 (by decide) ?_
  exact aw_wk (wk_same (wk_same wk_nil)) (hk2 v2 σ1)
noncomputable def fX3_forget_L2 (n : Nat) (l1 : Int32) (σ : ST) : Option (Unit × ST) := loopN (α := Int32 × ST) (fun k a => fX3_forget_B2 (fun l1 σ => k (l1, σ)) a.1 a.2) n (l1, σ)
theorem xX3_forget_L2 (n : Nat) (l1 : Int32) (σ : ST) : AW wlX yX3_forget cX3_forget 2 none rmX3_forget emV (fX3_forget_L2 n l1 σ) 2 [some (.inr (some 2)), some (.inl l1)] [] σ :=
  aw_loop (α := Int32 × ST) (Lf := fun a => [some (.inr (some 2)), some (.inl (a.1))]) (sf := fun a => a.2) (fun k hk a => by
    obtain ⟨l1, σ⟩ := a
    exact xX3_forget_B2 (fun l1 σ => k (l1, σ)) (fun l1 σ => hk (l1, σ)) l1 σ) n (l1, σ)
noncomputable def fX3_forget (σ : ST) : Option (Unit × ST) :=
  fX3_forget_L2 FU 0 σ
set_option maxRecDepth 10000 in
theorem xX3_forget (σ : ST) : MS wlX yX3_forget cX3_forget 2 none rmX3_forget emV [.inr (some 2)] σ (fX3_forget σ) := by
  refine MS.of (by decide +kernel) (Nat.le_of_ble_eq_true rfl) ?_
  show AW wlX yX3_forget cX3_forget 2 none rmX3_forget emV (fX3_forget σ) 0 [some (.inr (some 2)), none] [] σ
  unfold fX3_forget
  refine aw_iconst (pc := 0) (v := 0) dX3_forget_0 (by decide) ?_
  refine aw_stn (pc := 1) (L' := [some (.inr (some 2)), some (.inl 0)]) dX3_forget_1 rfl (by decide) rfl ?_
  exact aw_wk (wk_same (wk_same wk_nil)) (xX3_forget_L2 FU 0 σ)
