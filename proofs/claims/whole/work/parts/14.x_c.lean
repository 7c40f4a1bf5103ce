-- printed by gen2.py: methods as functions over stores, tied to their bytecode
abbrev rmX4_isWithin : Room := { frames := 0, cells := 0, slots := 0, locals := 0 }
noncomputable def fX4_isWithin (a0 : Int32) (a1 : Int32) (a2 : Int32) (σ : ST) : Option (Int32 × ST) :=
  if a0 < a1 then (some (0, σ)) else (if a2 < a0 then (some (0, σ)) else (some (1, σ)))
set_option maxRecDepth 10000 in
theorem xX4_isWithin (a0 : Int32) (a1 : Int32) (a2 : Int32) (σ : ST) : MS wlX yX4_isWithin cX4_isWithin 3 (some .boolean) rmX4_isWithin emI [.inl a0, .inl a1, .inl a2] σ (fX4_isWithin a0 a1 a2 σ) := by
  refine MS.of (by decide +kernel) (Nat.le_of_ble_eq_true rfl) ?_
  show AW wlX yX4_isWithin cX4_isWithin 3 (some .boolean) rmX4_isWithin emI (fX4_isWithin a0 a1 a2 σ) 0 [some (.inl a0), some (.inl a1), some (.inl a2)] [] σ
  unfold fX4_isWithin
  refine aw_iload_n (pc := 0) dX4_isWithin_0 rfl rfl ?_
  refine aw_iload_n (pc := 1) dX4_isWithin_1 rfl rfl ?_
  refine aw_icmp_lt (pc := 2) (tgt := 14) dX4_isWithin_2 (by decide) (fun _ => ?_) (fun _ => ?_)
  · refine aw_iconst (pc := 14) (v := 0) dX4_isWithin_14 (by decide) ?_
    exact aw_ret_i (pc := 15) rfl rfl rfl dX4_isWithin_15
  refine aw_iload_n (pc := 5) dX4_isWithin_5 rfl rfl ?_
  refine aw_iload_n (pc := 6) dX4_isWithin_6 rfl rfl ?_
  refine aw_icmp_gt (pc := 7) (tgt := 14) dX4_isWithin_7 (by decide) (fun _ => ?_) (fun _ => ?_)
  · refine aw_iconst (pc := 14) (v := 0) dX4_isWithin_14 (by decide) ?_
    exact aw_ret_i (pc := 15) rfl rfl rfl dX4_isWithin_15
  refine aw_iconst (pc := 10) (v := 1) dX4_isWithin_10 (by decide) ?_
  refine aw_goto (pc := 11) (tgt := 15) dX4_isWithin_11 (by decide) ?_
  exact aw_ret_i (pc := 15) rfl rfl rfl dX4_isWithin_15
abbrev rmX4_knot : Room := { frames := 1, cells := 0, slots := 0, locals := 22 }
noncomputable def fX4_knot (a1 : Int32) (a2 : Int32) (σ : ST) : Option (Int32 × ST) :=
  cb (fX4_isWithin a1 0 99 σ) (fun r1 σ2 => if r1 = 0 then (some ((-1), σ2)) else (cb (fX4_isWithin a2 0 99 σ2) (fun r3 σ4 => if r3 = 0 then (some ((-1), σ4)) else (cb (fX2_addKnot a1 a2 σ4) (fun r5 σ6 => some (r5, σ6))))))
set_option maxRecDepth 10000 in
theorem xX4_knot (a1 : Int32) (a2 : Int32) (σ : ST) : MS wlX yX4_knot cX4_knot 3 (some .int) rmX4_knot emI [.inr (some 0), .inl a1, .inl a2] σ (fX4_knot a1 a2 σ) := by
  refine MS.of (by decide +kernel) (Nat.le_of_ble_eq_true rfl) ?_
  show AW wlX yX4_knot cX4_knot 3 (some .int) rmX4_knot emI (fX4_knot a1 a2 σ) 0 [some (.inr (some 0)), some (.inl a1), some (.inl a2)] [] σ
  unfold fX4_knot
  refine aw_iload_n (pc := 0) dX4_knot_0 rfl rfl ?_
  refine aw_iconst (pc := 1) (v := 0) dX4_knot_1 (by decide) ?_
  refine aw_bipush (pc := 2) (v := 99) dX4_knot_2 (by decide) ?_
  refine aw_cSI (pc := 4) (st := []) (xX4_isWithin a1 0 99 σ) ckX4_54 ⟨rfl, rfl, by decide, by decide⟩ (Nat.le_of_ble_eq_true rfl) dX4_knot_4 rfl (fun r1 σ2 => ?_)
  refine aw_if_eq (pc := 7) (tgt := 20) dX4_knot_7 (by decide) (fun _ => ?_) (fun _ => ?_)
  · refine aw_iconst (pc := 20) (v := (-1)) dX4_knot_20 (by decide) ?_
    exact aw_ret_i (pc := 21) rfl rfl rfl dX4_knot_21
  refine aw_iload_n (pc := 10) dX4_knot_10 rfl rfl ?_
  refine aw_iconst (pc := 11) (v := 0) dX4_knot_11 (by decide) ?_
  refine aw_bipush (pc := 12) (v := 99) dX4_knot_12 (by decide) ?_
  refine aw_cSI (pc := 14) (st := []) (xX4_isWithin a2 0 99 σ2) ckX4_54 ⟨rfl, rfl, by decide, by decide⟩ (Nat.le_of_ble_eq_true rfl) dX4_knot_14 rfl (fun r3 σ4 => ?_)
  refine aw_if_ne (pc := 17) (tgt := 22) dX4_knot_17 (by decide) (fun _ => ?_) (fun _ => ?_)
  · refine aw_iconst (pc := 20) (v := (-1)) dX4_knot_20 (by decide) ?_
    exact aw_ret_i (pc := 21) rfl rfl rfl dX4_knot_21
  refine aw_aload_n (pc := 22) dX4_knot_22 rfl rfl ?_
  refine aw_get (pc := 23) (v := .inr (some 1)) foX4_12 (atX0 _) rfl dX4_knot_23 ?_
  refine aw_iload_n (pc := 26) dX4_knot_26 rfl rfl ?_
  refine aw_iload_n (pc := 27) dX4_knot_27 rfl rfl ?_
  refine aw_cVI (pc := 28) (st := []) (xX2_addKnot a1 a2 σ4) (atX1 _) rfl ckX4_58 ⟨rfl, rfl, by decide, by decide⟩ (Nat.le_of_ble_eq_true rfl) dX4_knot_28 rfl (fun r5 σ6 => ?_)
  exact aw_ret_i (pc := 31) rfl rfl rfl dX4_knot_31
abbrev rmX4_isFeeOfKind : Room := { frames := 1, cells := 0, slots := 0, locals := 22 }
noncomputable def fX4_isFeeOfKind (a0 : Int32) (a1 : Int32) (σ : ST) : Option (Int32 × ST) :=
  if a1 = 3 then (cb (fX4_isWithin a0 1 99 σ) (fun r1 σ2 => if (r1 = 0 ∨ r1 = 1) then some (r1, σ2) else none)) else (if a0 = 0 then (some (1, σ)) else (some (0, σ)))
set_option maxRecDepth 10000 in
theorem xX4_isFeeOfKind (a0 : Int32) (a1 : Int32) (σ : ST) : MS wlX yX4_isFeeOfKind cX4_isFeeOfKind 2 (some .boolean) rmX4_isFeeOfKind emI [.inl a0, .inl a1] σ (fX4_isFeeOfKind a0 a1 σ) := by
  refine MS.of (by decide +kernel) (Nat.le_of_ble_eq_true rfl) ?_
  show AW wlX yX4_isFeeOfKind cX4_isFeeOfKind 2 (some .boolean) rmX4_isFeeOfKind emI (fX4_isFeeOfKind a0 a1 σ) 0 [some (.inl a0), some (.inl a1)] [] σ
  unfold fX4_isFeeOfKind
  refine aw_iload_n (pc := 0) dX4_isFeeOfKind_0 rfl rfl ?_
  refine aw_iconst (pc := 1) (v := 3) dX4_isFeeOfKind_1 (by decide) ?_
  refine aw_icmp_ne (pc := 2) (tgt := 15) dX4_isFeeOfKind_2 (by decide) (fun _ => ?_) (fun _ => ?_)
  · refine aw_iload_n (pc := 5) dX4_isFeeOfKind_5 rfl rfl ?_
    refine aw_iconst (pc := 6) (v := 1) dX4_isFeeOfKind_6 (by decide) ?_
    refine aw_bipush (pc := 7) (v := 99) dX4_isFeeOfKind_7 (by decide) ?_
    refine aw_cSI (pc := 9) (st := []) (xX4_isWithin a0 1 99 σ) ckX4_54 ⟨rfl, rfl, by decide, by decide⟩ (Nat.le_of_ble_eq_true rfl) dX4_isFeeOfKind_9 rfl (fun r1 σ2 => ?_)
    refine aw_goto (pc := 12) (tgt := 24) dX4_isFeeOfKind_12 (by decide) ?_
    exact aw_rz (pc := 24) rfl rfl dX4_isFeeOfKind_24
  refine aw_iload_n (pc := 15) dX4_isFeeOfKind_15 rfl rfl ?_
  refine aw_if_ne (pc := 16) (tgt := 23) dX4_isFeeOfKind_16 (by decide) (fun _ => ?_) (fun _ => ?_)
  · refine aw_iconst (pc := 19) (v := 1) dX4_isFeeOfKind_19 (by decide) ?_
    refine aw_goto (pc := 20) (tgt := 24) dX4_isFeeOfKind_20 (by decide) ?_
    exact aw_ret_i (pc := 24) rfl rfl rfl dX4_isFeeOfKind_24
  refine aw_iconst (pc := 23) (v := 0) dX4_isFeeOfKind_23 (by decide) ?_
  exact aw_ret_i (pc := 24) rfl rfl rfl dX4_isFeeOfKind_24
abbrev rmX4_forgetWays : Room := { frames := 1, cells := 0, slots := 0, locals := 21 }
noncomputable def fX4_forgetWays (σ : ST) : Option (Unit × ST) :=
  cb (fX3_forget σ) (fun r1 σ2 => cb (fX1_forget σ2) (fun r3 σ4 => some ((), σ4)))
set_option maxRecDepth 10000 in
theorem xX4_forgetWays (σ : ST) : MS wlX yX4_forgetWays cX4_forgetWays 1 none rmX4_forgetWays emV [.inr (some 0)] σ (fX4_forgetWays σ) := by
  refine MS.of (by decide +kernel) (Nat.le_of_ble_eq_true rfl) ?_
  show AW wlX yX4_forgetWays cX4_forgetWays 1 none rmX4_forgetWays emV (fX4_forgetWays σ) 0 [some (.inr (some 0))] [] σ
  unfold fX4_forgetWays
  refine aw_aload_n (pc := 0) dX4_forgetWays_0 rfl rfl ?_
  refine aw_get (pc := 1) (v := .inr (some 2)) foX4_21 (atX0 _) rfl dX4_forgetWays_1 ?_
  refine aw_cVV (pc := 4) (st := []) (xX3_forget σ) (atX2 _) rfl ckX4_190 ⟨rfl, rfl, by decide, by decide⟩ (Nat.le_of_ble_eq_true rfl) dX4_forgetWays_4 rfl (fun r1 σ2 => ?_)
  refine aw_aload_n (pc := 7) dX4_forgetWays_7 rfl rfl ?_
  refine aw_get (pc := 8) (v := .inr (some 3)) foX4_30 (atX0 _) rfl dX4_forgetWays_8 ?_
  refine aw_cVV (pc := 11) (st := []) (xX1_forget σ2) (atX3 _) rfl ckX4_106 ⟨rfl, rfl, by decide, by decide⟩ (Nat.le_of_ble_eq_true rfl) dX4_forgetWays_11 rfl (fun r3 σ4 => ?_)
  exact aw_ret_v (pc := 14) rfl rfl dX4_forgetWays_14
abbrev rmX4_road : Room := { frames := 2, cells := 0, slots := 0, locals := 48 }
noncomputable def fX4_road (a1 : Int32) (a2 : Int32) (a3 : Int32) (a4 : Int32) (σ : ST) : Option (Int32 × ST) :=
  bindv (a1 / 100) (fun v1 => bindv (a1 - a1 / 100 * 100) (fun v2 => cb (fX2_hasKnot v1 σ) (fun r3 σ4 => if r3 = 0 then (some ((-1), σ4)) else (cb (fX2_hasKnot v2 σ4) (fun r5 σ6 => if r5 = 0 then (some ((-1), σ6)) else (if v1 = v2 then (some ((-1), σ6)) else (cb (fX4_isWithin a2 1 200 σ6) (fun r7 σ8 => if r7 = 0 then (some ((-1), σ8)) else (cb (fX4_isWithin a3 0 3 σ8) (fun r9 σ10 => if r9 = 0 then (some ((-1), σ10)) else (cb (fX4_isFeeOfKind a4 a3 σ10) (fun r11 σ12 => if r11 = 0 then (some ((-1), σ12)) else (cb (fX4_forgetWays σ12) (fun r13 σ14 => cb (fX2_addRoad v1 v2 a2 a3 a4 σ14) (fun r15 σ16 => some (r15, σ16))))))))))))))))
set_option maxRecDepth 10000 in
theorem xX4_road (a1 : Int32) (a2 : Int32) (a3 : Int32) (a4 : Int32) (σ : ST) : MS wlX yX4_road cX4_road 7 (some .int) rmX4_road emI [.inr (some 0), .inl a1, .inl a2, .inl a3, .inl a4] σ (fX4_road a1 a2 a3 a4 σ) := by
  refine MS.of (by decide +kernel) (Nat.le_of_ble_eq_true rfl) ?_
  show AW wlX yX4_road cX4_road 7 (some .int) rmX4_road emI (fX4_road a1 a2 a3 a4 σ) 0 [some (.inr (some 0)), some (.inl a1), some (.inl a2), some (.inl a3), some (.inl a4), none, none] [] σ
  unfold fX4_road
  refine aw_iload_n (pc := 0) dX4_road_0 rfl rfl ?_
  refine aw_bipush (pc := 1) (v := 100) dX4_road_1 (by decide) ?_
  refine aw_idiv (pc := 3) dX4_road_3 (by decide) ?_
  refine aw_stB (pc := 4) (Lf := fun v1 => [some (.inr (some 0)), some (.inl a1), some (.inl a2), some (.inl a3), some (.inl a4), some (.inl v1), none]) dX4_road_4 (by decide) (fun _ => rfl) (fun v1 => ?_)
  refine aw_iload_n (pc := 6) dX4_road_6 rfl rfl ?_
  refine aw_bipush (pc := 7) (v := 100) dX4_road_7 (by decide) ?_
  refine aw_irem (pc := 9) dX4_road_9 (by decide) ?_
  refine aw_stB (pc := 10) (Lf := fun v2 => [some (.inr (some 0)), some (.inl a1), some (.inl a2), some (.inl a3), some (.inl a4), some (.inl v1), some (.inl v2)]) dX4_road_10 (by decide) (fun _ => rfl) (fun v2 => ?_)
  refine aw_aload_n (pc := 12) dX4_road_12 rfl rfl ?_
  refine aw_get (pc := 13) (v := .inr (some 1)) foX4_12 (atX0 _) rfl dX4_road_13 ?_
  refine aw_iload (pc := 16) dX4_road_16 rfl ?_
  refine aw_cVI (pc := 18) (st := []) (xX2_hasKnot v1 σ) (atX1 _) rfl ckX4_62 ⟨rfl, rfl, by decide, by decide⟩ (Nat.le_of_ble_eq_true rfl) dX4_road_18 rfl (fun r3 σ4 => ?_)
  refine aw_if_eq (pc := 21) (tgt := 54) dX4_road_21 (by decide) (fun _ => ?_) (fun _ => ?_)
  · refine aw_iconst (pc := 54) (v := (-1)) dX4_road_54 (by decide) ?_
    exact aw_ret_i (pc := 55) rfl rfl rfl dX4_road_55
  refine aw_aload_n (pc := 24) dX4_road_24 rfl rfl ?_
  refine aw_get (pc := 25) (v := .inr (some 1)) foX4_12 (atX0 _) rfl dX4_road_25 ?_
  refine aw_iload (pc := 28) dX4_road_28 rfl ?_
  refine aw_cVI (pc := 30) (st := []) (xX2_hasKnot v2 σ4) (atX1 _) rfl ckX4_62 ⟨rfl, rfl, by decide, by decide⟩ (Nat.le_of_ble_eq_true rfl) dX4_road_30 rfl (fun r5 σ6 => ?_)
  refine aw_if_eq (pc := 33) (tgt := 54) dX4_road_33 (by decide) (fun _ => ?_) (fun _ => ?_)
  · refine aw_iconst (pc := 54) (v := (-1)) dX4_road_54 (by decide) ?_
    exact aw_ret_i (pc := 55) rfl rfl rfl dX4_road_55
  refine aw_iload (pc := 36) dX4_road_36 rfl ?_
  refine aw_iload (pc := 38) dX4_road_38 rfl ?_
  refine aw_icmp_eq (pc := 40) (tgt := 54) dX4_road_40 (by decide) (fun _ => ?_) (fun _ => ?_)
  · refine aw_iconst (pc := 54) (v := (-1)) dX4_road_54 (by decide) ?_
    exact aw_ret_i (pc := 55) rfl rfl rfl dX4_road_55
  refine aw_iload_n (pc := 43) dX4_road_43 rfl rfl ?_
  refine aw_iconst (pc := 44) (v := 1) dX4_road_44 (by decide) ?_
  refine aw_sipush (pc := 45) (v := 200) dX4_road_45 (by decide) ?_
  refine aw_cSI (pc := 48) (st := []) (xX4_isWithin a2 1 200 σ6) ckX4_54 ⟨rfl, rfl, by decide, by decide⟩ (Nat.le_of_ble_eq_true rfl) dX4_road_48 rfl (fun r7 σ8 => ?_)
  refine aw_if_ne (pc := 51) (tgt := 56) dX4_road_51 (by decide) (fun _ => ?_) (fun _ => ?_)
  · refine aw_iconst (pc := 54) (v := (-1)) dX4_road_54 (by decide) ?_
    exact aw_ret_i (pc := 55) rfl rfl rfl dX4_road_55
  refine aw_iload_n (pc := 56) dX4_road_56 rfl rfl ?_
  refine aw_iconst (pc := 57) (v := 0) dX4_road_57 (by decide) ?_
  refine aw_iconst (pc := 58) (v := 3) dX4_road_58 (by decide) ?_
  refine aw_cSI (pc := 59) (st := []) (xX4_isWithin a3 0 3 σ8) ckX4_54 ⟨rfl, rfl, by decide, by decide⟩ (Nat.le_of_ble_eq_true rfl) dX4_road_59 rfl (fun r9 σ10 => ?_)
  refine aw_if_eq (pc := 62) (tgt := 74) dX4_road_62 (by decide) (fun _ => ?_) (fun _ => ?_)
  · refine aw_iconst (pc := 74) (v := (-1)) dX4_road_74 (by decide) ?_
    exact aw_ret_i (pc := 75) rfl rfl rfl dX4_road_75
  refine aw_iload (pc := 65) dX4_road_65 rfl ?_
  refine aw_iload_n (pc := 67) dX4_road_67 rfl rfl ?_
  refine aw_cSI (pc := 68) (st := []) (xX4_isFeeOfKind a4 a3 σ10) ckX4_66 ⟨rfl, rfl, by decide, by decide⟩ (Nat.le_of_ble_eq_true rfl) dX4_road_68 rfl (fun r11 σ12 => ?_)
  refine aw_if_ne (pc := 71) (tgt := 76) dX4_road_71 (by decide) (fun _ => ?_) (fun _ => ?_)
  · refine aw_iconst (pc := 74) (v := (-1)) dX4_road_74 (by decide) ?_
    exact aw_ret_i (pc := 75) rfl rfl rfl dX4_road_75
  refine aw_aload_n (pc := 76) dX4_road_76 rfl rfl ?_
  refine aw_cVV (pc := 77) (st := []) (xX4_forgetWays σ12) (atX0 _) rfl ckX4_70 ⟨rfl, rfl, by decide, by decide⟩ (Nat.le_of_ble_eq_true rfl) dX4_road_77 rfl (fun r13 σ14 => ?_)
  refine aw_aload_n (pc := 80) dX4_road_80 rfl rfl ?_
  refine aw_get (pc := 81) (v := .inr (some 1)) foX4_12 (atX0 _) rfl dX4_road_81 ?_
  refine aw_iload (pc := 84) dX4_road_84 rfl ?_
  refine aw_iload (pc := 86) dX4_road_86 rfl ?_
  refine aw_iload_n (pc := 88) dX4_road_88 rfl rfl ?_
  refine aw_iload_n (pc := 89) dX4_road_89 rfl rfl ?_
  refine aw_iload (pc := 90) dX4_road_90 rfl ?_
  refine aw_cVI (pc := 92) (st := []) (xX2_addRoad v1 v2 a2 a3 a4 σ14) (atX1 _) rfl ckX4_73 ⟨rfl, rfl, by decide, by decide⟩ (Nat.le_of_ble_eq_true rfl) dX4_road_92 rfl (fun r15 σ16 => ?_)
  exact aw_ret_i (pc := 95) rfl rfl rfl dX4_road_95
abbrev rmX4_bar : Room := { frames := 2, cells := 0, slots := 0, locals := 44 }
noncomputable def fX4_bar_J93 (l4 : Int32) (σ : ST) : Option (Int32 × ST) :=
  some (l4, σ)
set_option maxRecDepth 10000 in
theorem xX4_bar_J93 (l4 : Int32) (σ : ST) : AW wlX yX4_bar cX4_bar 5 (some .int) rmX4_bar emI (fX4_bar_J93 l4 σ) 93 [none, none, none, none, some (.inl l4)] [] σ := by
  unfold fX4_bar_J93
  refine aw_iload (pc := 93) dX4_bar_93 rfl ?_
  exact aw_ret_i (pc := 95) rfl rfl rfl dX4_bar_95
noncomputable def fX4_bar_J90 (l4 : Int32) (s0 : Int32) (s1 : Int32) (s2 : Int32) (σ : ST) : Option (Int32 × ST) :=
  cb (fX2_setBarred s2 s1 s0 σ) (fun r13 σ14 => fX4_bar_J93 l4 σ14)
set_option maxRecDepth 10000 in
theorem xX4_bar_J90 (l4 : Int32) (s0 : Int32) (s1 : Int32) (s2 : Int32) (σ : ST) : AW wlX yX4_bar cX4_bar 5 (some .int) rmX4_bar emI (fX4_bar_J90 l4 s0 s1 s2 σ) 90 [none, none, none, none, some (.inl l4)] [.inl s0, .inl s1, .inl s2, .inr (some 1)] σ := by
  unfold fX4_bar_J90
  refine aw_cVV (pc := 90) (st := []) (xX2_setBarred s2 s1 s0 σ) (atX1 _) rfl ckX4_86 ⟨rfl, rfl, by decide, by decide⟩ (Nat.le_of_ble_eq_true rfl) dX4_bar_90 rfl (fun r13 σ14 => ?_)
  exact aw_wk (wk_none (wk_none (wk_none (wk_none (wk_same wk_nil))))) (xX4_bar_J93 l4 σ14)
noncomputable def fX4_bar_J62 (l1 : Int32) (l2 : Int32) (l3 : Int32) (s0 : Int32) (σ : ST) : Option (Int32 × ST) :=
  if s0 = l3 then (fX4_bar_J93 s0 σ) else (cb (fX4_forgetWays σ) (fun r11 σ12 => if l3 = 1 then (fX4_bar_J90 s0 1 l2 l1 σ12) else (fX4_bar_J90 s0 0 l2 l1 σ12)))
set_option maxRecDepth 10000 in
theorem xX4_bar_J62 (l1 : Int32) (l2 : Int32) (l3 : Int32) (s0 : Int32) (σ : ST) : AW wlX yX4_bar cX4_bar 5 (some .int) rmX4_bar emI (fX4_bar_J62 l1 l2 l3 s0 σ) 62 [some (.inr (some 0)), some (.inl l1), some (.inl l2), some (.inl l3), none] [.inl s0] σ := by
  unfold fX4_bar_J62
  refine aw_st (pc := 62) (L' := [some (.inr (some 0)), some (.inl l1), some (.inl l2), some (.inl l3), some (.inl s0)]) dX4_bar_62 (by decide) rfl ?_
  refine aw_iload (pc := 64) dX4_bar_64 rfl ?_
  refine aw_iload_n (pc := 66) dX4_bar_66 rfl rfl ?_
  refine aw_icmp_eq (pc := 67) (tgt := 93) dX4_bar_67 (by decide) (fun _ => ?_) (fun _ => ?_)
  · exact aw_wk (wk_none (wk_none (wk_none (wk_none (wk_same wk_nil))))) (xX4_bar_J93 s0 σ)
  refine aw_aload_n (pc := 70) dX4_bar_70 rfl rfl ?_
  refine aw_cVV (pc := 71) (st := []) (xX4_forgetWays σ) (atX0 _) rfl ckX4_70 ⟨rfl, rfl, by decide, by decide⟩ (Nat.le_of_ble_eq_true rfl) dX4_bar_71 rfl (fun r11 σ12 => ?_)
  refine aw_aload_n (pc := 74) dX4_bar_74 rfl rfl ?_
  refine aw_get (pc := 75) (v := .inr (some 1)) foX4_12 (atX0 _) rfl dX4_bar_75 ?_
  refine aw_iload_n (pc := 78) dX4_bar_78 rfl rfl ?_
  refine aw_iload_n (pc := 79) dX4_bar_79 rfl rfl ?_
  refine aw_iload_n (pc := 80) dX4_bar_80 rfl rfl ?_
  refine aw_iconst (pc := 81) (v := 1) dX4_bar_81 (by decide) ?_
  refine aw_icmp_ne (pc := 82) (tgt := 89) dX4_bar_82 (by decide) (fun _ => ?_) (fun _ => ?_)
  · refine aw_iconst (pc := 85) (v := 1) dX4_bar_85 (by decide) ?_
    refine aw_goto (pc := 86) (tgt := 90) dX4_bar_86 (by decide) ?_
    exact aw_wk (wk_none (wk_none (wk_none (wk_none (wk_same wk_nil))))) (xX4_bar_J90 s0 1 l2 l1 σ12)
  refine aw_iconst (pc := 89) (v := 0) dX4_bar_89 (by decide) ?_
  exact aw_wk (wk_none (wk_none (wk_none (wk_none (wk_same wk_nil))))) (xX4_bar_J90 s0 0 l2 l1 σ12)
noncomputable def fX4_bar (a1 : Int32) (a2 : Int32) (a3 : Int32) (σ : ST) : Option (Int32 × ST) :=
  cb (fX2_hasRoad a1 σ) (fun r1 σ2 => if r1 = 0 then (some ((-1), σ2)) else (cb (fX2_hasRoad a2 σ2) (fun r3 σ4 => if r3 = 0 then (some ((-1), σ4)) else (cb (fX4_isWithin a3 0 1 σ4) (fun r5 σ6 => if r5 = 0 then (some ((-1), σ6)) else (cb (fX2_haveCommonKnot a1 a2 σ6) (fun r7 σ8 => if r7 = 0 then (some ((-1), σ8)) else (cb (fX2_isBarred a1 a2 σ8) (fun r9 σ10 => if r9 = 0 then (fX4_bar_J62 a1 a2 a3 0 σ10) else (fX4_bar_J62 a1 a2 a3 1 σ10))))))))))
set_option maxRecDepth 10000 in
theorem xX4_bar (a1 : Int32) (a2 : Int32) (a3 : Int32) (σ : ST) : MS wlX yX4_bar cX4_bar 5 (some .int) rmX4_bar emI [.inr (some 0), .inl a1, .inl a2, .inl a3] σ (fX4_bar a1 a2 a3 σ) := by
  refine MS.of (by decide +kernel) (Nat.le_of_ble_eq_true rfl) ?_
  show AW wlX yX4_bar cX4_bar 5 (some .int) rmX4_bar emI (fX4_bar a1 a2 a3 σ) 0 [some (.inr (some 0)), some (.inl a1), some (.inl a2), some (.inl a3), none] [] σ
  unfold fX4_bar
  refine aw_aload_n (pc := 0) dX4_bar_0 rfl rfl ?_
  refine aw_get (pc := 1) (v := .inr (some 1)) foX4_12 (atX0 _) rfl dX4_bar_1 ?_
  refine aw_iload_n (pc := 4) dX4_bar_4 rfl rfl ?_
  refine aw_cVI (pc := 5) (st := []) (xX2_hasRoad a1 σ) (atX1 _) rfl ckX4_77 ⟨rfl, rfl, by decide, by decide⟩ (Nat.le_of_ble_eq_true rfl) dX4_bar_5 rfl (fun r1 σ2 => ?_)
  refine aw_if_eq (pc := 8) (tgt := 43) dX4_bar_8 (by decide) (fun _ => ?_) (fun _ => ?_)
  · refine aw_iconst (pc := 43) (v := (-1)) dX4_bar_43 (by decide) ?_
    exact aw_ret_i (pc := 44) rfl rfl rfl dX4_bar_44
  refine aw_aload_n (pc := 11) dX4_bar_11 rfl rfl ?_
  refine aw_get (pc := 12) (v := .inr (some 1)) foX4_12 (atX0 _) rfl dX4_bar_12 ?_
  refine aw_iload_n (pc := 15) dX4_bar_15 rfl rfl ?_
  refine aw_cVI (pc := 16) (st := []) (xX2_hasRoad a2 σ2) (atX1 _) rfl ckX4_77 ⟨rfl, rfl, by decide, by decide⟩ (Nat.le_of_ble_eq_true rfl) dX4_bar_16 rfl (fun r3 σ4 => ?_)
  refine aw_if_eq (pc := 19) (tgt := 43) dX4_bar_19 (by decide) (fun _ => ?_) (fun _ => ?_)
  · refine aw_iconst (pc := 43) (v := (-1)) dX4_bar_43 (by decide) ?_
    exact aw_ret_i (pc := 44) rfl rfl rfl dX4_bar_44
  refine aw_iload_n (pc := 22) dX4_bar_22 rfl rfl ?_
  refine aw_iconst (pc := 23) (v := 0) dX4_bar_23 (by decide) ?_
  refine aw_iconst (pc := 24) (v := 1) dX4_bar_24 (by decide) ?_
  refine aw_cSI (pc := 25) (st := []) (xX4_isWithin a3 0 1 σ4) ckX4_54 ⟨rfl, rfl, by decide, by decide⟩ (Nat.le_of_ble_eq_true rfl) dX4_bar_25 rfl (fun r5 σ6 => ?_)
  refine aw_if_eq (pc := 28) (tgt := 43) dX4_bar_28 (by decide) (fun _ => ?_) (fun _ => ?_)
  · refine aw_iconst (pc := 43) (v := (-1)) dX4_bar_43 (by decide) ?_
    exact aw_ret_i (pc := 44) rfl rfl rfl dX4_bar_44
  refine aw_aload_n (pc := 31) dX4_bar_31 rfl rfl ?_
  refine aw_get (pc := 32) (v := .inr (some 1)) foX4_12 (atX0 _) rfl dX4_bar_32 ?_
  refine aw_iload_n (pc := 35) dX4_bar_35 rfl rfl ?_
  refine aw_iload_n (pc := 36) dX4_bar_36 rfl rfl ?_
  refine aw_cVI (pc := 37) (st := []) (xX2_haveCommonKnot a1 a2 σ6) (atX1 _) rfl ckX4_80 ⟨rfl, rfl, by decide, by decide⟩ (Nat.le_of_ble_eq_true rfl) dX4_bar_37 rfl (fun r7 σ8 => ?_)
  refine aw_if_ne (pc := 40) (tgt := 45) dX4_bar_40 (by decide) (fun _ => ?_) (fun _ => ?_)
  · refine aw_iconst (pc := 43) (v := (-1)) dX4_bar_43 (by decide) ?_
    exact aw_ret_i (pc := 44) rfl rfl rfl dX4_bar_44
  refine aw_aload_n (pc := 45) dX4_bar_45 rfl rfl ?_
  refine aw_get (pc := 46) (v := .inr (some 1)) foX4_12 (atX0 _) rfl dX4_bar_46 ?_
  refine aw_iload_n (pc := 49) dX4_bar_49 rfl rfl ?_
  refine aw_iload_n (pc := 50) dX4_bar_50 rfl rfl ?_
  refine aw_cVI (pc := 51) (st := []) (xX2_isBarred a1 a2 σ8) (atX1 _) rfl ckX4_83 ⟨rfl, rfl, by decide, by decide⟩ (Nat.le_of_ble_eq_true rfl) dX4_bar_51 rfl (fun r9 σ10 => ?_)
  refine aw_if_eq (pc := 54) (tgt := 61) dX4_bar_54 (by decide) (fun _ => ?_) (fun _ => ?_)
  · refine aw_iconst (pc := 61) (v := 0) dX4_bar_61 (by decide) ?_
    exact aw_wk (wk_same (wk_same (wk_same (wk_same (wk_none wk_nil))))) (xX4_bar_J62 a1 a2 a3 0 σ10)
  refine aw_iconst (pc := 57) (v := 1) dX4_bar_57 (by decide) ?_
  refine aw_goto (pc := 58) (tgt := 62) dX4_bar_58 (by decide) ?_
  exact aw_wk (wk_same (wk_same (wk_same (wk_same (wk_none wk_nil))))) (xX4_bar_J62 a1 a2 a3 1 σ10)
abbrev rmX4_way : Room := { frames := 3, cells := 0, slots := 0, locals := 77 }
noncomputable def fX4_way (a1 : Int32) (a2 : Int32) (σ : ST) : Option (Int32 × ST) :=
  cb (fX2_hasPoint a1 σ) (fun r1 σ2 => if r1 = 0 then (some ((-1), σ2)) else (cb (fX2_hasPoint a2 σ2) (fun r3 σ4 => if r3 = 0 then (some ((-1), σ4)) else (cb (fX3_least a1 a2 σ4) (fun r5 σ6 => if r5 = 2000000000 then (some ((-4), σ6)) else (some ((r5 / 10000), σ6)))))))
set_option maxRecDepth 10000 in
theorem xX4_way (a1 : Int32) (a2 : Int32) (σ : ST) : MS wlX yX4_way cX4_way 4 (some .int) rmX4_way emI [.inr (some 0), .inl a1, .inl a2] σ (fX4_way a1 a2 σ) := by
  refine MS.of (by decide +kernel) (Nat.le_of_ble_eq_true rfl) ?_
  show AW wlX yX4_way cX4_way 4 (some .int) rmX4_way emI (fX4_way a1 a2 σ) 0 [some (.inr (some 0)), some (.inl a1), some (.inl a2), none] [] σ
  unfold fX4_way
  refine aw_aload_n (pc := 0) dX4_way_0 rfl rfl ?_
  refine aw_get (pc := 1) (v := .inr (some 1)) foX4_12 (atX0 _) rfl dX4_way_1 ?_
  refine aw_iload_n (pc := 4) dX4_way_4 rfl rfl ?_
  refine aw_cVI (pc := 5) (st := []) (xX2_hasPoint a1 σ) (atX1 _) rfl ckX4_90 ⟨rfl, rfl, by decide, by decide⟩ (Nat.le_of_ble_eq_true rfl) dX4_way_5 rfl (fun r1 σ2 => ?_)
  refine aw_if_eq (pc := 8) (tgt := 22) dX4_way_8 (by decide) (fun _ => ?_) (fun _ => ?_)
  · refine aw_iconst (pc := 22) (v := (-1)) dX4_way_22 (by decide) ?_
    exact aw_ret_i (pc := 23) rfl rfl rfl dX4_way_23
  refine aw_aload_n (pc := 11) dX4_way_11 rfl rfl ?_
  refine aw_get (pc := 12) (v := .inr (some 1)) foX4_12 (atX0 _) rfl dX4_way_12 ?_
  refine aw_iload_n (pc := 15) dX4_way_15 rfl rfl ?_
  refine aw_cVI (pc := 16) (st := []) (xX2_hasPoint a2 σ2) (atX1 _) rfl ckX4_90 ⟨rfl, rfl, by decide, by decide⟩ (Nat.le_of_ble_eq_true rfl) dX4_way_16 rfl (fun r3 σ4 => ?_)
  refine aw_if_ne (pc := 19) (tgt := 24) dX4_way_19 (by decide) (fun _ => ?_) (fun _ => ?_)
  · refine aw_iconst (pc := 22) (v := (-1)) dX4_way_22 (by decide) ?_
    exact aw_ret_i (pc := 23) rfl rfl rfl dX4_way_23
  refine aw_aload_n (pc := 24) dX4_way_24 rfl rfl ?_
  refine aw_get (pc := 25) (v := .inr (some 2)) foX4_21 (atX0 _) rfl dX4_way_25 ?_
  refine aw_iload_n (pc := 28) dX4_way_28 rfl rfl ?_
  refine aw_iload_n (pc := 29) dX4_way_29 rfl rfl ?_
  refine aw_cVI (pc := 30) (st := []) (xX3_least a1 a2 σ4) (atX2 _) rfl ckX4_93 ⟨rfl, rfl, by decide, by decide⟩ (Nat.le_of_ble_eq_true rfl) dX4_way_30 rfl (fun r5 σ6 => ?_)
  refine aw_stn (pc := 33) (L' := [some (.inr (some 0)), some (.inl a1), some (.inl a2), some (.inl r5)]) dX4_way_33 rfl (by decide) rfl ?_
  refine aw_iload_n (pc := 34) dX4_way_34 rfl rfl ?_
  refine aw_ldc (pc := 35) lcX4_96 dX4_way_35 ?_
  refine aw_icmp_ne (pc := 37) (tgt := 45) dX4_way_37 (by decide) (fun _ => ?_) (fun _ => ?_)
  · refine aw_bipush (pc := 40) (v := (-4)) dX4_way_40 (by decide) ?_
    refine aw_goto (pc := 42) (tgt := 50) dX4_way_42 (by decide) ?_
    exact aw_ret_i (pc := 50) rfl rfl rfl dX4_way_50
  refine aw_iload_n (pc := 45) dX4_way_45 rfl rfl ?_
  refine aw_sipush (pc := 46) (v := 10000) dX4_way_46 (by decide) ?_
  refine aw_idiv (pc := 49) dX4_way_49 (by decide) ?_
  exact aw_ret_i (pc := 50) rfl rfl rfl dX4_way_50
abbrev rmX4_fees : Room := { frames := 3, cells := 0, slots := 0, locals := 77 }
noncomputable def fX4_fees (a1 : Int32) (a2 : Int32) (σ : ST) : Option (Int32 × ST) :=
  cb (fX2_hasPoint a1 σ) (fun r1 σ2 => if r1 = 0 then (some ((-1), σ2)) else (cb (fX2_hasPoint a2 σ2) (fun r3 σ4 => if r3 = 0 then (some ((-1), σ4)) else (cb (fX3_least a1 a2 σ4) (fun r5 σ6 => if r5 = 2000000000 then (some ((-4), σ6)) else (some ((r5 - r5 / 10000 * 10000), σ6)))))))
set_option maxRecDepth 10000 in
theorem xX4_fees (a1 : Int32) (a2 : Int32) (σ : ST) : MS wlX yX4_fees cX4_fees 4 (some .int) rmX4_fees emI [.inr (some 0), .inl a1, .inl a2] σ (fX4_fees a1 a2 σ) := by
  refine MS.of (by decide +kernel) (Nat.le_of_ble_eq_true rfl) ?_
  show AW wlX yX4_fees cX4_fees 4 (some .int) rmX4_fees emI (fX4_fees a1 a2 σ) 0 [some (.inr (some 0)), some (.inl a1), some (.inl a2), none] [] σ
  unfold fX4_fees
  refine aw_aload_n (pc := 0) dX4_fees_0 rfl rfl ?_
  refine aw_get (pc := 1) (v := .inr (some 1)) foX4_12 (atX0 _) rfl dX4_fees_1 ?_
  refine aw_iload_n (pc := 4) dX4_fees_4 rfl rfl ?_
  refine aw_cVI (pc := 5) (st := []) (xX2_hasPoint a1 σ) (atX1 _) rfl ckX4_90 ⟨rfl, rfl, by decide, by decide⟩ (Nat.le_of_ble_eq_true rfl) dX4_fees_5 rfl (fun r1 σ2 => ?_)
  refine aw_if_eq (pc := 8) (tgt := 22) dX4_fees_8 (by decide) (fun _ => ?_) (fun _ => ?_)
  · refine aw_iconst (pc := 22) (v := (-1)) dX4_fees_22 (by decide) ?_
    exact aw_ret_i (pc := 23) rfl rfl rfl dX4_fees_23
  refine aw_aload_n (pc := 11) dX4_fees_11 rfl rfl ?_
  refine aw_get (pc := 12) (v := .inr (some 1)) foX4_12 (atX0 _) rfl dX4_fees_12 ?_
  refine aw_iload_n (pc := 15) dX4_fees_15 rfl rfl ?_
  refine aw_cVI (pc := 16) (st := []) (xX2_hasPoint a2 σ2) (atX1 _) rfl ckX4_90 ⟨rfl, rfl, by decide, by decide⟩ (Nat.le_of_ble_eq_true rfl) dX4_fees_16 rfl (fun r3 σ4 => ?_)
  refine aw_if_ne (pc := 19) (tgt := 24) dX4_fees_19 (by decide) (fun _ => ?_) (fun _ => ?_)
  · refine aw_iconst (pc := 22) (v := (-1)) dX4_fees_22 (by decide) ?_
    exact aw_ret_i (pc := 23) rfl rfl rfl dX4_fees_23
  refine aw_aload_n (pc := 24) dX4_fees_24 rfl rfl ?_
  refine aw_get (pc := 25) (v := .inr (some 2)) foX4_21 (atX0 _) rfl dX4_fees_25 ?_
  refine aw_iload_n (pc := 28) dX4_fees_28 rfl rfl ?_
  refine aw_iload_n (pc := 29) dX4_fees_29 rfl rfl ?_
  refine aw_cVI (pc := 30) (st := []) (xX3_least a1 a2 σ4) (atX2 _) rfl ckX4_93 ⟨rfl, rfl, by decide, by decide⟩ (Nat.le_of_ble_eq_true rfl) dX4_fees_30 rfl (fun r5 σ6 => ?_)
  refine aw_stn (pc := 33) (L' := [some (.inr (some 0)), some (.inl a1), some (.inl a2), some (.inl r5)]) dX4_fees_33 rfl (by decide) rfl ?_
  refine aw_iload_n (pc := 34) dX4_fees_34 rfl rfl ?_
  refine aw_ldc (pc := 35) lcX4_96 dX4_fees_35 ?_
  refine aw_icmp_ne (pc := 37) (tgt := 45) dX4_fees_37 (by decide) (fun _ => ?_) (fun _ => ?_)
  · refine aw_bipush (pc := 40) (v := (-4)) dX4_fees_40 (by decide) ?_
    refine aw_goto (pc := 42) (tgt := 50) dX4_fees_42 (by decide) ?_
    exact aw_ret_i (pc := 50) rfl rfl rfl dX4_fees_50
  refine aw_iload_n (pc := 45) dX4_fees_45 rfl rfl ?_
  refine aw_sipush (pc := 46) (v := 10000) dX4_fees_46 (by decide) ?_
  refine aw_irem (pc := 49) dX4_fees_49 (by decide) ?_
  exact aw_ret_i (pc := 50) rfl rfl rfl dX4_fees_50
abbrev rmX4_findDrive : Room := { frames := 0, cells := 0, slots := 0, locals := 0 }
noncomputable def fX4_findDrive_J21 (σ : ST) : Option ((Option Nat) × ST) :=
  some (none, σ)
set_option maxRecDepth 10000 in
theorem xX4_findDrive_J21 (σ : ST) : AW wlX yX4_findDrive cX4_findDrive 2 (some (.object "RoadTrace$Drive")) rmX4_findDrive emR (fX4_findDrive_J21 σ) 21 [none, none] [] σ := by
  unfold fX4_findDrive_J21
  refine aw_null (pc := 21) dX4_findDrive_21 ?_
  exact aw_ret_a (pc := 22) rfl rfl dX4_findDrive_22
noncomputable def fX4_findDrive (a1 : Int32) (σ : ST) : Option ((Option Nat) × ST) :=
  if a1 < 0 then (fX4_findDrive_J21 σ) else (if (σ.1 0 4) ≤ a1 then (fX4_findDrive_J21 σ) else (if ib a1 6 = true then bindv (σ.2.1 4 a1.toNatClampNeg) (fun q1 => some (q1, σ)) else none))
set_option maxRecDepth 10000 in
theorem xX4_findDrive (a1 : Int32) (σ : ST) : MS wlX yX4_findDrive cX4_findDrive 2 (some (.object "RoadTrace$Drive")) rmX4_findDrive emR [.inr (some 0), .inl a1] σ (fX4_findDrive a1 σ) := by
  refine MS.of (by decide +kernel) (Nat.le_of_ble_eq_true rfl) ?_
  show AW wlX yX4_findDrive cX4_findDrive 2 (some (.object "RoadTrace$Drive")) rmX4_findDrive emR (fX4_findDrive a1 σ) 0 [some (.inr (some 0)), some (.inl a1)] [] σ
  unfold fX4_findDrive
  refine aw_iload_n (pc := 0) dX4_findDrive_0 rfl rfl ?_
  refine aw_if_lt (pc := 1) (tgt := 21) dX4_findDrive_1 (by decide) (fun _ => ?_) (fun _ => ?_)
  · exact aw_wk (wk_none (wk_none wk_nil)) (xX4_findDrive_J21 σ)
  refine aw_iload_n (pc := 4) dX4_findDrive_4 rfl rfl ?_
  refine aw_aload_n (pc := 5) dX4_findDrive_5 rfl rfl ?_
  refine aw_get (pc := 6) (v := .inl (σ.1 0 4)) foX4_40 (atX0 _) rfl dX4_findDrive_6 ?_
  refine aw_icmp_ge (pc := 9) (tgt := 21) dX4_findDrive_9 (by decide) (fun _ => ?_) (fun _ => ?_)
  · exact aw_wk (wk_none (wk_none wk_nil)) (xX4_findDrive_J21 σ)
  refine aw_aload_n (pc := 12) dX4_findDrive_12 rfl rfl ?_
  refine aw_get (pc := 13) (v := .inr (some 4)) foX4_36 (atX0 _) rfl dX4_findDrive_13 ?_
  refine aw_iload_n (pc := 16) dX4_findDrive_16 rfl rfl ?_
  refine aw_aaldB (pc := 17) (atX4 _) dX4_findDrive_17 (fun q1 => ?_)
  refine aw_goto (pc := 18) (tgt := 22) dX4_findDrive_18 (by decide) ?_
  exact aw_ret_a (pc := 22) rfl rfl dX4_findDrive_22
abbrev rmX4_sight : Room := { frames := 1, cells := 0, slots := 0, locals := 24 }
noncomputable def fX4_sight (a1 : Int32) (a2 : Int32) (a3 : Int32) (a4 : Int32) (σ : ST) : Option (Int32 × ST) :=
  cb (fX4_findDrive a1 σ) (fun r1 σ2 => r1.elim (some ((-1), σ2)) (fun k3 => cb (fX4_isWithin a2 0 9999 σ2) (fun r4 σ5 => if r4 = 0 then (some ((-1), σ5)) else (cb (fX4_isWithin a4 0 60 σ5) (fun r6 σ7 => if r6 = 0 then (some ((-1), σ7)) else (cb (fX4_isWithin a3 0 10000 σ7) (fun r8 σ9 => if r8 = 0 then (some ((-1), σ9)) else (if isDr σ9 k3 = true then cb (fX0_lastTick k3 σ9) (fun r10 σ11 => if r10 < a3 then (cb (fX1_forget σ11) (fun r12 σ13 => if isDr σ13 k3 = true then cb (fX0_addSight k3 (a2 / 100) (a2 - a2 / 100 * 100) a3 a4 σ13) (fun r14 σ15 => some (r14, σ15)) else none)) else (some ((-1), σ11))) else none))))))))
set_option maxRecDepth 10000 in
theorem xX4_sight (a1 : Int32) (a2 : Int32) (a3 : Int32) (a4 : Int32) (σ : ST) : MS wlX yX4_sight cX4_sight 6 (some .int) rmX4_sight emI [.inr (some 0), .inl a1, .inl a2, .inl a3, .inl a4] σ (fX4_sight a1 a2 a3 a4 σ) := by
  refine MS.of (by decide +kernel) (Nat.le_of_ble_eq_true rfl) ?_
  show AW wlX yX4_sight cX4_sight 6 (some .int) rmX4_sight emI (fX4_sight a1 a2 a3 a4 σ) 0 [some (.inr (some 0)), some (.inl a1), some (.inl a2), some (.inl a3), some (.inl a4), none] [] σ
  unfold fX4_sight
  refine aw_aload_n (pc := 0) dX4_sight_0 rfl rfl ?_
  refine aw_iload_n (pc := 1) dX4_sight_1 rfl rfl ?_
  refine aw_cVR (pc := 2) (st := []) (xX4_findDrive a1 σ) (atX0 _) rfl ckX4_98 ⟨rfl, rfl, by decide, by decide⟩ (Nat.le_of_ble_eq_true rfl) dX4_sight_2 rfl (fun r1 σ2 => ?_)
  refine aw_ast (pc := 5) (L' := [some (.inr (some 0)), some (.inl a1), some (.inl a2), some (.inl a3), some (.inl a4), some (.inr r1)]) dX4_sight_5 (by decide) rfl ?_
  refine aw_aload (pc := 7) dX4_sight_7 rfl ?_
  refine aw_elim (pc := 9) (tgt := 34) dX4_sight_9 (by decide) (fun _ => ?_) (fun k3 hk3 => ?_)
  · refine aw_iconst (pc := 34) (v := (-1)) dX4_sight_34 (by decide) ?_
    exact aw_ret_i (pc := 35) rfl rfl rfl dX4_sight_35
  subst hk3
  refine aw_iload_n (pc := 12) dX4_sight_12 rfl rfl ?_
  refine aw_iconst (pc := 13) (v := 0) dX4_sight_13 (by decide) ?_
  refine aw_sipush (pc := 14) (v := 9999) dX4_sight_14 (by decide) ?_
  refine aw_cSI (pc := 17) (st := []) (xX4_isWithin a2 0 9999 σ2) ckX4_54 ⟨rfl, rfl, by decide, by decide⟩ (Nat.le_of_ble_eq_true rfl) dX4_sight_17 rfl (fun r4 σ5 => ?_)
  refine aw_if_eq (pc := 20) (tgt := 34) dX4_sight_20 (by decide) (fun _ => ?_) (fun _ => ?_)
  · refine aw_iconst (pc := 34) (v := (-1)) dX4_sight_34 (by decide) ?_
    exact aw_ret_i (pc := 35) rfl rfl rfl dX4_sight_35
  refine aw_iload (pc := 23) dX4_sight_23 rfl ?_
  refine aw_iconst (pc := 25) (v := 0) dX4_sight_25 (by decide) ?_
  refine aw_bipush (pc := 26) (v := 60) dX4_sight_26 (by decide) ?_
  refine aw_cSI (pc := 28) (st := []) (xX4_isWithin a4 0 60 σ5) ckX4_54 ⟨rfl, rfl, by decide, by decide⟩ (Nat.le_of_ble_eq_true rfl) dX4_sight_28 rfl (fun r6 σ7 => ?_)
  refine aw_if_ne (pc := 31) (tgt := 36) dX4_sight_31 (by decide) (fun _ => ?_) (fun _ => ?_)
  · refine aw_iconst (pc := 34) (v := (-1)) dX4_sight_34 (by decide) ?_
    exact aw_ret_i (pc := 35) rfl rfl rfl dX4_sight_35
  refine aw_iload_n (pc := 36) dX4_sight_36 rfl rfl ?_
  refine aw_iconst (pc := 37) (v := 0) dX4_sight_37 (by decide) ?_
  refine aw_sipush (pc := 38) (v := 10000) dX4_sight_38 (by decide) ?_
  refine aw_cSI (pc := 41) (st := []) (xX4_isWithin a3 0 10000 σ7) ckX4_54 ⟨rfl, rfl, by decide, by decide⟩ (Nat.le_of_ble_eq_true rfl) dX4_sight_41 rfl (fun r8 σ9 => ?_)
  refine aw_if_eq (pc := 44) (tgt := 56) dX4_sight_44 (by decide) (fun _ => ?_) (fun _ => ?_)
  · refine aw_iconst (pc := 56) (v := (-1)) dX4_sight_56 (by decide) ?_
    exact aw_ret_i (pc := 57) rfl rfl rfl dX4_sight_57
  refine aw_iload_n (pc := 47) dX4_sight_47 rfl rfl ?_
  refine aw_aload (pc := 48) dX4_sight_48 rfl ?_
  refine aw_chk (fun hdr10 => ?_)
  refine aw_cVI (pc := 50) (st := [.inl a3]) (xX0_lastTick k3 σ9) (atD hdr10) rfl ckX4_102 ⟨rfl, rfl, by decide, by decide⟩ (Nat.le_of_ble_eq_true rfl) dX4_sight_50 rfl (fun r10 σ11 => ?_)
  refine aw_icmp_gt (pc := 53) (tgt := 58) dX4_sight_53 (by decide) (fun _ => ?_) (fun _ => ?_)
  · refine aw_aload_n (pc := 58) dX4_sight_58 rfl rfl ?_
    refine aw_get (pc := 59) (v := .inr (some 3)) foX4_30 (atX0 _) rfl dX4_sight_59 ?_
    refine aw_cVV (pc := 62) (st := []) (xX1_forget σ11) (atX3 _) rfl ckX4_106 ⟨rfl, rfl, by decide, by decide⟩ (Nat.le_of_ble_eq_true rfl) dX4_sight_62 rfl (fun r12 σ13 => ?_)
    refine aw_aload (pc := 65) dX4_sight_65 rfl ?_
    refine aw_iload_n (pc := 67) dX4_sight_67 rfl rfl ?_
    refine aw_bipush (pc := 68) (v := 100) dX4_sight_68 (by decide) ?_
    refine aw_idiv (pc := 70) dX4_sight_70 (by decide) ?_
    refine aw_iload_n (pc := 71) dX4_sight_71 rfl rfl ?_
    refine aw_bipush (pc := 72) (v := 100) dX4_sight_72 (by decide) ?_
    refine aw_irem (pc := 74) dX4_sight_74 (by decide) ?_
    refine aw_iload_n (pc := 75) dX4_sight_75 rfl rfl ?_
    refine aw_iload (pc := 76) dX4_sight_76 rfl ?_
    refine aw_chk (fun hdr14 => ?_)
    refine aw_cVI (pc := 78) (st := []) (xX0_addSight k3 (a2 / 100) (a2 - a2 / 100 * 100) a3 a4 σ13) (atD hdr14) rfl ckX4_109 ⟨rfl, rfl, by decide, by decide⟩ (Nat.le_of_ble_eq_true rfl) dX4_sight_78 rfl (fun r14 σ15 => ?_)
    exact aw_ret_i (pc := 81) rfl rfl rfl dX4_sight_81
  refine aw_iconst (pc := 56) (v := (-1)) dX4_sight_56 (by decide) ?_
  exact aw_ret_i (pc := 57) rfl rfl rfl dX4_sight_57
abbrev rmX4_drop : Room := { frames := 1, cells := 0, slots := 0, locals := 21 }
noncomputable def fX4_drop (a1 : Int32) (σ : ST) : Option (Int32 × ST) :=
  cb (fX4_findDrive a1 σ) (fun r1 σ2 => r1.elim (some ((-1), σ2)) (fun k3 => if isDr σ2 k3 = true then if (σ2.1 k3 0) = 0 then (some ((-3), σ2)) else (cb (fX1_forget σ2) (fun r4 σ5 => if isDr σ5 k3 = true then if isDr σ5 k3 = true then bindv (stI σ5 k3 0 ((σ5.1 k3 0) - 1)) (fun σ6 => if isDr σ6 k3 = true then some ((σ6.1 k3 0), σ6) else none) else none else none)) else none))
set_option maxRecDepth 10000 in
theorem xX4_drop (a1 : Int32) (σ : ST) : MS wlX yX4_drop cX4_drop 3 (some .int) rmX4_drop emI [.inr (some 0), .inl a1] σ (fX4_drop a1 σ) := by
  refine MS.of (by decide +kernel) (Nat.le_of_ble_eq_true rfl) ?_
  show AW wlX yX4_drop cX4_drop 3 (some .int) rmX4_drop emI (fX4_drop a1 σ) 0 [some (.inr (some 0)), some (.inl a1), none] [] σ
  unfold fX4_drop
  refine aw_aload_n (pc := 0) dX4_drop_0 rfl rfl ?_
  refine aw_iload_n (pc := 1) dX4_drop_1 rfl rfl ?_
  refine aw_cVR (pc := 2) (st := []) (xX4_findDrive a1 σ) (atX0 _) rfl ckX4_98 ⟨rfl, rfl, by decide, by decide⟩ (Nat.le_of_ble_eq_true rfl) dX4_drop_2 rfl (fun r1 σ2 => ?_)
  refine aw_astn (pc := 5) (L' := [some (.inr (some 0)), some (.inl a1), some (.inr r1)]) dX4_drop_5 rfl (by decide) rfl ?_
  refine aw_aload_n (pc := 6) dX4_drop_6 rfl rfl ?_
  refine aw_elimN (pc := 7) (tgt := 12) dX4_drop_7 (by decide) (fun _ => ?_) (fun k3 hk3 => ?_)
  · refine aw_iconst (pc := 10) (v := (-1)) dX4_drop_10 (by decide) ?_
    exact aw_ret_i (pc := 11) rfl rfl rfl dX4_drop_11
  subst hk3
  refine aw_aload_n (pc := 12) dX4_drop_12 rfl rfl ?_
  refine aw_getD (pc := 13) (v := .inl (σ2.1 k3 0)) foX4_113 rfl dX4_drop_13 ?_
  refine aw_if_ne (pc := 16) (tgt := 22) dX4_drop_16 (by decide) (fun _ => ?_) (fun _ => ?_)
  · refine aw_bipush (pc := 19) (v := (-3)) dX4_drop_19 (by decide) ?_
    exact aw_ret_i (pc := 21) rfl rfl rfl dX4_drop_21
  refine aw_aload_n (pc := 22) dX4_drop_22 rfl rfl ?_
  refine aw_get (pc := 23) (v := .inr (some 3)) foX4_30 (atX0 _) rfl dX4_drop_23 ?_
  refine aw_cVV (pc := 26) (st := []) (xX1_forget σ2) (atX3 _) rfl ckX4_106 ⟨rfl, rfl, by decide, by decide⟩ (Nat.le_of_ble_eq_true rfl) dX4_drop_26 rfl (fun r4 σ5 => ?_)
  refine aw_aload_n (pc := 29) dX4_drop_29 rfl rfl ?_
  refine aw_dup (pc := 30) dX4_drop_30 ?_
  refine aw_getD (pc := 31) (v := .inl (σ5.1 k3 0)) foX4_113 rfl dX4_drop_31 ?_
  refine aw_iconst (pc := 34) (v := 1) dX4_drop_34 (by decide) ?_
  refine aw_isub (pc := 35) dX4_drop_35 ?_
  refine aw_putD (pc := 36) fwX4_113 dX4_drop_36 (fun σ6 => ?_)
  refine aw_aload_n (pc := 39) dX4_drop_39 rfl rfl ?_
  refine aw_getD (pc := 40) (v := .inl (σ6.1 k3 0)) foX4_113 rfl dX4_drop_40 ?_
  exact aw_ret_i (pc := 43) rfl rfl rfl dX4_drop_43
abbrev rmX4_prices : Room := { frames := 1, cells := 0, slots := 0, locals := 22 }
noncomputable def fX4_prices (a1 : Int32) (a2 : Int32) (σ : ST) : Option (Int32 × ST) :=
  cb (fX4_isWithin a1 1 100 σ) (fun r1 σ2 => if r1 = 0 then (some ((-1), σ2)) else (cb (fX4_isWithin a2 1 9999 σ2) (fun r3 σ4 => if r3 = 0 then (some ((-1), σ4)) else (cb (fX1_forget σ4) (fun r5 σ6 => bindv (stI σ6 3 0 a1) (fun σ7 => bindv (stI σ7 3 1 a2) (fun σ8 => some (1, σ8))))))))
set_option maxRecDepth 10000 in
theorem xX4_prices (a1 : Int32) (a2 : Int32) (σ : ST) : MS wlX yX4_prices cX4_prices 3 (some .int) rmX4_prices emI [.inr (some 0), .inl a1, .inl a2] σ (fX4_prices a1 a2 σ) := by
  refine MS.of (by decide +kernel) (Nat.le_of_ble_eq_true rfl) ?_
  show AW wlX yX4_prices cX4_prices 3 (some .int) rmX4_prices emI (fX4_prices a1 a2 σ) 0 [some (.inr (some 0)), some (.inl a1), some (.inl a2)] [] σ
  unfold fX4_prices
  refine aw_iload_n (pc := 0) dX4_prices_0 rfl rfl ?_
  refine aw_iconst (pc := 1) (v := 1) dX4_prices_1 (by decide) ?_
  refine aw_bipush (pc := 2) (v := 100) dX4_prices_2 (by decide) ?_
  refine aw_cSI (pc := 4) (st := []) (xX4_isWithin a1 1 100 σ) ckX4_54 ⟨rfl, rfl, by decide, by decide⟩ (Nat.le_of_ble_eq_true rfl) dX4_prices_4 rfl (fun r1 σ2 => ?_)
  refine aw_if_eq (pc := 7) (tgt := 21) dX4_prices_7 (by decide) (fun _ => ?_) (fun _ => ?_)
  · refine aw_iconst (pc := 21) (v := (-1)) dX4_prices_21 (by decide) ?_
    exact aw_ret_i (pc := 22) rfl rfl rfl dX4_prices_22
  refine aw_iload_n (pc := 10) dX4_prices_10 rfl rfl ?_
  refine aw_iconst (pc := 11) (v := 1) dX4_prices_11 (by decide) ?_
  refine aw_sipush (pc := 12) (v := 9999) dX4_prices_12 (by decide) ?_
  refine aw_cSI (pc := 15) (st := []) (xX4_isWithin a2 1 9999 σ2) ckX4_54 ⟨rfl, rfl, by decide, by decide⟩ (Nat.le_of_ble_eq_true rfl) dX4_prices_15 rfl (fun r3 σ4 => ?_)
  refine aw_if_ne (pc := 18) (tgt := 23) dX4_prices_18 (by decide) (fun _ => ?_) (fun _ => ?_)
  · refine aw_iconst (pc := 21) (v := (-1)) dX4_prices_21 (by decide) ?_
    exact aw_ret_i (pc := 22) rfl rfl rfl dX4_prices_22
  refine aw_aload_n (pc := 23) dX4_prices_23 rfl rfl ?_
  refine aw_get (pc := 24) (v := .inr (some 3)) foX4_30 (atX0 _) rfl dX4_prices_24 ?_
  refine aw_cVV (pc := 27) (st := []) (xX1_forget σ4) (atX3 _) rfl ckX4_106 ⟨rfl, rfl, by decide, by decide⟩ (Nat.le_of_ble_eq_true rfl) dX4_prices_27 rfl (fun r5 σ6 => ?_)
  refine aw_aload_n (pc := 30) dX4_prices_30 rfl rfl ?_
  refine aw_get (pc := 31) (v := .inr (some 3)) foX4_30 (atX0 _) rfl dX4_prices_31 ?_
  refine aw_iload_n (pc := 34) dX4_prices_34 rfl rfl ?_
  refine aw_putI (pc := 35) fwX4_116 (atX3 _) (Nat.le_of_ble_eq_true rfl) (stX3_0 _ _) dX4_prices_35 (fun σ7 => ?_)
  refine aw_aload_n (pc := 38) dX4_prices_38 rfl rfl ?_
  refine aw_get (pc := 39) (v := .inr (some 3)) foX4_30 (atX0 _) rfl dX4_prices_39 ?_
  refine aw_iload_n (pc := 42) dX4_prices_42 rfl rfl ?_
  refine aw_putI (pc := 43) fwX4_119 (atX3 _) (Nat.le_of_ble_eq_true rfl) (stX3_1 _ _) dX4_prices_43 (fun σ8 => ?_)
  refine aw_iconst (pc := 46) (v := 1) dX4_prices_46 (by decide) ?_
  exact aw_ret_i (pc := 47) rfl rfl rfl dX4_prices_47
abbrev rmX4_spot : Room := { frames := 4, cells := 0, slots := 0, locals := 98 }
noncomputable def fX4_spot (a1 : Int32) (a2 : Int32) (a3 : Int32) (σ : ST) : Option (Int32 × ST) :=
  cb (fX4_findDrive a1 σ) (fun r1 σ2 => r1.elim (some ((-1), σ2)) (fun k3 => if isDr σ2 k3 = true then cb (fX0_hasSight k3 a2 σ2) (fun r4 σ5 => if r4 = 0 then (some ((-1), σ5)) else (cb (fX1_gather k3 σ5) (fun r6 σ7 => if ib a2 20 = true then bindv (σ7.1 18 a2.toNatClampNeg) (fun v8 => if a3 = (-1) then (some (v8, σ7)) else (if a3 < 0 then (some ((-1), σ7)) else (if v8 ≤ a3 then (some ((-1), σ7)) else (if ib ((a2 * 10) + a3) 200 = true then some ((σ7.1 19 ((a2 * 10) + a3).toNatClampNeg), σ7) else none)))) else none))) else none))
set_option maxRecDepth 10000 in
theorem xX4_spot (a1 : Int32) (a2 : Int32) (a3 : Int32) (σ : ST) : MS wlX yX4_spot cX4_spot 6 (some .int) rmX4_spot emI [.inr (some 0), .inl a1, .inl a2, .inl a3] σ (fX4_spot a1 a2 a3 σ) := by
  refine MS.of (by decide +kernel) (Nat.le_of_ble_eq_true rfl) ?_
  show AW wlX yX4_spot cX4_spot 6 (some .int) rmX4_spot emI (fX4_spot a1 a2 a3 σ) 0 [some (.inr (some 0)), some (.inl a1), some (.inl a2), some (.inl a3), none, none] [] σ
  unfold fX4_spot
  refine aw_aload_n (pc := 0) dX4_spot_0 rfl rfl ?_
  refine aw_iload_n (pc := 1) dX4_spot_1 rfl rfl ?_
  refine aw_cVR (pc := 2) (st := []) (xX4_findDrive a1 σ) (atX0 _) rfl ckX4_98 ⟨rfl, rfl, by decide, by decide⟩ (Nat.le_of_ble_eq_true rfl) dX4_spot_2 rfl (fun r1 σ2 => ?_)
  refine aw_ast (pc := 5) (L' := [some (.inr (some 0)), some (.inl a1), some (.inl a2), some (.inl a3), some (.inr r1), none]) dX4_spot_5 (by decide) rfl ?_
  refine aw_aload (pc := 7) dX4_spot_7 rfl ?_
  refine aw_elim (pc := 9) (tgt := 21) dX4_spot_9 (by decide) (fun _ => ?_) (fun k3 hk3 => ?_)
  · refine aw_iconst (pc := 21) (v := (-1)) dX4_spot_21 (by decide) ?_
    exact aw_ret_i (pc := 22) rfl rfl rfl dX4_spot_22
  subst hk3
  refine aw_aload (pc := 12) dX4_spot_12 rfl ?_
  refine aw_iload_n (pc := 14) dX4_spot_14 rfl rfl ?_
  refine aw_chk (fun hdr4 => ?_)
  refine aw_cVI (pc := 15) (st := []) (xX0_hasSight k3 a2 σ2) (atD hdr4) rfl ckX4_122 ⟨rfl, rfl, by decide, by decide⟩ (Nat.le_of_ble_eq_true rfl) dX4_spot_15 rfl (fun r4 σ5 => ?_)
  refine aw_if_ne (pc := 18) (tgt := 23) dX4_spot_18 (by decide) (fun _ => ?_) (fun _ => ?_)
  · refine aw_iconst (pc := 21) (v := (-1)) dX4_spot_21 (by decide) ?_
    exact aw_ret_i (pc := 22) rfl rfl rfl dX4_spot_22
  refine aw_aload_n (pc := 23) dX4_spot_23 rfl rfl ?_
  refine aw_get (pc := 24) (v := .inr (some 3)) foX4_30 (atX0 _) rfl dX4_spot_24 ?_
  refine aw_aload (pc := 27) dX4_spot_27 rfl ?_
  refine aw_cVV (pc := 29) (st := []) (xX1_gather k3 σ5) (atX3 _) rfl ckX4_125 ⟨rfl, rfl, by decide, by decide⟩ (Nat.le_of_ble_eq_true rfl) dX4_spot_29 rfl (fun r6 σ7 => ?_)
  refine aw_aload_n (pc := 32) dX4_spot_32 rfl rfl ?_
  refine aw_get (pc := 33) (v := .inr (some 3)) foX4_30 (atX0 _) rfl dX4_spot_33 ?_
  refine aw_get (pc := 36) (v := .inr (some 18)) foX4_129 (atX3 _) rfl dX4_spot_36 ?_
  refine aw_iload_n (pc := 39) dX4_spot_39 rfl rfl ?_
  refine aw_iald' (pc := 40) (atX18 _) dX4_spot_40 ?_
  refine aw_stB (pc := 41) (Lf := fun v8 => [some (.inr (some 0)), some (.inl a1), some (.inl a2), some (.inl a3), some (.inr (some k3)), some (.inl v8)]) dX4_spot_41 (by decide) (fun _ => rfl) (fun v8 => ?_)
  refine aw_iload_n (pc := 43) dX4_spot_43 rfl rfl ?_
  refine aw_iconst (pc := 44) (v := (-1)) dX4_spot_44 (by decide) ?_
  refine aw_icmp_ne (pc := 45) (tgt := 51) dX4_spot_45 (by decide) (fun _ => ?_) (fun _ => ?_)
  · refine aw_iload (pc := 48) dX4_spot_48 rfl ?_
    exact aw_ret_i (pc := 50) rfl rfl rfl dX4_spot_50
  refine aw_iload_n (pc := 51) dX4_spot_51 rfl rfl ?_
  refine aw_if_lt (pc := 52) (tgt := 78) dX4_spot_52 (by decide) (fun _ => ?_) (fun _ => ?_)
  · refine aw_iconst (pc := 78) (v := (-1)) dX4_spot_78 (by decide) ?_
    exact aw_ret_i (pc := 79) rfl rfl rfl dX4_spot_79
  refine aw_iload_n (pc := 55) dX4_spot_55 rfl rfl ?_
  refine aw_iload (pc := 56) dX4_spot_56 rfl ?_
  refine aw_icmp_ge (pc := 58) (tgt := 78) dX4_spot_58 (by decide) (fun _ => ?_) (fun _ => ?_)
  · refine aw_iconst (pc := 78) (v := (-1)) dX4_spot_78 (by decide) ?_
    exact aw_ret_i (pc := 79) rfl rfl rfl dX4_spot_79
  refine aw_aload_n (pc := 61) dX4_spot_61 rfl rfl ?_
  refine aw_get (pc := 62) (v := .inr (some 3)) foX4_30 (atX0 _) rfl dX4_spot_62 ?_
  refine aw_get (pc := 65) (v := .inr (some 19)) foX4_132 (atX3 _) rfl dX4_spot_65 ?_
  refine aw_iload_n (pc := 68) dX4_spot_68 rfl rfl ?_
  refine aw_bipush (pc := 69) (v := 10) dX4_spot_69 (by decide) ?_
  refine aw_imul (pc := 71) dX4_spot_71 ?_
  refine aw_iload_n (pc := 72) dX4_spot_72 rfl rfl ?_
  refine aw_iadd (pc := 73) dX4_spot_73 ?_
  refine aw_iald' (pc := 74) (atX19 _) dX4_spot_74 ?_
  refine aw_goto (pc := 75) (tgt := 79) dX4_spot_75 (by decide) ?_
  exact aw_ret_i (pc := 79) rfl rfl rfl dX4_spot_79
abbrev rmX4_off : Room := { frames := 2, cells := 0, slots := 0, locals := 49 }
noncomputable def fX4_off (a1 : Int32) (a2 : Int32) (a3 : Int32) (σ : ST) : Option (Int32 × ST) :=
  cb (fX4_findDrive a1 σ) (fun r1 σ2 => r1.elim (some ((-1), σ2)) (fun k3 => if isDr σ2 k3 = true then cb (fX0_hasSight k3 a2 σ2) (fun r4 σ5 => if r4 = 0 then (some ((-1), σ5)) else (cb (fX2_hasPoint a3 σ5) (fun r6 σ7 => if r6 = 0 then (some ((-1), σ7)) else (if isDr σ7 k3 = true then if (isRw σ7 ((k3 + 1)) && ib a2 20) = true then if isDr σ7 k3 = true then if (isRw σ7 ((k3 + 2)) && ib a2 20) = true then cb (fX2_offFrom a3 (σ7.1 ((k3 + 1)) a2.toNatClampNeg) (σ7.1 ((k3 + 2)) a2.toNatClampNeg) σ7) (fun r8 σ9 => some (r8, σ9)) else none else none else none else none)))) else none))
set_option maxRecDepth 10000 in
theorem xX4_off (a1 : Int32) (a2 : Int32) (a3 : Int32) (σ : ST) : MS wlX yX4_off cX4_off 5 (some .int) rmX4_off emI [.inr (some 0), .inl a1, .inl a2, .inl a3] σ (fX4_off a1 a2 a3 σ) := by
  refine MS.of (by decide +kernel) (Nat.le_of_ble_eq_true rfl) ?_
  show AW wlX yX4_off cX4_off 5 (some .int) rmX4_off emI (fX4_off a1 a2 a3 σ) 0 [some (.inr (some 0)), some (.inl a1), some (.inl a2), some (.inl a3), none] [] σ
  unfold fX4_off
  refine aw_aload_n (pc := 0) dX4_off_0 rfl rfl ?_
  refine aw_iload_n (pc := 1) dX4_off_1 rfl rfl ?_
  refine aw_cVR (pc := 2) (st := []) (xX4_findDrive a1 σ) (atX0 _) rfl ckX4_98 ⟨rfl, rfl, by decide, by decide⟩ (Nat.le_of_ble_eq_true rfl) dX4_off_2 rfl (fun r1 σ2 => ?_)
  refine aw_ast (pc := 5) (L' := [some (.inr (some 0)), some (.inl a1), some (.inl a2), some (.inl a3), some (.inr r1)]) dX4_off_5 (by decide) rfl ?_
  refine aw_aload (pc := 7) dX4_off_7 rfl ?_
  refine aw_elim (pc := 9) (tgt := 32) dX4_off_9 (by decide) (fun _ => ?_) (fun k3 hk3 => ?_)
  · refine aw_iconst (pc := 32) (v := (-1)) dX4_off_32 (by decide) ?_
    exact aw_ret_i (pc := 33) rfl rfl rfl dX4_off_33
  subst hk3
  refine aw_aload (pc := 12) dX4_off_12 rfl ?_
  refine aw_iload_n (pc := 14) dX4_off_14 rfl rfl ?_
  refine aw_chk (fun hdr4 => ?_)
  refine aw_cVI (pc := 15) (st := []) (xX0_hasSight k3 a2 σ2) (atD hdr4) rfl ckX4_122 ⟨rfl, rfl, by decide, by decide⟩ (Nat.le_of_ble_eq_true rfl) dX4_off_15 rfl (fun r4 σ5 => ?_)
  refine aw_if_eq (pc := 18) (tgt := 32) dX4_off_18 (by decide) (fun _ => ?_) (fun _ => ?_)
  · refine aw_iconst (pc := 32) (v := (-1)) dX4_off_32 (by decide) ?_
    exact aw_ret_i (pc := 33) rfl rfl rfl dX4_off_33
  refine aw_aload_n (pc := 21) dX4_off_21 rfl rfl ?_
  refine aw_get (pc := 22) (v := .inr (some 1)) foX4_12 (atX0 _) rfl dX4_off_22 ?_
  refine aw_iload_n (pc := 25) dX4_off_25 rfl rfl ?_
  refine aw_cVI (pc := 26) (st := []) (xX2_hasPoint a3 σ5) (atX1 _) rfl ckX4_90 ⟨rfl, rfl, by decide, by decide⟩ (Nat.le_of_ble_eq_true rfl) dX4_off_26 rfl (fun r6 σ7 => ?_)
  refine aw_if_ne (pc := 29) (tgt := 34) dX4_off_29 (by decide) (fun _ => ?_) (fun _ => ?_)
  · refine aw_iconst (pc := 32) (v := (-1)) dX4_off_32 (by decide) ?_
    exact aw_ret_i (pc := 33) rfl rfl rfl dX4_off_33
  refine aw_aload_n (pc := 34) dX4_off_34 rfl rfl ?_
  refine aw_get (pc := 35) (v := .inr (some 1)) foX4_12 (atX0 _) rfl dX4_off_35 ?_
  refine aw_iload_n (pc := 38) dX4_off_38 rfl rfl ?_
  refine aw_aload (pc := 39) dX4_off_39 rfl ?_
  refine aw_getD (pc := 41) (v := .inr (some ((k3 + 1)))) foX4_135 rfl dX4_off_41 ?_
  refine aw_iload_n (pc := 44) dX4_off_44 rfl rfl ?_
  refine aw_ildR (pc := 45) dX4_off_45 ?_
  refine aw_aload (pc := 46) dX4_off_46 rfl ?_
  refine aw_getD (pc := 48) (v := .inr (some ((k3 + 2)))) foX4_138 rfl dX4_off_48 ?_
  refine aw_iload_n (pc := 51) dX4_off_51 rfl rfl ?_
  refine aw_ildR (pc := 52) dX4_off_52 ?_
  refine aw_cVI (pc := 53) (st := []) (xX2_offFrom a3 (σ7.1 ((k3 + 1)) a2.toNatClampNeg) (σ7.1 ((k3 + 2)) a2.toNatClampNeg) σ7) (atX1 _) rfl ckX4_141 ⟨rfl, rfl, by decide, by decide⟩ (Nat.le_of_ble_eq_true rfl) dX4_off_53 rfl (fun r8 σ9 => ?_)
  exact aw_ret_i (pc := 56) rfl rfl rfl dX4_off_56
abbrev rmX4_cost : Room := { frames := 6, cells := 0, slots := 0, locals := 156 }
noncomputable def fX4_cost (a1 : Int32) (σ : ST) : Option (Int32 × ST) :=
  cb (fX4_findDrive a1 σ) (fun r1 σ2 => cb (fX1_settle r1 σ2) (fun r3 σ4 => some (r3, σ4)))
set_option maxRecDepth 10000 in
theorem xX4_cost (a1 : Int32) (σ : ST) : MS wlX yX4_cost cX4_cost 2 (some .int) rmX4_cost emI [.inr (some 0), .inl a1] σ (fX4_cost a1 σ) := by
  refine MS.of (by decide +kernel) (Nat.le_of_ble_eq_true rfl) ?_
  show AW wlX yX4_cost cX4_cost 2 (some .int) rmX4_cost emI (fX4_cost a1 σ) 0 [some (.inr (some 0)), some (.inl a1)] [] σ
  unfold fX4_cost
  refine aw_aload_n (pc := 0) dX4_cost_0 rfl rfl ?_
  refine aw_get (pc := 1) (v := .inr (some 3)) foX4_30 (atX0 _) rfl dX4_cost_1 ?_
  refine aw_aload_n (pc := 4) dX4_cost_4 rfl rfl ?_
  refine aw_iload_n (pc := 5) dX4_cost_5 rfl rfl ?_
  refine aw_cVR (pc := 6) (st := [.inr (some 3)]) (xX4_findDrive a1 σ) (atX0 _) rfl ckX4_98 ⟨rfl, rfl, by decide, by decide⟩ (Nat.le_of_ble_eq_true rfl) dX4_cost_6 rfl (fun r1 σ2 => ?_)
  refine aw_cVI (pc := 9) (st := []) (xX1_settle r1 σ2) (atX3 _) rfl ckX4_145 ⟨rfl, rfl, by decide, by decide⟩ (Nat.le_of_ble_eq_true rfl) dX4_cost_9 rfl (fun r3 σ4 => ?_)
  exact aw_ret_i (pc := 12) rfl rfl rfl dX4_cost_12
abbrev rmX4_laid : Room := { frames := 6, cells := 0, slots := 0, locals := 156 }
noncomputable def fX4_laid (a1 : Int32) (a2 : Int32) (σ : ST) : Option (Int32 × ST) :=
  cb (fX4_findDrive a1 σ) (fun r1 σ2 => r1.elim (some ((-1), σ2)) (fun k3 => if isDr σ2 k3 = true then cb (fX0_hasSight k3 a2 σ2) (fun r4 σ5 => if r4 = 0 then (some ((-1), σ5)) else (cb (fX1_settle (some k3) σ5) (fun r6 σ7 => if ib a2 20 = true then some ((σ7.1 20 a2.toNatClampNeg), σ7) else none))) else none))
set_option maxRecDepth 10000 in
theorem xX4_laid (a1 : Int32) (a2 : Int32) (σ : ST) : MS wlX yX4_laid cX4_laid 4 (some .int) rmX4_laid emI [.inr (some 0), .inl a1, .inl a2] σ (fX4_laid a1 a2 σ) := by
  refine MS.of (by decide +kernel) (Nat.le_of_ble_eq_true rfl) ?_
  show AW wlX yX4_laid cX4_laid 4 (some .int) rmX4_laid emI (fX4_laid a1 a2 σ) 0 [some (.inr (some 0)), some (.inl a1), some (.inl a2), none] [] σ
  unfold fX4_laid
  refine aw_aload_n (pc := 0) dX4_laid_0 rfl rfl ?_
  refine aw_iload_n (pc := 1) dX4_laid_1 rfl rfl ?_
  refine aw_cVR (pc := 2) (st := []) (xX4_findDrive a1 σ) (atX0 _) rfl ckX4_98 ⟨rfl, rfl, by decide, by decide⟩ (Nat.le_of_ble_eq_true rfl) dX4_laid_2 rfl (fun r1 σ2 => ?_)
  refine aw_astn (pc := 5) (L' := [some (.inr (some 0)), some (.inl a1), some (.inl a2), some (.inr r1)]) dX4_laid_5 rfl (by decide) rfl ?_
  refine aw_aload_n (pc := 6) dX4_laid_6 rfl rfl ?_
  refine aw_elim (pc := 7) (tgt := 18) dX4_laid_7 (by decide) (fun _ => ?_) (fun k3 hk3 => ?_)
  · refine aw_iconst (pc := 18) (v := (-1)) dX4_laid_18 (by decide) ?_
    exact aw_ret_i (pc := 19) rfl rfl rfl dX4_laid_19
  subst hk3
  refine aw_aload_n (pc := 10) dX4_laid_10 rfl rfl ?_
  refine aw_iload_n (pc := 11) dX4_laid_11 rfl rfl ?_
  refine aw_chk (fun hdr4 => ?_)
  refine aw_cVI (pc := 12) (st := []) (xX0_hasSight k3 a2 σ2) (atD hdr4) rfl ckX4_122 ⟨rfl, rfl, by decide, by decide⟩ (Nat.le_of_ble_eq_true rfl) dX4_laid_12 rfl (fun r4 σ5 => ?_)
  refine aw_if_ne (pc := 15) (tgt := 20) dX4_laid_15 (by decide) (fun _ => ?_) (fun _ => ?_)
  · refine aw_iconst (pc := 18) (v := (-1)) dX4_laid_18 (by decide) ?_
    exact aw_ret_i (pc := 19) rfl rfl rfl dX4_laid_19
  refine aw_aload_n (pc := 20) dX4_laid_20 rfl rfl ?_
  refine aw_get (pc := 21) (v := .inr (some 3)) foX4_30 (atX0 _) rfl dX4_laid_21 ?_
  refine aw_aload_n (pc := 24) dX4_laid_24 rfl rfl ?_
  refine aw_cVI (pc := 25) (st := []) (xX1_settle (some k3) σ5) (atX3 _) rfl ckX4_145 ⟨rfl, rfl, by decide, by decide⟩ (Nat.le_of_ble_eq_true rfl) dX4_laid_25 rfl (fun r6 σ7 => ?_)
  refine aw_pop (pc := 28) dX4_laid_28 ?_
  refine aw_aload_n (pc := 29) dX4_laid_29 rfl rfl ?_
  refine aw_get (pc := 30) (v := .inr (some 3)) foX4_30 (atX0 _) rfl dX4_laid_30 ?_
  refine aw_get (pc := 33) (v := .inr (some 20)) foX4_149 (atX3 _) rfl dX4_laid_33 ?_
  refine aw_iload_n (pc := 36) dX4_laid_36 rfl rfl ?_
  refine aw_iald' (pc := 37) (atX20 _) dX4_laid_37 ?_
  exact aw_ret_i (pc := 38) rfl rfl rfl dX4_laid_38
abbrev rmX4_check : Room := { frames := 5, cells := 0, slots := 0, locals := 127 }
noncomputable def fX4_check (a1 : Int32) (σ : ST) : Option (Int32 × ST) :=
  cb (fX4_findDrive a1 σ) (fun r1 σ2 => r1.elim (some ((-1), σ2)) (fun k3 => bindv (σ2.1 0 6) (fun v4 => bindv (stI σ2 0 6 0) (fun σ5 => if isDr σ5 k3 = true then if v4 = (σ5.1 k3 0) then (cb (fX1_gather k3 σ5) (fun r6 σ7 => cb (fX1_fits 5 σ7) (fun r8 σ9 => if r8 = 0 then (some ((-3), σ9)) else (cb (fX1_costOfRow 5 σ9) (fun r10 σ11 => some (r10, σ11)))))) else (some ((-3), σ5)) else none))))
set_option maxRecDepth 10000 in
theorem xX4_check (a1 : Int32) (σ : ST) : MS wlX yX4_check cX4_check 4 (some .int) rmX4_check emI [.inr (some 0), .inl a1] σ (fX4_check a1 σ) := by
  refine MS.of (by decide +kernel) (Nat.le_of_ble_eq_true rfl) ?_
  show AW wlX yX4_check cX4_check 4 (some .int) rmX4_check emI (fX4_check a1 σ) 0 [some (.inr (some 0)), some (.inl a1), none, none] [] σ
  unfold fX4_check
  refine aw_aload_n (pc := 0) dX4_check_0 rfl rfl ?_
  refine aw_iload_n (pc := 1) dX4_check_1 rfl rfl ?_
  refine aw_cVR (pc := 2) (st := []) (xX4_findDrive a1 σ) (atX0 _) rfl ckX4_98 ⟨rfl, rfl, by decide, by decide⟩ (Nat.le_of_ble_eq_true rfl) dX4_check_2 rfl (fun r1 σ2 => ?_)
  refine aw_astn (pc := 5) (L' := [some (.inr (some 0)), some (.inl a1), some (.inr r1), none]) dX4_check_5 rfl (by decide) rfl ?_
  refine aw_aload_n (pc := 6) dX4_check_6 rfl rfl ?_
  refine aw_elimN (pc := 7) (tgt := 12) dX4_check_7 (by decide) (fun _ => ?_) (fun k3 hk3 => ?_)
  · refine aw_iconst (pc := 10) (v := (-1)) dX4_check_10 (by decide) ?_
    exact aw_ret_i (pc := 11) rfl rfl rfl dX4_check_11
  subst hk3
  refine aw_aload_n (pc := 12) dX4_check_12 rfl rfl ?_
  refine aw_get (pc := 13) (v := .inl (σ2.1 0 6)) foX4_48 (atX0 _) rfl dX4_check_13 ?_
  refine aw_stnB (pc := 16) (Lf := fun v4 => [some (.inr (some 0)), some (.inl a1), some (.inr (some k3)), some (.inl v4)]) dX4_check_16 rfl (by decide) (fun _ => rfl) (fun v4 => ?_)
  refine aw_aload_n (pc := 17) dX4_check_17 rfl rfl ?_
  refine aw_iconst (pc := 18) (v := 0) dX4_check_18 (by decide) ?_
  refine aw_putI (pc := 19) fwX4_48 (atX0 _) (Nat.le_of_ble_eq_true rfl) (stX0_6 _ _) dX4_check_19 (fun σ5 => ?_)
  refine aw_iload_n (pc := 22) dX4_check_22 rfl rfl ?_
  refine aw_aload_n (pc := 23) dX4_check_23 rfl rfl ?_
  refine aw_getD (pc := 24) (v := .inl (σ5.1 k3 0)) foX4_113 rfl dX4_check_24 ?_
  refine aw_icmp_eq (pc := 27) (tgt := 33) dX4_check_27 (by decide) (fun _ => ?_) (fun _ => ?_)
  · refine aw_aload_n (pc := 33) dX4_check_33 rfl rfl ?_
    refine aw_get (pc := 34) (v := .inr (some 3)) foX4_30 (atX0 _) rfl dX4_check_34 ?_
    refine aw_aload_n (pc := 37) dX4_check_37 rfl rfl ?_
    refine aw_cVV (pc := 38) (st := []) (xX1_gather k3 σ5) (atX3 _) rfl ckX4_125 ⟨rfl, rfl, by decide, by decide⟩ (Nat.le_of_ble_eq_true rfl) dX4_check_38 rfl (fun r6 σ7 => ?_)
    refine aw_aload_n (pc := 41) dX4_check_41 rfl rfl ?_
    refine aw_get (pc := 42) (v := .inr (some 3)) foX4_30 (atX0 _) rfl dX4_check_42 ?_
    refine aw_aload_n (pc := 45) dX4_check_45 rfl rfl ?_
    refine aw_get (pc := 46) (v := .inr (some 5)) foX4_44 (atX0 _) rfl dX4_check_46 ?_
    refine aw_cVI (pc := 49) (st := []) (xX1_fits 5 σ7) (atX3 _) rfl ckX4_152 ⟨rfl, rfl, by decide, by decide⟩ (Nat.le_of_ble_eq_true rfl) dX4_check_49 rfl (fun r8 σ9 => ?_)
    refine aw_if_eq (pc := 52) (tgt := 69) dX4_check_52 (by decide) (fun _ => ?_) (fun _ => ?_)
    · refine aw_bipush (pc := 69) (v := (-3)) dX4_check_69 (by decide) ?_
      exact aw_ret_i (pc := 71) rfl rfl rfl dX4_check_71
    refine aw_aload_n (pc := 55) dX4_check_55 rfl rfl ?_
    refine aw_get (pc := 56) (v := .inr (some 3)) foX4_30 (atX0 _) rfl dX4_check_56 ?_
    refine aw_aload_n (pc := 59) dX4_check_59 rfl rfl ?_
    refine aw_get (pc := 60) (v := .inr (some 5)) foX4_44 (atX0 _) rfl dX4_check_60 ?_
    refine aw_cVI (pc := 63) (st := []) (xX1_costOfRow 5 σ9) (atX3 _) rfl ckX4_156 ⟨rfl, rfl, by decide, by decide⟩ (Nat.le_of_ble_eq_true rfl) dX4_check_63 rfl (fun r10 σ11 => ?_)
    refine aw_goto (pc := 66) (tgt := 71) dX4_check_66 (by decide) ?_
    exact aw_ret_i (pc := 71) rfl rfl rfl dX4_check_71
  refine aw_bipush (pc := 30) (v := (-3)) dX4_check_30 (by decide) ?_
  exact aw_ret_i (pc := 32) rfl rfl rfl dX4_check_32
abbrev rmX4_list : Room := { frames := 1, cells := 0, slots := 0, locals := 21 }
noncomputable def fX4_list_J19 (l1 : Int32) (σ : ST) : Option (Int32 × ST) :=
  if (σ.1 0 6) < 20 then (if ib (σ.1 0 6) 20 = true then bindv (stI σ 5 (σ.1 0 6).toNatClampNeg l1) (fun σ1 => bindv (stI σ1 0 6 ((σ1.1 0 6) + 1)) (fun σ2 => some ((σ2.1 0 6), σ2))) else none) else (some ((-2), σ))
set_option maxRecDepth 10000 in
theorem xX4_list_J19 (l1 : Int32) (σ : ST) : AW wlX yX4_list cX4_list 2 (some .int) rmX4_list emI (fX4_list_J19 l1 σ) 19 [some (.inr (some 0)), some (.inl l1)] [] σ := by
  unfold fX4_list_J19
  refine aw_aload_n (pc := 19) dX4_list_19 rfl rfl ?_
  refine aw_get (pc := 20) (v := .inl (σ.1 0 6)) foX4_48 (atX0 _) rfl dX4_list_20 ?_
  refine aw_bipush (pc := 23) (v := 20) dX4_list_23 (by decide) ?_
  refine aw_icmp_lt (pc := 25) (tgt := 31) dX4_list_25 (by decide) (fun _ => ?_) (fun _ => ?_)
  · refine aw_aload_n (pc := 31) dX4_list_31 rfl rfl ?_
    refine aw_get (pc := 32) (v := .inr (some 5)) foX4_44 (atX0 _) rfl dX4_list_32 ?_
    refine aw_aload_n (pc := 35) dX4_list_35 rfl rfl ?_
    refine aw_get (pc := 36) (v := .inl (σ.1 0 6)) foX4_48 (atX0 _) rfl dX4_list_36 ?_
    refine aw_iload_n (pc := 39) dX4_list_39 rfl rfl ?_
    refine aw_iastB (pc := 40) (atX5 _) (stX5 _ _ _) dX4_list_40 (fun σ1 => ?_)
    refine aw_aload_n (pc := 41) dX4_list_41 rfl rfl ?_
    refine aw_dup (pc := 42) dX4_list_42 ?_
    refine aw_get (pc := 43) (v := .inl (σ1.1 0 6)) foX4_48 (atX0 _) rfl dX4_list_43 ?_
    refine aw_iconst (pc := 46) (v := 1) dX4_list_46 (by decide) ?_
    refine aw_iadd (pc := 47) dX4_list_47 ?_
    refine aw_putI (pc := 48) fwX4_48 (atX0 _) (Nat.le_of_ble_eq_true rfl) (stX0_6 _ _) dX4_list_48 (fun σ2 => ?_)
    refine aw_aload_n (pc := 51) dX4_list_51 rfl rfl ?_
    refine aw_get (pc := 52) (v := .inl (σ2.1 0 6)) foX4_48 (atX0 _) rfl dX4_list_52 ?_
    exact aw_ret_i (pc := 55) rfl rfl rfl dX4_list_55
  refine aw_bipush (pc := 28) (v := (-2)) dX4_list_28 (by decide) ?_
  exact aw_ret_i (pc := 30) rfl rfl rfl dX4_list_30
noncomputable def fX4_list (a1 : Int32) (σ : ST) : Option (Int32 × ST) :=
  if a1 = (-5) then (fX4_list_J19 a1 σ) else (cb (fX2_hasPoint a1 σ) (fun r3 σ4 => if r3 = 0 then (some ((-1), σ4)) else (fX4_list_J19 a1 σ4)))
set_option maxRecDepth 10000 in
theorem xX4_list (a1 : Int32) (σ : ST) : MS wlX yX4_list cX4_list 2 (some .int) rmX4_list emI [.inr (some 0), .inl a1] σ (fX4_list a1 σ) := by
  refine MS.of (by decide +kernel) (Nat.le_of_ble_eq_true rfl) ?_
  show AW wlX yX4_list cX4_list 2 (some .int) rmX4_list emI (fX4_list a1 σ) 0 [some (.inr (some 0)), some (.inl a1)] [] σ
  unfold fX4_list
  refine aw_iload_n (pc := 0) dX4_list_0 rfl rfl ?_
  refine aw_bipush (pc := 1) (v := (-5)) dX4_list_1 (by decide) ?_
  refine aw_icmp_eq (pc := 3) (tgt := 19) dX4_list_3 (by decide) (fun _ => ?_) (fun _ => ?_)
  · exact aw_wk (wk_same (wk_same wk_nil)) (xX4_list_J19 a1 σ)
  refine aw_aload_n (pc := 6) dX4_list_6 rfl rfl ?_
  refine aw_get (pc := 7) (v := .inr (some 1)) foX4_12 (atX0 _) rfl dX4_list_7 ?_
  refine aw_iload_n (pc := 10) dX4_list_10 rfl rfl ?_
  refine aw_cVI (pc := 11) (st := []) (xX2_hasPoint a1 σ) (atX1 _) rfl ckX4_90 ⟨rfl, rfl, by decide, by decide⟩ (Nat.le_of_ble_eq_true rfl) dX4_list_11 rfl (fun r3 σ4 => ?_)
  refine aw_if_ne (pc := 14) (tgt := 19) dX4_list_14 (by decide) (fun _ => ?_) (fun _ => ?_)
  · refine aw_iconst (pc := 17) (v := (-1)) dX4_list_17 (by decide) ?_
    exact aw_ret_i (pc := 18) rfl rfl rfl dX4_list_18
  exact aw_wk (wk_same (wk_same wk_nil)) (xX4_list_J19 a1 σ4)
abbrev rmX4_sure : Room := { frames := 6, cells := 0, slots := 0, locals := 156 }
noncomputable def fX4_sure (a1 : Int32) (a2 : Int32) (σ : ST) : Option (Int32 × ST) :=
  cb (fX4_findDrive a1 σ) (fun r1 σ2 => r1.elim (some ((-1), σ2)) (fun k3 => cb (fX4_isWithin a2 0 100000 σ2) (fun r4 σ5 => if r4 = 0 then (some ((-1), σ5)) else (cb (fX1_settle (some k3) σ5) (fun r6 σ7 => cb (fX1_sameInEnds (r6 + a2) σ7) (fun r8 σ9 => some (r8, σ9)))))))
set_option maxRecDepth 10000 in
theorem xX4_sure (a1 : Int32) (a2 : Int32) (σ : ST) : MS wlX yX4_sure cX4_sure 4 (some .int) rmX4_sure emI [.inr (some 0), .inl a1, .inl a2] σ (fX4_sure a1 a2 σ) := by
  refine MS.of (by decide +kernel) (Nat.le_of_ble_eq_true rfl) ?_
  show AW wlX yX4_sure cX4_sure 4 (some .int) rmX4_sure emI (fX4_sure a1 a2 σ) 0 [some (.inr (some 0)), some (.inl a1), some (.inl a2), none] [] σ
  unfold fX4_sure
  refine aw_aload_n (pc := 0) dX4_sure_0 rfl rfl ?_
  refine aw_iload_n (pc := 1) dX4_sure_1 rfl rfl ?_
  refine aw_cVR (pc := 2) (st := []) (xX4_findDrive a1 σ) (atX0 _) rfl ckX4_98 ⟨rfl, rfl, by decide, by decide⟩ (Nat.le_of_ble_eq_true rfl) dX4_sure_2 rfl (fun r1 σ2 => ?_)
  refine aw_astn (pc := 5) (L' := [some (.inr (some 0)), some (.inl a1), some (.inl a2), some (.inr r1)]) dX4_sure_5 rfl (by decide) rfl ?_
  refine aw_aload_n (pc := 6) dX4_sure_6 rfl rfl ?_
  refine aw_elim (pc := 7) (tgt := 20) dX4_sure_7 (by decide) (fun _ => ?_) (fun k3 hk3 => ?_)
  · refine aw_iconst (pc := 20) (v := (-1)) dX4_sure_20 (by decide) ?_
    exact aw_ret_i (pc := 21) rfl rfl rfl dX4_sure_21
  subst hk3
  refine aw_iload_n (pc := 10) dX4_sure_10 rfl rfl ?_
  refine aw_iconst (pc := 11) (v := 0) dX4_sure_11 (by decide) ?_
  refine aw_ldc (pc := 12) lcX4_160 dX4_sure_12 ?_
  refine aw_cSI (pc := 14) (st := []) (xX4_isWithin a2 0 100000 σ2) ckX4_54 ⟨rfl, rfl, by decide, by decide⟩ (Nat.le_of_ble_eq_true rfl) dX4_sure_14 rfl (fun r4 σ5 => ?_)
  refine aw_if_ne (pc := 17) (tgt := 22) dX4_sure_17 (by decide) (fun _ => ?_) (fun _ => ?_)
  · refine aw_iconst (pc := 20) (v := (-1)) dX4_sure_20 (by decide) ?_
    exact aw_ret_i (pc := 21) rfl rfl rfl dX4_sure_21
  refine aw_aload_n (pc := 22) dX4_sure_22 rfl rfl ?_
  refine aw_get (pc := 23) (v := .inr (some 3)) foX4_30 (atX0 _) rfl dX4_sure_23 ?_
  refine aw_aload_n (pc := 26) dX4_sure_26 rfl rfl ?_
  refine aw_get (pc := 27) (v := .inr (some 3)) foX4_30 (atX0 _) rfl dX4_sure_27 ?_
  refine aw_aload_n (pc := 30) dX4_sure_30 rfl rfl ?_
  refine aw_cVI (pc := 31) (st := [.inr (some 3)]) (xX1_settle (some k3) σ5) (atX3 _) rfl ckX4_145 ⟨rfl, rfl, by decide, by decide⟩ (Nat.le_of_ble_eq_true rfl) dX4_sure_31 rfl (fun r6 σ7 => ?_)
  refine aw_iload_n (pc := 34) dX4_sure_34 rfl rfl ?_
  refine aw_iadd (pc := 35) dX4_sure_35 ?_
  refine aw_cVI (pc := 36) (st := []) (xX1_sameInEnds (r6 + a2) σ7) (atX3 _) rfl ckX4_161 ⟨rfl, rfl, by decide, by decide⟩ (Nat.le_of_ble_eq_true rfl) dX4_sure_36 rfl (fun r8 σ9 => ?_)
  exact aw_ret_i (pc := 39) rfl rfl rfl dX4_sure_39
abbrev rmX4_toll : Room := { frames := 6, cells := 0, slots := 0, locals := 156 }
noncomputable def fX4_toll (a1 : Int32) (σ : ST) : Option (Int32 × ST) :=
  cb (fX4_findDrive a1 σ) (fun r1 σ2 => r1.elim (some ((-1), σ2)) (fun k3 => cb (fX1_settle (some k3) σ2) (fun r4 σ5 => cb (fX1_feesOfLeastRow σ5) (fun r6 σ7 => some (r6, σ7)))))
set_option maxRecDepth 10000 in
theorem xX4_toll (a1 : Int32) (σ : ST) : MS wlX yX4_toll cX4_toll 3 (some .int) rmX4_toll emI [.inr (some 0), .inl a1] σ (fX4_toll a1 σ) := by
  refine MS.of (by decide +kernel) (Nat.le_of_ble_eq_true rfl) ?_
  show AW wlX yX4_toll cX4_toll 3 (some .int) rmX4_toll emI (fX4_toll a1 σ) 0 [some (.inr (some 0)), some (.inl a1), none] [] σ
  unfold fX4_toll
  refine aw_aload_n (pc := 0) dX4_toll_0 rfl rfl ?_
  refine aw_iload_n (pc := 1) dX4_toll_1 rfl rfl ?_
  refine aw_cVR (pc := 2) (st := []) (xX4_findDrive a1 σ) (atX0 _) rfl ckX4_98 ⟨rfl, rfl, by decide, by decide⟩ (Nat.le_of_ble_eq_true rfl) dX4_toll_2 rfl (fun r1 σ2 => ?_)
  refine aw_astn (pc := 5) (L' := [some (.inr (some 0)), some (.inl a1), some (.inr r1)]) dX4_toll_5 rfl (by decide) rfl ?_
  refine aw_aload_n (pc := 6) dX4_toll_6 rfl rfl ?_
  refine aw_elimN (pc := 7) (tgt := 12) dX4_toll_7 (by decide) (fun _ => ?_) (fun k3 hk3 => ?_)
  · refine aw_iconst (pc := 10) (v := (-1)) dX4_toll_10 (by decide) ?_
    exact aw_ret_i (pc := 11) rfl rfl rfl dX4_toll_11
  subst hk3
  refine aw_aload_n (pc := 12) dX4_toll_12 rfl rfl ?_
  refine aw_get (pc := 13) (v := .inr (some 3)) foX4_30 (atX0 _) rfl dX4_toll_13 ?_
  refine aw_aload_n (pc := 16) dX4_toll_16 rfl rfl ?_
  refine aw_cVI (pc := 17) (st := []) (xX1_settle (some k3) σ2) (atX3 _) rfl ckX4_145 ⟨rfl, rfl, by decide, by decide⟩ (Nat.le_of_ble_eq_true rfl) dX4_toll_17 rfl (fun r4 σ5 => ?_)
  refine aw_pop (pc := 20) dX4_toll_20 ?_
  refine aw_aload_n (pc := 21) dX4_toll_21 rfl rfl ?_
  refine aw_get (pc := 22) (v := .inr (some 3)) foX4_30 (atX0 _) rfl dX4_toll_22 ?_
  refine aw_cVI (pc := 25) (st := []) (xX1_feesOfLeastRow σ5) (atX3 _) rfl ckX4_165 ⟨rfl, rfl, by decide, by decide⟩ (Nat.le_of_ble_eq_true rfl) dX4_toll_25 rfl (fun r6 σ7 => ?_)
  exact aw_ret_i (pc := 28) rfl rfl rfl dX4_toll_28
abbrev rmX4_speed : Room := { frames := 6, cells := 0, slots := 0, locals := 156 }
noncomputable def fX4_speed (a1 : Int32) (a2 : Int32) (σ : ST) : Option (Int32 × ST) :=
  cb (fX4_findDrive a1 σ) (fun r1 σ2 => r1.elim (some ((-1), σ2)) (fun k3 => if isDr σ2 k3 = true then cb (fX0_hasSight k3 a2 σ2) (fun r4 σ5 => if r4 = 0 then (some ((-1), σ5)) else (cb (fX1_settle (some k3) σ5) (fun r6 σ7 => cb (fX1_speedBehind a2 σ7) (fun r8 σ9 => some (r8, σ9))))) else none))
set_option maxRecDepth 10000 in
theorem xX4_speed (a1 : Int32) (a2 : Int32) (σ : ST) : MS wlX yX4_speed cX4_speed 4 (some .int) rmX4_speed emI [.inr (some 0), .inl a1, .inl a2] σ (fX4_speed a1 a2 σ) := by
  refine MS.of (by decide +kernel) (Nat.le_of_ble_eq_true rfl) ?_
  show AW wlX yX4_speed cX4_speed 4 (some .int) rmX4_speed emI (fX4_speed a1 a2 σ) 0 [some (.inr (some 0)), some (.inl a1), some (.inl a2), none] [] σ
  unfold fX4_speed
  refine aw_aload_n (pc := 0) dX4_speed_0 rfl rfl ?_
  refine aw_iload_n (pc := 1) dX4_speed_1 rfl rfl ?_
  refine aw_cVR (pc := 2) (st := []) (xX4_findDrive a1 σ) (atX0 _) rfl ckX4_98 ⟨rfl, rfl, by decide, by decide⟩ (Nat.le_of_ble_eq_true rfl) dX4_speed_2 rfl (fun r1 σ2 => ?_)
  refine aw_astn (pc := 5) (L' := [some (.inr (some 0)), some (.inl a1), some (.inl a2), some (.inr r1)]) dX4_speed_5 rfl (by decide) rfl ?_
  refine aw_aload_n (pc := 6) dX4_speed_6 rfl rfl ?_
  refine aw_elim (pc := 7) (tgt := 18) dX4_speed_7 (by decide) (fun _ => ?_) (fun k3 hk3 => ?_)
  · refine aw_iconst (pc := 18) (v := (-1)) dX4_speed_18 (by decide) ?_
    exact aw_ret_i (pc := 19) rfl rfl rfl dX4_speed_19
  subst hk3
  refine aw_aload_n (pc := 10) dX4_speed_10 rfl rfl ?_
  refine aw_iload_n (pc := 11) dX4_speed_11 rfl rfl ?_
  refine aw_chk (fun hdr4 => ?_)
  refine aw_cVI (pc := 12) (st := []) (xX0_hasSight k3 a2 σ2) (atD hdr4) rfl ckX4_122 ⟨rfl, rfl, by decide, by decide⟩ (Nat.le_of_ble_eq_true rfl) dX4_speed_12 rfl (fun r4 σ5 => ?_)
  refine aw_if_ne (pc := 15) (tgt := 20) dX4_speed_15 (by decide) (fun _ => ?_) (fun _ => ?_)
  · refine aw_iconst (pc := 18) (v := (-1)) dX4_speed_18 (by decide) ?_
    exact aw_ret_i (pc := 19) rfl rfl rfl dX4_speed_19
  refine aw_aload_n (pc := 20) dX4_speed_20 rfl rfl ?_
  refine aw_get (pc := 21) (v := .inr (some 3)) foX4_30 (atX0 _) rfl dX4_speed_21 ?_
  refine aw_aload_n (pc := 24) dX4_speed_24 rfl rfl ?_
  refine aw_cVI (pc := 25) (st := []) (xX1_settle (some k3) σ5) (atX3 _) rfl ckX4_145 ⟨rfl, rfl, by decide, by decide⟩ (Nat.le_of_ble_eq_true rfl) dX4_speed_25 rfl (fun r6 σ7 => ?_)
  refine aw_pop (pc := 28) dX4_speed_28 ?_
  refine aw_aload_n (pc := 29) dX4_speed_29 rfl rfl ?_
  refine aw_get (pc := 30) (v := .inr (some 3)) foX4_30 (atX0 _) rfl dX4_speed_30 ?_
  refine aw_iload_n (pc := 33) dX4_speed_33 rfl rfl ?_
  refine aw_cVI (pc := 34) (st := []) (xX1_speedBehind a2 σ7) (atX3 _) rfl ckX4_168 ⟨rfl, rfl, by decide, by decide⟩ (Nat.le_of_ble_eq_true rfl) dX4_speed_34 rfl (fun r8 σ9 => ?_)
  exact aw_ret_i (pc := 37) rfl rfl rfl dX4_speed_37
abbrev rmX4_changeKind : Room := { frames := 2, cells := 0, slots := 0, locals := 41 }
noncomputable def fX4_changeKind (a1 : Int32) (a2 : Int32) (σ : ST) : Option (Unit × ST) :=
  cb (fX4_forgetWays σ) (fun r1 σ2 => cb (fX2_setKind a1 a2 σ2) (fun r3 σ4 => some ((), σ4)))
set_option maxRecDepth 10000 in
theorem xX4_changeKind (a1 : Int32) (a2 : Int32) (σ : ST) : MS wlX yX4_changeKind cX4_changeKind 3 none rmX4_changeKind emV [.inr (some 0), .inl a1, .inl a2] σ (fX4_changeKind a1 a2 σ) := by
  refine MS.of (by decide +kernel) (Nat.le_of_ble_eq_true rfl) ?_
  show AW wlX yX4_changeKind cX4_changeKind 3 none rmX4_changeKind emV (fX4_changeKind a1 a2 σ) 0 [some (.inr (some 0)), some (.inl a1), some (.inl a2)] [] σ
  unfold fX4_changeKind
  refine aw_aload_n (pc := 0) dX4_changeKind_0 rfl rfl ?_
  refine aw_cVV (pc := 1) (st := []) (xX4_forgetWays σ) (atX0 _) rfl ckX4_70 ⟨rfl, rfl, by decide, by decide⟩ (Nat.le_of_ble_eq_true rfl) dX4_changeKind_1 rfl (fun r1 σ2 => ?_)
  refine aw_aload_n (pc := 4) dX4_changeKind_4 rfl rfl ?_
  refine aw_get (pc := 5) (v := .inr (some 1)) foX4_12 (atX0 _) rfl dX4_changeKind_5 ?_
  refine aw_iload_n (pc := 8) dX4_changeKind_8 rfl rfl ?_
  refine aw_iload_n (pc := 9) dX4_changeKind_9 rfl rfl ?_
  refine aw_cVV (pc := 10) (st := []) (xX2_setKind a1 a2 σ2) (atX1 _) rfl ckX4_187 ⟨rfl, rfl, by decide, by decide⟩ (Nat.le_of_ble_eq_true rfl) dX4_changeKind_10 rfl (fun r3 σ4 => ?_)
  exact aw_ret_v (pc := 13) rfl rfl dX4_changeKind_13
abbrev rmX4_against : Room := { frames := 6, cells := 0, slots := 0, locals := 156 }
noncomputable def fX4_against_J107 (k74 : Int32 → Int32 → Int32 → ST → Option (Int32 × ST)) (l1 : Int32) (l2 : Int32) (l3 : Int32) (σ : ST) : Option (Int32 × ST) :=
  bindv (l3 + 1) (fun v10 => k74 l1 l2 v10 σ)
set_option maxRecDepth 10000 in
theorem xX4_against_J107 (k74 : Int32 → Int32 → Int32 → ST → Option (Int32 × ST)) (hk74 : ∀ (l1 : Int32) (l2 : Int32) (l3 : Int32) (σ : ST), AW wlX yX4_against cX4_against 4 (some .int) rmX4_against emI (k74 l1 l2 l3 σ) 74 [some (.inr (some 0)), some (.inl l1), some (.inl l2), some (.inl l3)] [] σ) (l1 : Int32) (l2 : Int32) (l3 : Int32) (σ : ST) : AW wlX yX4_against cX4_against 4 (some .int) rmX4_against emI (fX4_against_J107 k74 l1 l2 l3 σ) 107 [some (.inr (some 0)), some (.inl l1), some (.inl l2), some (.inl l3)] [] σ := by
  unfold fX4_against_J107
  refine aw_iincB (pc := 107) (v := 1) (Lf := fun v10 => [some (.inr (some 0)), some (.inl l1), some (.inl l2), some (.inl v10)]) dX4_against_107 rfl (by decide) (by decide) (fun _ => rfl) (fun v10 => ?_)
  refine aw_goto (pc := 110) (tgt := 74) dX4_against_110 (by decide) ?_
  exact aw_wk (wk_same (wk_same (wk_same (wk_same wk_nil)))) (hk74 l1 l2 v10 σ)
noncomputable def fX4_against_B74 (k74 : Int32 → Int32 → Int32 → ST → Option (Int32 × ST)) (l1 : Int32) (l2 : Int32) (l3 : Int32) (σ : ST) : Option (Int32 × ST) :=
  if (σ.1 0 4) ≤ l3 then (cb (fX4_changeKind l1 1 σ) (fun r5 σ6 => some (l2, σ6))) else (if ib l3 6 = true then bindv (σ.2.1 4 l3.toNatClampNeg) (fun q7 => cb (fX1_settle q7 σ) (fun r8 σ9 => if ib l3 6 = true then if (σ9.1 6 l3.toNatClampNeg) ≤ r8 then (fX4_against_J107 k74 l1 l2 l3 σ9) else (bindv (l2 + 1) (fun v11 => fX4_against_J107 k74 l1 v11 l3 σ9)) else none)) else none)
set_option maxRecDepth 10000 in
theorem xX4_against_B74 (k74 : Int32 → Int32 → Int32 → ST → Option (Int32 × ST)) (hk74 : ∀ (l1 : Int32) (l2 : Int32) (l3 : Int32) (σ : ST), AW wlX yX4_against cX4_against 4 (some .int) rmX4_against emI (k74 l1 l2 l3 σ) 74 [some (.inr (some 0)), some (.inl l1), some (.inl l2), some (.inl l3)] [] σ) (l1 : Int32) (l2 : Int32) (l3 : Int32) (σ : ST) : AW wlX yX4_against cX4_against 4 (some .int) rmX4_against emI (fX4_against_B74 k74 l1 l2 l3 σ) 74 [some (.inr (some 0)), some (.inl l1), some (.inl l2), some (.inl l3)] [] σ := by
  unfold fX4_against_B74
  refine aw_iload_n (pc := 74) dX4_against_74 rfl rfl ?_
  refine aw_aload_n (pc := 75) dX4_against_75 rfl rfl ?_
  refine aw_get (pc := 76) (v := .inl (σ.1 0 4)) foX4_40 (atX0 _) rfl dX4_against_76 ?_
  refine aw_icmp_ge (pc := 79) (tgt := 113) dX4_against_79 (by decide) (fun _ => ?_) (fun _ => ?_)
  · refine aw_aload_n (pc := 113) dX4_against_113 rfl rfl ?_
    refine aw_iload_n (pc := 114) dX4_against_114 rfl rfl ?_
    refine aw_iconst (pc := 115) (v := 1) dX4_against_115 (by decide) ?_
    refine aw_cVV (pc := 116) (st := []) (xX4_changeKind l1 1 σ) (atX0 _) rfl ckX4_174 ⟨rfl, rfl, by decide, by decide⟩ (Nat.le_of_ble_eq_true rfl) dX4_against_116 rfl (fun r5 σ6 => ?_)
    refine aw_iload_n (pc := 119) dX4_against_119 rfl rfl ?_
    exact aw_ret_i (pc := 120) rfl rfl rfl dX4_against_120
  refine aw_aload_n (pc := 82) dX4_against_82 rfl rfl ?_
  refine aw_get (pc := 83) (v := .inr (some 3)) foX4_30 (atX0 _) rfl dX4_against_83 ?_
  refine aw_aload_n (pc := 86) dX4_against_86 rfl rfl ?_
  refine aw_get (pc := 87) (v := .inr (some 4)) foX4_36 (atX0 _) rfl dX4_against_87 ?_
  refine aw_iload_n (pc := 90) dX4_against_90 rfl rfl ?_
  refine aw_aaldB (pc := 91) (atX4 _) dX4_against_91 (fun q7 => ?_)
  refine aw_cVI (pc := 92) (st := []) (xX1_settle q7 σ) (atX3 _) rfl ckX4_145 ⟨rfl, rfl, by decide, by decide⟩ (Nat.le_of_ble_eq_true rfl) dX4_against_92 rfl (fun r8 σ9 => ?_)
  refine aw_aload_n (pc := 95) dX4_against_95 rfl rfl ?_
  refine aw_get (pc := 96) (v := .inr (some 6)) foX4_51 (atX0 _) rfl dX4_against_96 ?_
  refine aw_iload_n (pc := 99) dX4_against_99 rfl rfl ?_
  refine aw_iald' (pc := 100) (atX6 _) dX4_against_100 ?_
  refine aw_icmp_ge (pc := 101) (tgt := 107) dX4_against_101 (by decide) (fun _ => ?_) (fun _ => ?_)
  · exact aw_wk (wk_same (wk_same (wk_same (wk_same wk_nil)))) (xX4_against_J107 k74 hk74 l1 l2 l3 σ9)
  refine aw_iincB (pc := 104) (v := 1) (Lf := fun v11 => [some (.inr (some 0)), some (.inl l1), some (.inl v11), some (.inl l3)]) dX4_against_104 rfl (by decide) (by decide) (fun _ => rfl) (fun v11 => ?_)
  exact aw_wk (wk_same (wk_same (wk_same (wk_same wk_nil)))) (xX4_against_J107 k74 hk74 l1 v11 l3 σ9)
noncomputable def fX4_against_L74 (n : Nat) (l1 : Int32) (l2 : Int32) (l3 : Int32) (σ : ST) : Option (Int32 × ST) := loopN (α := Int32 × Int32 × Int32 × ST) (fun k a => fX4_against_B74 (fun l1 l2 l3 σ => k (l1, l2, l3, σ)) a.1 a.2.1 a.2.2.1 a.2.2.2) n (l1, l2, l3, σ)
theorem xX4_against_L74 (n : Nat) (l1 : Int32) (l2 : Int32) (l3 : Int32) (σ : ST) : AW wlX yX4_against cX4_against 4 (some .int) rmX4_against emI (fX4_against_L74 n l1 l2 l3 σ) 74 [some (.inr (some 0)), some (.inl l1), some (.inl l2), some (.inl l3)] [] σ :=
  aw_loop (α := Int32 × Int32 × Int32 × ST) (Lf := fun a => [some (.inr (some 0)), some (.inl (a.1)), some (.inl (a.2.1)), some (.inl (a.2.2.1))]) (sf := fun a => a.2.2.2) (fun k hk a => by
    obtain ⟨l1, l2, l3, σ⟩ := a
    exact xX4_against_B74 (fun l1 l2 l3 σ => k (l1, l2, l3, σ)) (fun l1 l2 l3 σ => hk (l1, l2, l3, σ)) l1 l2 l3 σ) n (l1, l2, l3, σ)
noncomputable def fX4_against_B31 (k31 : Int32 → Int32 → ST → Option (Int32 × ST)) (l1 : Int32) (l2 : Int32) (σ : ST) : Option (Int32 × ST) :=
  if (σ.1 0 4) ≤ l2 then (cb (fX4_changeKind l1 0 σ) (fun r3 σ4 => fX4_against_L74 FU l1 0 0 σ4)) else (if ib l2 6 = true then bindv (σ.2.1 4 l2.toNatClampNeg) (fun q12 => cb (fX1_settle q12 σ) (fun r13 σ14 => if ib l2 6 = true then bindv (stI σ14 6 l2.toNatClampNeg r13) (fun σ15 => bindv (l2 + 1) (fun v16 => k31 l1 v16 σ15)) else none)) else none)
set_option maxRecDepth 10000 in
theorem xX4_against_B31 (k31 : Int32 → Int32 → ST → Option (Int32 × ST)) (hk31 : ∀ (l1 : Int32) (l2 : Int32) (σ : ST), AW wlX yX4_against cX4_against 4 (some .int) rmX4_against emI (k31 l1 l2 σ) 31 [some (.inr (some 0)), some (.inl l1), some (.inl l2), none] [] σ) (l1 : Int32) (l2 : Int32) (σ : ST) : AW wlX yX4_against cX4_against 4 (some .int) rmX4_against emI (fX4_against_B31 k31 l1 l2 σ) 31 [some (.inr (some 0)), some (.inl l1), some (.inl l2), none] [] σ := by
  unfold fX4_against_B31
  refine aw_iload_n (pc := 31) dX4_against_31 rfl rfl ?_
  refine aw_aload_n (pc := 32) dX4_against_32 rfl rfl ?_
  refine aw_get (pc := 33) (v := .inl (σ.1 0 4)) foX4_40 (atX0 _) rfl dX4_against_33 ?_
  refine aw_icmp_ge (pc := 36) (tgt := 64) dX4_against_36 (by decide) (fun _ => ?_) (fun _ => ?_)
  · refine aw_aload_n (pc := 64) dX4_against_64 rfl rfl ?_
    refine aw_iload_n (pc := 65) dX4_against_65 rfl rfl ?_
    refine aw_iconst (pc := 66) (v := 0) dX4_against_66 (by decide) ?_
    refine aw_cVV (pc := 67) (st := []) (xX4_changeKind l1 0 σ) (atX0 _) rfl ckX4_174 ⟨rfl, rfl, by decide, by decide⟩ (Nat.le_of_ble_eq_true rfl) dX4_against_67 rfl (fun r3 σ4 => ?_)
    refine aw_iconst (pc := 70) (v := 0) dX4_against_70 (by decide) ?_
    refine aw_stn (pc := 71) (L' := [some (.inr (some 0)), some (.inl l1), some (.inl 0), none]) dX4_against_71 rfl (by decide) rfl ?_
    refine aw_iconst (pc := 72) (v := 0) dX4_against_72 (by decide) ?_
    refine aw_stn (pc := 73) (L' := [some (.inr (some 0)), some (.inl l1), some (.inl 0), some (.inl 0)]) dX4_against_73 rfl (by decide) rfl ?_
    exact aw_wk (wk_same (wk_same (wk_same (wk_same wk_nil)))) (xX4_against_L74 FU l1 0 0 σ4)
  refine aw_aload_n (pc := 39) dX4_against_39 rfl rfl ?_
  refine aw_get (pc := 40) (v := .inr (some 6)) foX4_51 (atX0 _) rfl dX4_against_40 ?_
  refine aw_iload_n (pc := 43) dX4_against_43 rfl rfl ?_
  refine aw_aload_n (pc := 44) dX4_against_44 rfl rfl ?_
  refine aw_get (pc := 45) (v := .inr (some 3)) foX4_30 (atX0 _) rfl dX4_against_45 ?_
  refine aw_aload_n (pc := 48) dX4_against_48 rfl rfl ?_
  refine aw_get (pc := 49) (v := .inr (some 4)) foX4_36 (atX0 _) rfl dX4_against_49 ?_
  refine aw_iload_n (pc := 52) dX4_against_52 rfl rfl ?_
  refine aw_aaldB (pc := 53) (atX4 _) dX4_against_53 (fun q12 => ?_)
  refine aw_cVI (pc := 54) (st := [.inl l2, .inr (some 6)]) (xX1_settle q12 σ) (atX3 _) rfl ckX4_145 ⟨rfl, rfl, by decide, by decide⟩ (Nat.le_of_ble_eq_true rfl) dX4_against_54 rfl (fun r13 σ14 => ?_)
  refine aw_iastB (pc := 57) (atX6 _) (stX6 _ _ _) dX4_against_57 (fun σ15 => ?_)
  refine aw_iincB (pc := 58) (v := 1) (Lf := fun v16 => [some (.inr (some 0)), some (.inl l1), some (.inl v16), none]) dX4_against_58 rfl (by decide) (by decide) (fun _ => rfl) (fun v16 => ?_)
  refine aw_goto (pc := 61) (tgt := 31) dX4_against_61 (by decide) ?_
  exact aw_wk (wk_same (wk_same (wk_same (wk_none wk_nil)))) (hk31 l1 v16 σ15)
noncomputable def fX4_against_L31 (n : Nat) (l1 : Int32) (l2 : Int32) (σ : ST) : Option (Int32 × ST) := loopN (α := Int32 × Int32 × ST) (fun k a => fX4_against_B31 (fun l1 l2 σ => k (l1, l2, σ)) a.1 a.2.1 a.2.2) n (l1, l2, σ)
theorem xX4_against_L31 (n : Nat) (l1 : Int32) (l2 : Int32) (σ : ST) : AW wlX yX4_against cX4_against 4 (some .int) rmX4_against emI (fX4_against_L31 n l1 l2 σ) 31 [some (.inr (some 0)), some (.inl l1), some (.inl l2), none] [] σ :=
  aw_loop (α := Int32 × Int32 × ST) (Lf := fun a => [some (.inr (some 0)), some (.inl (a.1)), some (.inl (a.2.1)), none]) (sf := fun a => a.2.2) (fun k hk a => by
    obtain ⟨l1, l2, σ⟩ := a
    exact xX4_against_B31 (fun l1 l2 σ => k (l1, l2, σ)) (fun l1 l2 σ => hk (l1, l2, σ)) l1 l2 σ) n (l1, l2, σ)
noncomputable def fX4_against (a1 : Int32) (σ : ST) : Option (Int32 × ST) :=
  cb (fX2_hasRoad a1 σ) (fun r1 σ2 => if r1 = 0 then (some ((-1), σ2)) else (if ib a1 30 = true then if (σ2.1 10 a1.toNatClampNeg) = 1 then (fX4_against_L31 FU a1 0 σ2) else (some ((-3), σ2)) else none))
set_option maxRecDepth 10000 in
theorem xX4_against (a1 : Int32) (σ : ST) : MS wlX yX4_against cX4_against 4 (some .int) rmX4_against emI [.inr (some 0), .inl a1] σ (fX4_against a1 σ) := by
  refine MS.of (by decide +kernel) (Nat.le_of_ble_eq_true rfl) ?_
  show AW wlX yX4_against cX4_against 4 (some .int) rmX4_against emI (fX4_against a1 σ) 0 [some (.inr (some 0)), some (.inl a1), none, none] [] σ
  unfold fX4_against
  refine aw_aload_n (pc := 0) dX4_against_0 rfl rfl ?_
  refine aw_get (pc := 1) (v := .inr (some 1)) foX4_12 (atX0 _) rfl dX4_against_1 ?_
  refine aw_iload_n (pc := 4) dX4_against_4 rfl rfl ?_
  refine aw_cVI (pc := 5) (st := []) (xX2_hasRoad a1 σ) (atX1 _) rfl ckX4_77 ⟨rfl, rfl, by decide, by decide⟩ (Nat.le_of_ble_eq_true rfl) dX4_against_5 rfl (fun r1 σ2 => ?_)
  refine aw_if_ne (pc := 8) (tgt := 13) dX4_against_8 (by decide) (fun _ => ?_) (fun _ => ?_)
  · refine aw_iconst (pc := 11) (v := (-1)) dX4_against_11 (by decide) ?_
    exact aw_ret_i (pc := 12) rfl rfl rfl dX4_against_12
  refine aw_aload_n (pc := 13) dX4_against_13 rfl rfl ?_
  refine aw_get (pc := 14) (v := .inr (some 1)) foX4_12 (atX0 _) rfl dX4_against_14 ?_
  refine aw_get (pc := 17) (v := .inr (some 10)) foX4_171 (atX1 _) rfl dX4_against_17 ?_
  refine aw_iload_n (pc := 20) dX4_against_20 rfl rfl ?_
  refine aw_iald' (pc := 21) (atX10 _) dX4_against_21 ?_
  refine aw_iconst (pc := 22) (v := 1) dX4_against_22 (by decide) ?_
  refine aw_icmp_eq (pc := 23) (tgt := 29) dX4_against_23 (by decide) (fun _ => ?_) (fun _ => ?_)
  · refine aw_iconst (pc := 29) (v := 0) dX4_against_29 (by decide) ?_
    refine aw_stn (pc := 30) (L' := [some (.inr (some 0)), some (.inl a1), some (.inl 0), none]) dX4_against_30 rfl (by decide) rfl ?_
    exact aw_wk (wk_same (wk_same (wk_same (wk_none wk_nil)))) (xX4_against_L31 FU a1 0 σ2)
  refine aw_bipush (pc := 26) (v := (-3)) dX4_against_26 (by decide) ?_
  exact aw_ret_i (pc := 28) rfl rfl rfl dX4_against_28
abbrev rmX4_countSights : Room := { frames := 1, cells := 0, slots := 0, locals := 21 }
noncomputable def fX4_countSights_J29 (k4 : Int32 → Int32 → ST → Option (Int32 × ST)) (l1 : Int32) (l2 : Int32) (σ : ST) : Option (Int32 × ST) :=
  bindv (l2 + 1) (fun v4 => k4 l1 v4 σ)
set_option maxRecDepth 10000 in
theorem xX4_countSights_J29 (k4 : Int32 → Int32 → ST → Option (Int32 × ST)) (hk4 : ∀ (l1 : Int32) (l2 : Int32) (σ : ST), AW wlX yX4_countSights cX4_countSights 4 (some .int) rmX4_countSights emI (k4 l1 l2 σ) 4 [some (.inr (some 0)), some (.inl l1), some (.inl l2), none] [] σ) (l1 : Int32) (l2 : Int32) (σ : ST) : AW wlX yX4_countSights cX4_countSights 4 (some .int) rmX4_countSights emI (fX4_countSights_J29 k4 l1 l2 σ) 29 [some (.inr (some 0)), some (.inl l1), some (.inl l2), none] [] σ := by
  unfold fX4_countSights_J29
  refine aw_iincB (pc := 29) (v := 1) (Lf := fun v4 => [some (.inr (some 0)), some (.inl l1), some (.inl v4), none]) dX4_countSights_29 rfl (by decide) (by decide) (fun _ => rfl) (fun v4 => ?_)
  refine aw_goto (pc := 32) (tgt := 4) dX4_countSights_32 (by decide) ?_
  exact aw_wk (wk_same (wk_same (wk_same (wk_none wk_nil)))) (hk4 l1 v4 σ)
noncomputable def fX4_countSights_B4 (k4 : Int32 → Int32 → ST → Option (Int32 × ST)) (l1 : Int32) (l2 : Int32) (σ : ST) : Option (Int32 × ST) :=
  if (σ.1 0 4) ≤ l2 then (some (l1, σ)) else (cb (fX4_findDrive l2 σ) (fun r1 σ2 => r1.elim (fX4_countSights_J29 k4 l1 l2 σ2) (fun k3 => if isDr σ2 k3 = true then bindv (l1 + (σ2.1 k3 0)) (fun v5 => fX4_countSights_J29 k4 v5 l2 σ2) else none)))
set_option maxRecDepth 10000 in
theorem xX4_countSights_B4 (k4 : Int32 → Int32 → ST → Option (Int32 × ST)) (hk4 : ∀ (l1 : Int32) (l2 : Int32) (σ : ST), AW wlX yX4_countSights cX4_countSights 4 (some .int) rmX4_countSights emI (k4 l1 l2 σ) 4 [some (.inr (some 0)), some (.inl l1), some (.inl l2), none] [] σ) (l1 : Int32) (l2 : Int32) (σ : ST) : AW wlX yX4_countSights cX4_countSights 4 (some .int) rmX4_countSights emI (fX4_countSights_B4 k4 l1 l2 σ) 4 [some (.inr (some 0)), some (.inl l1), some (.inl l2), none] [] σ := by
  unfold fX4_countSights_B4
  refine aw_iload_n (pc := 4) dX4_countSights_4 rfl rfl ?_
  refine aw_aload_n (pc := 5) dX4_countSights_5 rfl rfl ?_
  refine aw_get (pc := 6) (v := .inl (σ.1 0 4)) foX4_40 (atX0 _) rfl dX4_countSights_6 ?_
  refine aw_icmp_ge (pc := 9) (tgt := 35) dX4_countSights_9 (by decide) (fun _ => ?_) (fun _ => ?_)
  · refine aw_iload_n (pc := 35) dX4_countSights_35 rfl rfl ?_
    exact aw_ret_i (pc := 36) rfl rfl rfl dX4_countSights_36
  refine aw_aload_n (pc := 12) dX4_countSights_12 rfl rfl ?_
  refine aw_iload_n (pc := 13) dX4_countSights_13 rfl rfl ?_
  refine aw_cVR (pc := 14) (st := []) (xX4_findDrive l2 σ) (atX0 _) rfl ckX4_98 ⟨rfl, rfl, by decide, by decide⟩ (Nat.le_of_ble_eq_true rfl) dX4_countSights_14 rfl (fun r1 σ2 => ?_)
  refine aw_astn (pc := 17) (L' := [some (.inr (some 0)), some (.inl l1), some (.inl l2), some (.inr r1)]) dX4_countSights_17 rfl (by decide) rfl ?_
  refine aw_aload_n (pc := 18) dX4_countSights_18 rfl rfl ?_
  refine aw_elim (pc := 19) (tgt := 29) dX4_countSights_19 (by decide) (fun _ => ?_) (fun k3 hk3 => ?_)
  · exact aw_wk (wk_same (wk_same (wk_same (wk_none wk_nil)))) (xX4_countSights_J29 k4 hk4 l1 l2 σ2)
  subst hk3
  refine aw_iload_n (pc := 22) dX4_countSights_22 rfl rfl ?_
  refine aw_aload_n (pc := 23) dX4_countSights_23 rfl rfl ?_
  refine aw_getD (pc := 24) (v := .inl (σ2.1 k3 0)) foX4_113 rfl dX4_countSights_24 ?_
  refine aw_iadd (pc := 27) dX4_countSights_27 ?_
  refine aw_stnB (pc := 28) (Lf := fun v5 => [some (.inr (some 0)), some (.inl v5), some (.inl l2), some (.inr (some k3))]) dX4_countSights_28 rfl (by decide) (fun _ => rfl) (fun v5 => ?_)
  exact aw_wk (wk_same (wk_same (wk_same (wk_none wk_nil)))) (xX4_countSights_J29 k4 hk4 v5 l2 σ2)
noncomputable def fX4_countSights_L4 (n : Nat) (l1 : Int32) (l2 : Int32) (σ : ST) : Option (Int32 × ST) := loopN (α := Int32 × Int32 × ST) (fun k a => fX4_countSights_B4 (fun l1 l2 σ => k (l1, l2, σ)) a.1 a.2.1 a.2.2) n (l1, l2, σ)
theorem xX4_countSights_L4 (n : Nat) (l1 : Int32) (l2 : Int32) (σ : ST) : AW wlX yX4_countSights cX4_countSights 4 (some .int) rmX4_countSights emI (fX4_countSights_L4 n l1 l2 σ) 4 [some (.inr (some 0)), some (.inl l1), some (.inl l2), none] [] σ :=
  aw_loop (α := Int32 × Int32 × ST) (Lf := fun a => [some (.inr (some 0)), some (.inl (a.1)), some (.inl (a.2.1)), none]) (sf := fun a => a.2.2) (fun k hk a => by
    obtain ⟨l1, l2, σ⟩ := a
    exact xX4_countSights_B4 (fun l1 l2 σ => k (l1, l2, σ)) (fun l1 l2 σ => hk (l1, l2, σ)) l1 l2 σ) n (l1, l2, σ)
noncomputable def fX4_countSights (σ : ST) : Option (Int32 × ST) :=
  fX4_countSights_L4 FU 0 0 σ
set_option maxRecDepth 10000 in
theorem xX4_countSights (σ : ST) : MS wlX yX4_countSights cX4_countSights 4 (some .int) rmX4_countSights emI [.inr (some 0)] σ (fX4_countSights σ) := by
  refine MS.of (by decide +kernel) (Nat.le_of_ble_eq_true rfl) ?_
  show AW wlX yX4_countSights cX4_countSights 4 (some .int) rmX4_countSights emI (fX4_countSights σ) 0 [some (.inr (some 0)), none, none, none] [] σ
  unfold fX4_countSights
  refine aw_iconst (pc := 0) (v := 0) dX4_countSights_0 (by decide) ?_
  refine aw_stn (pc := 1) (L' := [some (.inr (some 0)), some (.inl 0), none, none]) dX4_countSights_1 rfl (by decide) rfl ?_
  refine aw_iconst (pc := 2) (v := 0) dX4_countSights_2 (by decide) ?_
  refine aw_stn (pc := 3) (L' := [some (.inr (some 0)), some (.inl 0), some (.inl 0), none]) dX4_countSights_3 rfl (by decide) rfl ?_
  exact aw_wk (wk_same (wk_same (wk_same (wk_none wk_nil)))) (xX4_countSights_L4 FU 0 0 σ)
abbrev rmX4_count : Room := { frames := 2, cells := 0, slots := 0, locals := 44 }
noncomputable def fX4_count (a1 : Int32) (σ : ST) : Option (Int32 × ST) :=
  if a1 = 0 then (some ((σ.1 1 0), σ)) else (if a1 = 1 then (some ((σ.1 1 3), σ)) else (if a1 = 2 then (some ((σ.1 0 4), σ)) else (if a1 = 3 then (cb (fX4_countSights σ) (fun r1 σ2 => some (r1, σ2))) else (if a1 = 4 then (some ((σ.1 0 6), σ)) else (some ((-1), σ))))))
set_option maxRecDepth 10000 in
theorem xX4_count (a1 : Int32) (σ : ST) : MS wlX yX4_count cX4_count 2 (some .int) rmX4_count emI [.inr (some 0), .inl a1] σ (fX4_count a1 σ) := by
  refine MS.of (by decide +kernel) (Nat.le_of_ble_eq_true rfl) ?_
  show AW wlX yX4_count cX4_count 2 (some .int) rmX4_count emI (fX4_count a1 σ) 0 [some (.inr (some 0)), some (.inl a1)] [] σ
  unfold fX4_count
  refine aw_iload_n (pc := 0) dX4_count_0 rfl rfl ?_
  refine aw_switch5 (pc := 1) (t0 := 36) (t1 := 44) (t2 := 52) (t3 := 57) (t4 := 62) (td := 67) dX4_count_1 (by decide) (by decide) (by decide) (by decide) (by decide) (by decide) ?_ ?_ ?_ ?_ ?_ ?_
  · refine aw_aload_n (pc := 36) dX4_count_36 rfl rfl ?_
    refine aw_get (pc := 37) (v := .inr (some 1)) foX4_12 (atX0 _) rfl dX4_count_37 ?_
    refine aw_get (pc := 40) (v := .inl (σ.1 1 0)) foX4_178 (atX1 _) rfl dX4_count_40 ?_
    exact aw_ret_i (pc := 43) rfl rfl rfl dX4_count_43
  · refine aw_aload_n (pc := 44) dX4_count_44 rfl rfl ?_
    refine aw_get (pc := 45) (v := .inr (some 1)) foX4_12 (atX0 _) rfl dX4_count_45 ?_
    refine aw_get (pc := 48) (v := .inl (σ.1 1 3)) foX4_181 (atX1 _) rfl dX4_count_48 ?_
    exact aw_ret_i (pc := 51) rfl rfl rfl dX4_count_51
  · refine aw_aload_n (pc := 52) dX4_count_52 rfl rfl ?_
    refine aw_get (pc := 53) (v := .inl (σ.1 0 4)) foX4_40 (atX0 _) rfl dX4_count_53 ?_
    exact aw_ret_i (pc := 56) rfl rfl rfl dX4_count_56
  · refine aw_aload_n (pc := 57) dX4_count_57 rfl rfl ?_
    refine aw_cVI (pc := 58) (st := []) (xX4_countSights σ) (atX0 _) rfl ckX4_184 ⟨rfl, rfl, by decide, by decide⟩ (Nat.le_of_ble_eq_true rfl) dX4_count_58 rfl (fun r1 σ2 => ?_)
    exact aw_ret_i (pc := 61) rfl rfl rfl dX4_count_61
  · refine aw_aload_n (pc := 62) dX4_count_62 rfl rfl ?_
    refine aw_get (pc := 63) (v := .inl (σ.1 0 6)) foX4_48 (atX0 _) rfl dX4_count_63 ?_
    exact aw_ret_i (pc := 66) rfl rfl rfl dX4_count_66
  refine aw_iconst (pc := 67) (v := (-1)) dX4_count_67 (by decide) ?_
  exact aw_ret_i (pc := 68) rfl rfl rfl dX4_count_68
