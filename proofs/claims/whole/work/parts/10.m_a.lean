-- printed by gen2.py: methods as functions over stores, tied to their bytecode
abbrev rmX5_within : Room := { frames := 0, cells := 0, slots := 0, locals := 0 }
noncomputable def fX5_within (a0 : Int32) (a1 : Int32) (a2 : Int32) (σ : ST) : Option (Int32 × ST) :=
  if a0 < a1 then (some (0, σ)) else (if a2 < a0 then (some (0, σ)) else (some (1, σ)))
set_option maxRecDepth 10000 in
theorem xX5_within (a0 : Int32) (a1 : Int32) (a2 : Int32) (σ : ST) : MS wlM yX5_within cX5_within 3 (some .boolean) rmX5_within emI [.inl a0, .inl a1, .inl a2] σ (fX5_within a0 a1 a2 σ) := by
  refine MS.of (by decide +kernel) (Nat.le_of_ble_eq_true rfl) ?_
  show AW wlM yX5_within cX5_within 3 (some .boolean) rmX5_within emI (fX5_within a0 a1 a2 σ) 0 [some (.inl a0), some (.inl a1), some (.inl a2)] [] σ
  unfold fX5_within
  refine aw_iload_n (pc := 0) dX5_within_0 rfl rfl ?_
  refine aw_iload_n (pc := 1) dX5_within_1 rfl rfl ?_
  refine aw_icmp_lt (pc := 2) (tgt := 14) dX5_within_2 (by decide) (fun _ => ?_) (fun _ => ?_)
  · refine aw_iconst (pc := 14) (v := 0) dX5_within_14 (by decide) ?_
    exact aw_ret_i (pc := 15) rfl rfl rfl dX5_within_15
  refine aw_iload_n (pc := 5) dX5_within_5 rfl rfl ?_
  refine aw_iload_n (pc := 6) dX5_within_6 rfl rfl ?_
  refine aw_icmp_gt (pc := 7) (tgt := 14) dX5_within_7 (by decide) (fun _ => ?_) (fun _ => ?_)
  · refine aw_iconst (pc := 14) (v := 0) dX5_within_14 (by decide) ?_
    exact aw_ret_i (pc := 15) rfl rfl rfl dX5_within_15
  refine aw_iconst (pc := 10) (v := 1) dX5_within_10 (by decide) ?_
  refine aw_goto (pc := 11) (tgt := 15) dX5_within_11 (by decide) ?_
  exact aw_ret_i (pc := 15) rfl rfl rfl dX5_within_15
abbrev rmX5_knot : Room := { frames := 1, cells := 0, slots := 0, locals := 22 }
noncomputable def fX5_knot (a1 : Int32) (a2 : Int32) (σ : ST) : Option (Int32 × ST) :=
  cb (fX5_within a1 0 99 σ) (fun r1 σ2 => if r1 = 0 then (some ((-1), σ2)) else (cb (fX5_within a2 0 99 σ2) (fun r3 σ4 => if r3 = 0 then (some ((-1), σ4)) else (if (σ4.1 0 2) = 16 then (some ((-2), σ4)) else (if ib (σ4.1 0 2) 16 = true then bindv (stI σ4 1 (σ4.1 0 2).toNatClampNeg a1) (fun σ5 => if ib (σ5.1 0 2) 16 = true then bindv (stI σ5 2 (σ5.1 0 2).toNatClampNeg a2) (fun σ6 => bindv (stI σ6 0 2 ((σ6.1 0 2) + 1)) (fun σ7 => some (((σ7.1 0 2) - 1), σ7))) else none) else none)))))
set_option maxRecDepth 10000 in
theorem xX5_knot (a1 : Int32) (a2 : Int32) (σ : ST) : MS wlM yX5_knot cX5_knot 3 (some .int) rmX5_knot emI [.inr (some 0), .inl a1, .inl a2] σ (fX5_knot a1 a2 σ) := by
  refine MS.of (by decide +kernel) (Nat.le_of_ble_eq_true rfl) ?_
  show AW wlM yX5_knot cX5_knot 3 (some .int) rmX5_knot emI (fX5_knot a1 a2 σ) 0 [some (.inr (some 0)), some (.inl a1), some (.inl a2)] [] σ
  unfold fX5_knot
  refine aw_iload_n (pc := 0) dX5_knot_0 rfl rfl ?_
  refine aw_iconst (pc := 1) (v := 0) dX5_knot_1 (by decide) ?_
  refine aw_bipush (pc := 2) (v := 99) dX5_knot_2 (by decide) ?_
  refine aw_cSI (pc := 4) (st := []) (xX5_within a1 0 99 σ) ckX5_87 ⟨rfl, rfl, by decide, by decide⟩ (Nat.le_of_ble_eq_true rfl) dX5_knot_4 rfl (fun r1 σ2 => ?_)
  refine aw_if_eq (pc := 7) (tgt := 20) dX5_knot_7 (by decide) (fun _ => ?_) (fun _ => ?_)
  · refine aw_iconst (pc := 20) (v := (-1)) dX5_knot_20 (by decide) ?_
    exact aw_ret_i (pc := 21) rfl rfl rfl dX5_knot_21
  refine aw_iload_n (pc := 10) dX5_knot_10 rfl rfl ?_
  refine aw_iconst (pc := 11) (v := 0) dX5_knot_11 (by decide) ?_
  refine aw_bipush (pc := 12) (v := 99) dX5_knot_12 (by decide) ?_
  refine aw_cSI (pc := 14) (st := []) (xX5_within a2 0 99 σ2) ckX5_87 ⟨rfl, rfl, by decide, by decide⟩ (Nat.le_of_ble_eq_true rfl) dX5_knot_14 rfl (fun r3 σ4 => ?_)
  refine aw_if_ne (pc := 17) (tgt := 22) dX5_knot_17 (by decide) (fun _ => ?_) (fun _ => ?_)
  · refine aw_iconst (pc := 20) (v := (-1)) dX5_knot_20 (by decide) ?_
    exact aw_ret_i (pc := 21) rfl rfl rfl dX5_knot_21
  refine aw_aload_n (pc := 22) dX5_knot_22 rfl rfl ?_
  refine aw_get (pc := 23) (v := .inl (σ4.1 0 2)) foX5_91 (atM0 _) rfl dX5_knot_23 ?_
  refine aw_bipush (pc := 26) (v := 16) dX5_knot_26 (by decide) ?_
  refine aw_icmp_ne (pc := 28) (tgt := 34) dX5_knot_28 (by decide) (fun _ => ?_) (fun _ => ?_)
  · refine aw_bipush (pc := 31) (v := (-2)) dX5_knot_31 (by decide) ?_
    exact aw_ret_i (pc := 33) rfl rfl rfl dX5_knot_33
  refine aw_aload_n (pc := 34) dX5_knot_34 rfl rfl ?_
  refine aw_get (pc := 35) (v := .inr (some 1)) foX5_9 (atM0 _) rfl dX5_knot_35 ?_
  refine aw_aload_n (pc := 38) dX5_knot_38 rfl rfl ?_
  refine aw_get (pc := 39) (v := .inl (σ4.1 0 2)) foX5_91 (atM0 _) rfl dX5_knot_39 ?_
  refine aw_iload_n (pc := 42) dX5_knot_42 rfl rfl ?_
  refine aw_iastB (pc := 43) (atM1 _) (stM1 _ _ _) dX5_knot_43 (fun σ5 => ?_)
  refine aw_aload_n (pc := 44) dX5_knot_44 rfl rfl ?_
  refine aw_get (pc := 45) (v := .inr (some 2)) foX5_13 (atM0 _) rfl dX5_knot_45 ?_
  refine aw_aload_n (pc := 48) dX5_knot_48 rfl rfl ?_
  refine aw_get (pc := 49) (v := .inl (σ5.1 0 2)) foX5_91 (atM0 _) rfl dX5_knot_49 ?_
  refine aw_iload_n (pc := 52) dX5_knot_52 rfl rfl ?_
  refine aw_iastB (pc := 53) (atM2 _) (stM2 _ _ _) dX5_knot_53 (fun σ6 => ?_)
  refine aw_aload_n (pc := 54) dX5_knot_54 rfl rfl ?_
  refine aw_dup (pc := 55) dX5_knot_55 ?_
  refine aw_get (pc := 56) (v := .inl (σ6.1 0 2)) foX5_91 (atM0 _) rfl dX5_knot_56 ?_
  refine aw_iconst (pc := 59) (v := 1) dX5_knot_59 (by decide) ?_
  refine aw_iadd (pc := 60) dX5_knot_60 ?_
  refine aw_putI (pc := 61) fwX5_91 (atM0 _) (Nat.le_of_ble_eq_true rfl) (stM0_2 _ _) dX5_knot_61 (fun σ7 => ?_)
  refine aw_aload_n (pc := 64) dX5_knot_64 rfl rfl ?_
  refine aw_get (pc := 65) (v := .inl (σ7.1 0 2)) foX5_91 (atM0 _) rfl dX5_knot_65 ?_
  refine aw_iconst (pc := 68) (v := 1) dX5_knot_68 (by decide) ?_
  refine aw_isub (pc := 69) dX5_knot_69 ?_
  exact aw_ret_i (pc := 70) rfl rfl rfl dX5_knot_70
abbrev rmX5_isKnot : Room := { frames := 0, cells := 0, slots := 0, locals := 0 }
noncomputable def fX5_isKnot (a1 : Int32) (σ : ST) : Option (Int32 × ST) :=
  if a1 < 0 then (some (0, σ)) else (if (σ.1 0 2) ≤ a1 then (some (0, σ)) else (some (1, σ)))
set_option maxRecDepth 10000 in
theorem xX5_isKnot (a1 : Int32) (σ : ST) : MS wlM yX5_isKnot cX5_isKnot 2 (some .boolean) rmX5_isKnot emI [.inr (some 0), .inl a1] σ (fX5_isKnot a1 σ) := by
  refine MS.of (by decide +kernel) (Nat.le_of_ble_eq_true rfl) ?_
  show AW wlM yX5_isKnot cX5_isKnot 2 (some .boolean) rmX5_isKnot emI (fX5_isKnot a1 σ) 0 [some (.inr (some 0)), some (.inl a1)] [] σ
  unfold fX5_isKnot
  refine aw_iload_n (pc := 0) dX5_isKnot_0 rfl rfl ?_
  refine aw_if_lt (pc := 1) (tgt := 16) dX5_isKnot_1 (by decide) (fun _ => ?_) (fun _ => ?_)
  · refine aw_iconst (pc := 16) (v := 0) dX5_isKnot_16 (by decide) ?_
    exact aw_ret_i (pc := 17) rfl rfl rfl dX5_isKnot_17
  refine aw_iload_n (pc := 4) dX5_isKnot_4 rfl rfl ?_
  refine aw_aload_n (pc := 5) dX5_isKnot_5 rfl rfl ?_
  refine aw_get (pc := 6) (v := .inl (σ.1 0 2)) foX5_91 (atM0 _) rfl dX5_isKnot_6 ?_
  refine aw_icmp_ge (pc := 9) (tgt := 16) dX5_isKnot_9 (by decide) (fun _ => ?_) (fun _ => ?_)
  · refine aw_iconst (pc := 16) (v := 0) dX5_isKnot_16 (by decide) ?_
    exact aw_ret_i (pc := 17) rfl rfl rfl dX5_isKnot_17
  refine aw_iconst (pc := 12) (v := 1) dX5_isKnot_12 (by decide) ?_
  refine aw_goto (pc := 13) (tgt := 17) dX5_isKnot_13 (by decide) ?_
  exact aw_ret_i (pc := 17) rfl rfl rfl dX5_isKnot_17
abbrev rmX5_isRoad : Room := { frames := 0, cells := 0, slots := 0, locals := 0 }
noncomputable def fX5_isRoad (a1 : Int32) (σ : ST) : Option (Int32 × ST) :=
  if a1 < 0 then (some (0, σ)) else (if (σ.1 0 8) ≤ a1 then (some (0, σ)) else (some (1, σ)))
set_option maxRecDepth 10000 in
theorem xX5_isRoad (a1 : Int32) (σ : ST) : MS wlM yX5_isRoad cX5_isRoad 2 (some .boolean) rmX5_isRoad emI [.inr (some 0), .inl a1] σ (fX5_isRoad a1 σ) := by
  refine MS.of (by decide +kernel) (Nat.le_of_ble_eq_true rfl) ?_
  show AW wlM yX5_isRoad cX5_isRoad 2 (some .boolean) rmX5_isRoad emI (fX5_isRoad a1 σ) 0 [some (.inr (some 0)), some (.inl a1)] [] σ
  unfold fX5_isRoad
  refine aw_iload_n (pc := 0) dX5_isRoad_0 rfl rfl ?_
  refine aw_if_lt (pc := 1) (tgt := 16) dX5_isRoad_1 (by decide) (fun _ => ?_) (fun _ => ?_)
  · refine aw_iconst (pc := 16) (v := 0) dX5_isRoad_16 (by decide) ?_
    exact aw_ret_i (pc := 17) rfl rfl rfl dX5_isRoad_17
  refine aw_iload_n (pc := 4) dX5_isRoad_4 rfl rfl ?_
  refine aw_aload_n (pc := 5) dX5_isRoad_5 rfl rfl ?_
  refine aw_get (pc := 6) (v := .inl (σ.1 0 8)) foX5_94 (atM0 _) rfl dX5_isRoad_6 ?_
  refine aw_icmp_ge (pc := 9) (tgt := 16) dX5_isRoad_9 (by decide) (fun _ => ?_) (fun _ => ?_)
  · refine aw_iconst (pc := 16) (v := 0) dX5_isRoad_16 (by decide) ?_
    exact aw_ret_i (pc := 17) rfl rfl rfl dX5_isRoad_17
  refine aw_iconst (pc := 12) (v := 1) dX5_isRoad_12 (by decide) ?_
  refine aw_goto (pc := 13) (tgt := 17) dX5_isRoad_13 (by decide) ?_
  exact aw_ret_i (pc := 17) rfl rfl rfl dX5_isRoad_17
abbrev rmX5_isPoint : Room := { frames := 0, cells := 0, slots := 0, locals := 0 }
noncomputable def fX5_isPoint (a1 : Int32) (σ : ST) : Option (Int32 × ST) :=
  if a1 < 0 then (some (0, σ)) else (if (5 * (σ.1 0 8)) ≤ a1 then (some (0, σ)) else (some (1, σ)))
set_option maxRecDepth 10000 in
theorem xX5_isPoint (a1 : Int32) (σ : ST) : MS wlM yX5_isPoint cX5_isPoint 2 (some .boolean) rmX5_isPoint emI [.inr (some 0), .inl a1] σ (fX5_isPoint a1 σ) := by
  refine MS.of (by decide +kernel) (Nat.le_of_ble_eq_true rfl) ?_
  show AW wlM yX5_isPoint cX5_isPoint 2 (some .boolean) rmX5_isPoint emI (fX5_isPoint a1 σ) 0 [some (.inr (some 0)), some (.inl a1)] [] σ
  unfold fX5_isPoint
  refine aw_iload_n (pc := 0) dX5_isPoint_0 rfl rfl ?_
  refine aw_if_lt (pc := 1) (tgt := 18) dX5_isPoint_1 (by decide) (fun _ => ?_) (fun _ => ?_)
  · refine aw_iconst (pc := 18) (v := 0) dX5_isPoint_18 (by decide) ?_
    exact aw_ret_i (pc := 19) rfl rfl rfl dX5_isPoint_19
  refine aw_iload_n (pc := 4) dX5_isPoint_4 rfl rfl ?_
  refine aw_iconst (pc := 5) (v := 5) dX5_isPoint_5 (by decide) ?_
  refine aw_aload_n (pc := 6) dX5_isPoint_6 rfl rfl ?_
  refine aw_get (pc := 7) (v := .inl (σ.1 0 8)) foX5_94 (atM0 _) rfl dX5_isPoint_7 ?_
  refine aw_imul (pc := 10) dX5_isPoint_10 ?_
  refine aw_icmp_ge (pc := 11) (tgt := 18) dX5_isPoint_11 (by decide) (fun _ => ?_) (fun _ => ?_)
  · refine aw_iconst (pc := 18) (v := 0) dX5_isPoint_18 (by decide) ?_
    exact aw_ret_i (pc := 19) rfl rfl rfl dX5_isPoint_19
  refine aw_iconst (pc := 14) (v := 1) dX5_isPoint_14 (by decide) ?_
  refine aw_goto (pc := 15) (tgt := 19) dX5_isPoint_15 (by decide) ?_
  exact aw_ret_i (pc := 19) rfl rfl rfl dX5_isPoint_19
abbrev rmX5_road : Room := { frames := 1, cells := 0, slots := 0, locals := 22 }
noncomputable def fX5_road_J83 (l1 : Int32) (l2 : Int32) (l3 : Int32) (l4 : Int32) (σ : ST) : Option (Int32 × ST) :=
  if (σ.1 0 8) = 30 then (some ((-2), σ)) else (if ib (σ.1 0 8) 30 = true then bindv (stI σ 3 (σ.1 0 8).toNatClampNeg (l1 / 100)) (fun σ11 => if ib (σ11.1 0 8) 30 = true then bindv (stI σ11 4 (σ11.1 0 8).toNatClampNeg (l1 - l1 / 100 * 100)) (fun σ12 => if ib (σ12.1 0 8) 30 = true then bindv (stI σ12 5 (σ12.1 0 8).toNatClampNeg l2) (fun σ13 => if ib (σ13.1 0 8) 30 = true then bindv (stI σ13 6 (σ13.1 0 8).toNatClampNeg l3) (fun σ14 => if ib (σ14.1 0 8) 30 = true then bindv (stI σ14 7 (σ14.1 0 8).toNatClampNeg l4) (fun σ15 => bindv (stI σ15 0 8 ((σ15.1 0 8) + 1)) (fun σ16 => bindv (stI σ16 0 20 0) (fun σ17 => some (((σ17.1 0 8) - 1), σ17)))) else none) else none) else none) else none) else none)
set_option maxRecDepth 10000 in
theorem xX5_road_J83 (l1 : Int32) (l2 : Int32) (l3 : Int32) (l4 : Int32) (σ : ST) : AW wlM yX5_road cX5_road 5 (some .int) rmX5_road emI (fX5_road_J83 l1 l2 l3 l4 σ) 83 [some (.inr (some 0)), some (.inl l1), some (.inl l2), some (.inl l3), some (.inl l4)] [] σ := by
  unfold fX5_road_J83
  refine aw_aload_n (pc := 83) dX5_road_83 rfl rfl ?_
  refine aw_get (pc := 84) (v := .inl (σ.1 0 8)) foX5_94 (atM0 _) rfl dX5_road_84 ?_
  refine aw_bipush (pc := 87) (v := 30) dX5_road_87 (by decide) ?_
  refine aw_icmp_ne (pc := 89) (tgt := 95) dX5_road_89 (by decide) (fun _ => ?_) (fun _ => ?_)
  · refine aw_bipush (pc := 92) (v := (-2)) dX5_road_92 (by decide) ?_
    exact aw_ret_i (pc := 94) rfl rfl rfl dX5_road_94
  refine aw_aload_n (pc := 95) dX5_road_95 rfl rfl ?_
  refine aw_get (pc := 96) (v := .inr (some 3)) foX5_16 (atM0 _) rfl dX5_road_96 ?_
  refine aw_aload_n (pc := 99) dX5_road_99 rfl rfl ?_
  refine aw_get (pc := 100) (v := .inl (σ.1 0 8)) foX5_94 (atM0 _) rfl dX5_road_100 ?_
  refine aw_iload_n (pc := 103) dX5_road_103 rfl rfl ?_
  refine aw_bipush (pc := 104) (v := 100) dX5_road_104 (by decide) ?_
  refine aw_idiv (pc := 106) dX5_road_106 (by decide) ?_
  refine aw_iastB (pc := 107) (atM3 _) (stM3 _ _ _) dX5_road_107 (fun σ11 => ?_)
  refine aw_aload_n (pc := 108) dX5_road_108 rfl rfl ?_
  refine aw_get (pc := 109) (v := .inr (some 4)) foX5_19 (atM0 _) rfl dX5_road_109 ?_
  refine aw_aload_n (pc := 112) dX5_road_112 rfl rfl ?_
  refine aw_get (pc := 113) (v := .inl (σ11.1 0 8)) foX5_94 (atM0 _) rfl dX5_road_113 ?_
  refine aw_iload_n (pc := 116) dX5_road_116 rfl rfl ?_
  refine aw_bipush (pc := 117) (v := 100) dX5_road_117 (by decide) ?_
  refine aw_irem (pc := 119) dX5_road_119 (by decide) ?_
  refine aw_iastB (pc := 120) (atM4 _) (stM4 _ _ _) dX5_road_120 (fun σ12 => ?_)
  refine aw_aload_n (pc := 121) dX5_road_121 rfl rfl ?_
  refine aw_get (pc := 122) (v := .inr (some 5)) foX5_22 (atM0 _) rfl dX5_road_122 ?_
  refine aw_aload_n (pc := 125) dX5_road_125 rfl rfl ?_
  refine aw_get (pc := 126) (v := .inl (σ12.1 0 8)) foX5_94 (atM0 _) rfl dX5_road_126 ?_
  refine aw_iload_n (pc := 129) dX5_road_129 rfl rfl ?_
  refine aw_iastB (pc := 130) (atM5 _) (stM5 _ _ _) dX5_road_130 (fun σ13 => ?_)
  refine aw_aload_n (pc := 131) dX5_road_131 rfl rfl ?_
  refine aw_get (pc := 132) (v := .inr (some 6)) foX5_25 (atM0 _) rfl dX5_road_132 ?_
  refine aw_aload_n (pc := 135) dX5_road_135 rfl rfl ?_
  refine aw_get (pc := 136) (v := .inl (σ13.1 0 8)) foX5_94 (atM0 _) rfl dX5_road_136 ?_
  refine aw_iload_n (pc := 139) dX5_road_139 rfl rfl ?_
  refine aw_iastB (pc := 140) (atM6 _) (stM6 _ _ _) dX5_road_140 (fun σ14 => ?_)
  refine aw_aload_n (pc := 141) dX5_road_141 rfl rfl ?_
  refine aw_get (pc := 142) (v := .inr (some 7)) foX5_28 (atM0 _) rfl dX5_road_142 ?_
  refine aw_aload_n (pc := 145) dX5_road_145 rfl rfl ?_
  refine aw_get (pc := 146) (v := .inl (σ14.1 0 8)) foX5_94 (atM0 _) rfl dX5_road_146 ?_
  refine aw_iload (pc := 149) dX5_road_149 rfl ?_
  refine aw_iastB (pc := 151) (atM7 _) (stM7 _ _ _) dX5_road_151 (fun σ15 => ?_)
  refine aw_aload_n (pc := 152) dX5_road_152 rfl rfl ?_
  refine aw_dup (pc := 153) dX5_road_153 ?_
  refine aw_get (pc := 154) (v := .inl (σ15.1 0 8)) foX5_94 (atM0 _) rfl dX5_road_154 ?_
  refine aw_iconst (pc := 157) (v := 1) dX5_road_157 (by decide) ?_
  refine aw_iadd (pc := 158) dX5_road_158 ?_
  refine aw_putI (pc := 159) fwX5_94 (atM0 _) (Nat.le_of_ble_eq_true rfl) (stM0_8 _ _) dX5_road_159 (fun σ16 => ?_)
  refine aw_aload_n (pc := 162) dX5_road_162 rfl rfl ?_
  refine aw_iconst (pc := 163) (v := 0) dX5_road_163 (by decide) ?_
  refine aw_putZ (pc := 164) fwX5_101 (atM0 _) (Nat.le_of_ble_eq_true rfl) (by decide) (stM0_20 _ _) dX5_road_164 (fun σ17 => ?_)
  refine aw_aload_n (pc := 167) dX5_road_167 rfl rfl ?_
  refine aw_get (pc := 168) (v := .inl (σ17.1 0 8)) foX5_94 (atM0 _) rfl dX5_road_168 ?_
  refine aw_iconst (pc := 171) (v := 1) dX5_road_171 (by decide) ?_
  refine aw_isub (pc := 172) dX5_road_172 ?_
  exact aw_ret_i (pc := 173) rfl rfl rfl dX5_road_173
noncomputable def fX5_road (a1 : Int32) (a2 : Int32) (a3 : Int32) (a4 : Int32) (σ : ST) : Option (Int32 × ST) :=
  if a1 < 0 then (some ((-1), σ)) else (cb (fX5_isKnot (a1 / 100) σ) (fun r1 σ2 => if r1 = 0 then (some ((-1), σ2)) else (cb (fX5_isKnot (a1 - a1 / 100 * 100) σ2) (fun r3 σ4 => if r3 = 0 then (some ((-1), σ4)) else (if (a1 / 100) = (a1 - a1 / 100 * 100) then (some ((-1), σ4)) else (cb (fX5_within a2 1 200 σ4) (fun r5 σ6 => if r5 = 0 then (some ((-1), σ6)) else (cb (fX5_within a3 0 3 σ6) (fun r7 σ8 => if r7 = 0 then (some ((-1), σ8)) else (if a3 = 3 then (cb (fX5_within a4 1 99 σ8) (fun r9 σ10 => if r9 = 0 then (some ((-1), σ10)) else (fX5_road_J83 a1 a2 a3 a4 σ10))) else (if a4 = 0 then (fX5_road_J83 a1 a2 a3 a4 σ8) else (some ((-1), σ8)))))))))))))
set_option maxRecDepth 10000 in
theorem xX5_road (a1 : Int32) (a2 : Int32) (a3 : Int32) (a4 : Int32) (σ : ST) : MS wlM yX5_road cX5_road 5 (some .int) rmX5_road emI [.inr (some 0), .inl a1, .inl a2, .inl a3, .inl a4] σ (fX5_road a1 a2 a3 a4 σ) := by
  refine MS.of (by decide +kernel) (Nat.le_of_ble_eq_true rfl) ?_
  show AW wlM yX5_road cX5_road 5 (some .int) rmX5_road emI (fX5_road a1 a2 a3 a4 σ) 0 [some (.inr (some 0)), some (.inl a1), some (.inl a2), some (.inl a3), some (.inl a4)] [] σ
  unfold fX5_road
  refine aw_iload_n (pc := 0) dX5_road_0 rfl rfl ?_
  refine aw_if_lt (pc := 1) (tgt := 81) dX5_road_1 (by decide) (fun _ => ?_) (fun _ => ?_)
  · refine aw_iconst (pc := 81) (v := (-1)) dX5_road_81 (by decide) ?_
    exact aw_ret_i (pc := 82) rfl rfl rfl dX5_road_82
  refine aw_aload_n (pc := 4) dX5_road_4 rfl rfl ?_
  refine aw_iload_n (pc := 5) dX5_road_5 rfl rfl ?_
  refine aw_bipush (pc := 6) (v := 100) dX5_road_6 (by decide) ?_
  refine aw_idiv (pc := 8) dX5_road_8 (by decide) ?_
  refine aw_cVI (pc := 9) (st := []) (xX5_isKnot (a1 / 100) σ) (atM0 _) rfl ckX5_97 ⟨rfl, rfl, by decide, by decide⟩ (Nat.le_of_ble_eq_true rfl) dX5_road_9 rfl (fun r1 σ2 => ?_)
  refine aw_if_eq (pc := 12) (tgt := 81) dX5_road_12 (by decide) (fun _ => ?_) (fun _ => ?_)
  · refine aw_iconst (pc := 81) (v := (-1)) dX5_road_81 (by decide) ?_
    exact aw_ret_i (pc := 82) rfl rfl rfl dX5_road_82
  refine aw_aload_n (pc := 15) dX5_road_15 rfl rfl ?_
  refine aw_iload_n (pc := 16) dX5_road_16 rfl rfl ?_
  refine aw_bipush (pc := 17) (v := 100) dX5_road_17 (by decide) ?_
  refine aw_irem (pc := 19) dX5_road_19 (by decide) ?_
  refine aw_cVI (pc := 20) (st := []) (xX5_isKnot (a1 - a1 / 100 * 100) σ2) (atM0 _) rfl ckX5_97 ⟨rfl, rfl, by decide, by decide⟩ (Nat.le_of_ble_eq_true rfl) dX5_road_20 rfl (fun r3 σ4 => ?_)
  refine aw_if_eq (pc := 23) (tgt := 81) dX5_road_23 (by decide) (fun _ => ?_) (fun _ => ?_)
  · refine aw_iconst (pc := 81) (v := (-1)) dX5_road_81 (by decide) ?_
    exact aw_ret_i (pc := 82) rfl rfl rfl dX5_road_82
  refine aw_iload_n (pc := 26) dX5_road_26 rfl rfl ?_
  refine aw_bipush (pc := 27) (v := 100) dX5_road_27 (by decide) ?_
  refine aw_idiv (pc := 29) dX5_road_29 (by decide) ?_
  refine aw_iload_n (pc := 30) dX5_road_30 rfl rfl ?_
  refine aw_bipush (pc := 31) (v := 100) dX5_road_31 (by decide) ?_
  refine aw_irem (pc := 33) dX5_road_33 (by decide) ?_
  refine aw_icmp_eq (pc := 34) (tgt := 81) dX5_road_34 (by decide) (fun _ => ?_) (fun _ => ?_)
  · refine aw_iconst (pc := 81) (v := (-1)) dX5_road_81 (by decide) ?_
    exact aw_ret_i (pc := 82) rfl rfl rfl dX5_road_82
  refine aw_iload_n (pc := 37) dX5_road_37 rfl rfl ?_
  refine aw_iconst (pc := 38) (v := 1) dX5_road_38 (by decide) ?_
  refine aw_sipush (pc := 39) (v := 200) dX5_road_39 (by decide) ?_
  refine aw_cSI (pc := 42) (st := []) (xX5_within a2 1 200 σ4) ckX5_87 ⟨rfl, rfl, by decide, by decide⟩ (Nat.le_of_ble_eq_true rfl) dX5_road_42 rfl (fun r5 σ6 => ?_)
  refine aw_if_eq (pc := 45) (tgt := 81) dX5_road_45 (by decide) (fun _ => ?_) (fun _ => ?_)
  · refine aw_iconst (pc := 81) (v := (-1)) dX5_road_81 (by decide) ?_
    exact aw_ret_i (pc := 82) rfl rfl rfl dX5_road_82
  refine aw_iload_n (pc := 48) dX5_road_48 rfl rfl ?_
  refine aw_iconst (pc := 49) (v := 0) dX5_road_49 (by decide) ?_
  refine aw_iconst (pc := 50) (v := 3) dX5_road_50 (by decide) ?_
  refine aw_cSI (pc := 51) (st := []) (xX5_within a3 0 3 σ6) ckX5_87 ⟨rfl, rfl, by decide, by decide⟩ (Nat.le_of_ble_eq_true rfl) dX5_road_51 rfl (fun r7 σ8 => ?_)
  refine aw_if_eq (pc := 54) (tgt := 81) dX5_road_54 (by decide) (fun _ => ?_) (fun _ => ?_)
  · refine aw_iconst (pc := 81) (v := (-1)) dX5_road_81 (by decide) ?_
    exact aw_ret_i (pc := 82) rfl rfl rfl dX5_road_82
  refine aw_iload_n (pc := 57) dX5_road_57 rfl rfl ?_
  refine aw_iconst (pc := 58) (v := 3) dX5_road_58 (by decide) ?_
  refine aw_icmp_ne (pc := 59) (tgt := 76) dX5_road_59 (by decide) (fun _ => ?_) (fun _ => ?_)
  · refine aw_iload (pc := 62) dX5_road_62 rfl ?_
    refine aw_iconst (pc := 64) (v := 1) dX5_road_64 (by decide) ?_
    refine aw_bipush (pc := 65) (v := 99) dX5_road_65 (by decide) ?_
    refine aw_cSI (pc := 67) (st := []) (xX5_within a4 1 99 σ8) ckX5_87 ⟨rfl, rfl, by decide, by decide⟩ (Nat.le_of_ble_eq_true rfl) dX5_road_67 rfl (fun r9 σ10 => ?_)
    refine aw_if_eq (pc := 70) (tgt := 81) dX5_road_70 (by decide) (fun _ => ?_) (fun _ => ?_)
    · refine aw_iconst (pc := 81) (v := (-1)) dX5_road_81 (by decide) ?_
      exact aw_ret_i (pc := 82) rfl rfl rfl dX5_road_82
    refine aw_goto (pc := 73) (tgt := 83) dX5_road_73 (by decide) ?_
    exact aw_wk (wk_same (wk_same (wk_same (wk_same (wk_same wk_nil))))) (xX5_road_J83 a1 a2 a3 a4 σ10)
  refine aw_iload (pc := 76) dX5_road_76 rfl ?_
  refine aw_if_eq (pc := 78) (tgt := 83) dX5_road_78 (by decide) (fun _ => ?_) (fun _ => ?_)
  · exact aw_wk (wk_same (wk_same (wk_same (wk_same (wk_same wk_nil))))) (xX5_road_J83 a1 a2 a3 a4 σ8)
  refine aw_iconst (pc := 81) (v := (-1)) dX5_road_81 (by decide) ?_
  exact aw_ret_i (pc := 82) rfl rfl rfl dX5_road_82
abbrev rmX5_bar : Room := { frames := 1, cells := 0, slots := 0, locals := 22 }
noncomputable def fX5_bar_J130 (l4 : Int32) (s0 : Int32) (s1 : Int32) (σ : ST) : Option (Int32 × ST) :=
  if ib s1 900 = true then bindv (stI σ 8 s1.toNatClampNeg (vp_nar .boolean s0)) (fun σ7 => bindv (stI σ7 0 20 0) (fun σ8 => some (l4, σ8))) else none
set_option maxRecDepth 10000 in
theorem xX5_bar_J130 (l4 : Int32) (s0 : Int32) (s1 : Int32) (σ : ST) : AW wlM yX5_bar cX5_bar 5 (some .int) rmX5_bar emI (fX5_bar_J130 l4 s0 s1 σ) 130 [some (.inr (some 0)), none, none, none, some (.inl l4)] [.inl s0, .inl s1, .inr (some 8)] σ := by
  unfold fX5_bar_J130
  refine aw_bastB (pc := 130) (atM8 _) (stM8 _ _ _) dX5_bar_130 (fun σ7 => ?_)
  refine aw_aload_n (pc := 131) dX5_bar_131 rfl rfl ?_
  refine aw_iconst (pc := 132) (v := 0) dX5_bar_132 (by decide) ?_
  refine aw_putZ (pc := 133) fwX5_101 (atM0 _) (Nat.le_of_ble_eq_true rfl) (by decide) (stM0_20 _ _) dX5_bar_133 (fun σ8 => ?_)
  refine aw_iload (pc := 136) dX5_bar_136 rfl ?_
  exact aw_ret_i (pc := 138) rfl rfl rfl dX5_bar_138
noncomputable def fX5_bar_J108 (l1 : Int32) (l2 : Int32) (l3 : Int32) (s0 : Int32) (σ : ST) : Option (Int32 × ST) :=
  if l3 = 1 then (fX5_bar_J130 s0 1 ((30 * l1) + l2) σ) else (fX5_bar_J130 s0 0 ((30 * l1) + l2) σ)
set_option maxRecDepth 10000 in
theorem xX5_bar_J108 (l1 : Int32) (l2 : Int32) (l3 : Int32) (s0 : Int32) (σ : ST) : AW wlM yX5_bar cX5_bar 5 (some .int) rmX5_bar emI (fX5_bar_J108 l1 l2 l3 s0 σ) 108 [some (.inr (some 0)), some (.inl l1), some (.inl l2), some (.inl l3), none] [.inl s0] σ := by
  unfold fX5_bar_J108
  refine aw_st (pc := 108) (L' := [some (.inr (some 0)), some (.inl l1), some (.inl l2), some (.inl l3), some (.inl s0)]) dX5_bar_108 (by decide) rfl ?_
  refine aw_aload_n (pc := 110) dX5_bar_110 rfl rfl ?_
  refine aw_get (pc := 111) (v := .inr (some 8)) foX5_31 (atM0 _) rfl dX5_bar_111 ?_
  refine aw_bipush (pc := 114) (v := 30) dX5_bar_114 (by decide) ?_
  refine aw_iload_n (pc := 116) dX5_bar_116 rfl rfl ?_
  refine aw_imul (pc := 117) dX5_bar_117 ?_
  refine aw_iload_n (pc := 118) dX5_bar_118 rfl rfl ?_
  refine aw_iadd (pc := 119) dX5_bar_119 ?_
  refine aw_iload_n (pc := 120) dX5_bar_120 rfl rfl ?_
  refine aw_iconst (pc := 121) (v := 1) dX5_bar_121 (by decide) ?_
  refine aw_icmp_ne (pc := 122) (tgt := 129) dX5_bar_122 (by decide) (fun _ => ?_) (fun _ => ?_)
  · refine aw_iconst (pc := 125) (v := 1) dX5_bar_125 (by decide) ?_
    refine aw_goto (pc := 126) (tgt := 130) dX5_bar_126 (by decide) ?_
    exact aw_wk (wk_same (wk_none (wk_none (wk_none (wk_same wk_nil))))) (xX5_bar_J130 s0 1 ((30 * l1) + l2) σ)
  refine aw_iconst (pc := 129) (v := 0) dX5_bar_129 (by decide) ?_
  exact aw_wk (wk_same (wk_none (wk_none (wk_none (wk_same wk_nil))))) (xX5_bar_J130 s0 0 ((30 * l1) + l2) σ)
noncomputable def fX5_bar_J89 (l1 : Int32) (l2 : Int32) (l3 : Int32) (σ : ST) : Option (Int32 × ST) :=
  if ib ((30 * l1) + l2) 900 = true then if (σ.1 8 ((30 * l1) + l2).toNatClampNeg) = 0 then (fX5_bar_J108 l1 l2 l3 0 σ) else (fX5_bar_J108 l1 l2 l3 1 σ) else none
set_option maxRecDepth 10000 in
theorem xX5_bar_J89 (l1 : Int32) (l2 : Int32) (l3 : Int32) (σ : ST) : AW wlM yX5_bar cX5_bar 5 (some .int) rmX5_bar emI (fX5_bar_J89 l1 l2 l3 σ) 89 [some (.inr (some 0)), some (.inl l1), some (.inl l2), some (.inl l3), none] [] σ := by
  unfold fX5_bar_J89
  refine aw_aload_n (pc := 89) dX5_bar_89 rfl rfl ?_
  refine aw_get (pc := 90) (v := .inr (some 8)) foX5_31 (atM0 _) rfl dX5_bar_90 ?_
  refine aw_bipush (pc := 93) (v := 30) dX5_bar_93 (by decide) ?_
  refine aw_iload_n (pc := 95) dX5_bar_95 rfl rfl ?_
  refine aw_imul (pc := 96) dX5_bar_96 ?_
  refine aw_iload_n (pc := 97) dX5_bar_97 rfl rfl ?_
  refine aw_iadd (pc := 98) dX5_bar_98 ?_
  refine aw_bald' (pc := 99) (atM8 _) dX5_bar_99 ?_
  refine aw_if_eq (pc := 100) (tgt := 107) dX5_bar_100 (by decide) (fun _ => ?_) (fun _ => ?_)
  · refine aw_iconst (pc := 107) (v := 0) dX5_bar_107 (by decide) ?_
    exact aw_wk (wk_same (wk_same (wk_same (wk_same (wk_none wk_nil))))) (xX5_bar_J108 l1 l2 l3 0 σ)
  refine aw_iconst (pc := 103) (v := 1) dX5_bar_103 (by decide) ?_
  refine aw_goto (pc := 104) (tgt := 108) dX5_bar_104 (by decide) ?_
  exact aw_wk (wk_same (wk_same (wk_same (wk_same (wk_none wk_nil))))) (xX5_bar_J108 l1 l2 l3 1 σ)
noncomputable def fX5_bar (a1 : Int32) (a2 : Int32) (a3 : Int32) (σ : ST) : Option (Int32 × ST) :=
  cb (fX5_isRoad a1 σ) (fun r1 σ2 => if r1 = 0 then (some ((-1), σ2)) else (cb (fX5_isRoad a2 σ2) (fun r3 σ4 => if r3 = 0 then (some ((-1), σ4)) else (cb (fX5_within a3 0 1 σ4) (fun r5 σ6 => if r5 = 0 then (some ((-1), σ6)) else (if ib a1 30 = true then if ib a2 30 = true then if (σ6.1 3 a1.toNatClampNeg) = (σ6.1 3 a2.toNatClampNeg) then (fX5_bar_J89 a1 a2 a3 σ6) else (if ib a1 30 = true then if ib a2 30 = true then if (σ6.1 3 a1.toNatClampNeg) = (σ6.1 4 a2.toNatClampNeg) then (fX5_bar_J89 a1 a2 a3 σ6) else (if ib a1 30 = true then if ib a2 30 = true then if (σ6.1 4 a1.toNatClampNeg) = (σ6.1 3 a2.toNatClampNeg) then (fX5_bar_J89 a1 a2 a3 σ6) else (if ib a1 30 = true then if ib a2 30 = true then if (σ6.1 4 a1.toNatClampNeg) = (σ6.1 4 a2.toNatClampNeg) then (fX5_bar_J89 a1 a2 a3 σ6) else (some ((-1), σ6)) else none else none) else none else none) else none else none) else none else none))))))
set_option maxRecDepth 10000 in
theorem xX5_bar (a1 : Int32) (a2 : Int32) (a3 : Int32) (σ : ST) : MS wlM yX5_bar cX5_bar 5 (some .int) rmX5_bar emI [.inr (some 0), .inl a1, .inl a2, .inl a3] σ (fX5_bar a1 a2 a3 σ) := by
  refine MS.of (by decide +kernel) (Nat.le_of_ble_eq_true rfl) ?_
  show AW wlM yX5_bar cX5_bar 5 (some .int) rmX5_bar emI (fX5_bar a1 a2 a3 σ) 0 [some (.inr (some 0)), some (.inl a1), some (.inl a2), some (.inl a3), none] [] σ
  unfold fX5_bar
  refine aw_aload_n (pc := 0) dX5_bar_0 rfl rfl ?_
  refine aw_iload_n (pc := 1) dX5_bar_1 rfl rfl ?_
  refine aw_cVI (pc := 2) (st := []) (xX5_isRoad a1 σ) (atM0 _) rfl ckX5_105 ⟨rfl, rfl, by decide, by decide⟩ (Nat.le_of_ble_eq_true rfl) dX5_bar_2 rfl (fun r1 σ2 => ?_)
  refine aw_if_eq (pc := 5) (tgt := 25) dX5_bar_5 (by decide) (fun _ => ?_) (fun _ => ?_)
  · refine aw_iconst (pc := 25) (v := (-1)) dX5_bar_25 (by decide) ?_
    exact aw_ret_i (pc := 26) rfl rfl rfl dX5_bar_26
  refine aw_aload_n (pc := 8) dX5_bar_8 rfl rfl ?_
  refine aw_iload_n (pc := 9) dX5_bar_9 rfl rfl ?_
  refine aw_cVI (pc := 10) (st := []) (xX5_isRoad a2 σ2) (atM0 _) rfl ckX5_105 ⟨rfl, rfl, by decide, by decide⟩ (Nat.le_of_ble_eq_true rfl) dX5_bar_10 rfl (fun r3 σ4 => ?_)
  refine aw_if_eq (pc := 13) (tgt := 25) dX5_bar_13 (by decide) (fun _ => ?_) (fun _ => ?_)
  · refine aw_iconst (pc := 25) (v := (-1)) dX5_bar_25 (by decide) ?_
    exact aw_ret_i (pc := 26) rfl rfl rfl dX5_bar_26
  refine aw_iload_n (pc := 16) dX5_bar_16 rfl rfl ?_
  refine aw_iconst (pc := 17) (v := 0) dX5_bar_17 (by decide) ?_
  refine aw_iconst (pc := 18) (v := 1) dX5_bar_18 (by decide) ?_
  refine aw_cSI (pc := 19) (st := []) (xX5_within a3 0 1 σ4) ckX5_87 ⟨rfl, rfl, by decide, by decide⟩ (Nat.le_of_ble_eq_true rfl) dX5_bar_19 rfl (fun r5 σ6 => ?_)
  refine aw_if_ne (pc := 22) (tgt := 27) dX5_bar_22 (by decide) (fun _ => ?_) (fun _ => ?_)
  · refine aw_iconst (pc := 25) (v := (-1)) dX5_bar_25 (by decide) ?_
    exact aw_ret_i (pc := 26) rfl rfl rfl dX5_bar_26
  refine aw_aload_n (pc := 27) dX5_bar_27 rfl rfl ?_
  refine aw_get (pc := 28) (v := .inr (some 3)) foX5_16 (atM0 _) rfl dX5_bar_28 ?_
  refine aw_iload_n (pc := 31) dX5_bar_31 rfl rfl ?_
  refine aw_iald' (pc := 32) (atM3 _) dX5_bar_32 ?_
  refine aw_aload_n (pc := 33) dX5_bar_33 rfl rfl ?_
  refine aw_get (pc := 34) (v := .inr (some 3)) foX5_16 (atM0 _) rfl dX5_bar_34 ?_
  refine aw_iload_n (pc := 37) dX5_bar_37 rfl rfl ?_
  refine aw_iald' (pc := 38) (atM3 _) dX5_bar_38 ?_
  refine aw_icmp_eq (pc := 39) (tgt := 89) dX5_bar_39 (by decide) (fun _ => ?_) (fun _ => ?_)
  · exact aw_wk (wk_same (wk_same (wk_same (wk_same (wk_none wk_nil))))) (xX5_bar_J89 a1 a2 a3 σ6)
  refine aw_aload_n (pc := 42) dX5_bar_42 rfl rfl ?_
  refine aw_get (pc := 43) (v := .inr (some 3)) foX5_16 (atM0 _) rfl dX5_bar_43 ?_
  refine aw_iload_n (pc := 46) dX5_bar_46 rfl rfl ?_
  refine aw_iald' (pc := 47) (atM3 _) dX5_bar_47 ?_
  refine aw_aload_n (pc := 48) dX5_bar_48 rfl rfl ?_
  refine aw_get (pc := 49) (v := .inr (some 4)) foX5_19 (atM0 _) rfl dX5_bar_49 ?_
  refine aw_iload_n (pc := 52) dX5_bar_52 rfl rfl ?_
  refine aw_iald' (pc := 53) (atM4 _) dX5_bar_53 ?_
  refine aw_icmp_eq (pc := 54) (tgt := 89) dX5_bar_54 (by decide) (fun _ => ?_) (fun _ => ?_)
  · exact aw_wk (wk_same (wk_same (wk_same (wk_same (wk_none wk_nil))))) (xX5_bar_J89 a1 a2 a3 σ6)
  refine aw_aload_n (pc := 57) dX5_bar_57 rfl rfl ?_
  refine aw_get (pc := 58) (v := .inr (some 4)) foX5_19 (atM0 _) rfl dX5_bar_58 ?_
  refine aw_iload_n (pc := 61) dX5_bar_61 rfl rfl ?_
  refine aw_iald' (pc := 62) (atM4 _) dX5_bar_62 ?_
  refine aw_aload_n (pc := 63) dX5_bar_63 rfl rfl ?_
  refine aw_get (pc := 64) (v := .inr (some 3)) foX5_16 (atM0 _) rfl dX5_bar_64 ?_
  refine aw_iload_n (pc := 67) dX5_bar_67 rfl rfl ?_
  refine aw_iald' (pc := 68) (atM3 _) dX5_bar_68 ?_
  refine aw_icmp_eq (pc := 69) (tgt := 89) dX5_bar_69 (by decide) (fun _ => ?_) (fun _ => ?_)
  · exact aw_wk (wk_same (wk_same (wk_same (wk_same (wk_none wk_nil))))) (xX5_bar_J89 a1 a2 a3 σ6)
  refine aw_aload_n (pc := 72) dX5_bar_72 rfl rfl ?_
  refine aw_get (pc := 73) (v := .inr (some 4)) foX5_19 (atM0 _) rfl dX5_bar_73 ?_
  refine aw_iload_n (pc := 76) dX5_bar_76 rfl rfl ?_
  refine aw_iald' (pc := 77) (atM4 _) dX5_bar_77 ?_
  refine aw_aload_n (pc := 78) dX5_bar_78 rfl rfl ?_
  refine aw_get (pc := 79) (v := .inr (some 4)) foX5_19 (atM0 _) rfl dX5_bar_79 ?_
  refine aw_iload_n (pc := 82) dX5_bar_82 rfl rfl ?_
  refine aw_iald' (pc := 83) (atM4 _) dX5_bar_83 ?_
  refine aw_icmp_eq (pc := 84) (tgt := 89) dX5_bar_84 (by decide) (fun _ => ?_) (fun _ => ?_)
  · exact aw_wk (wk_same (wk_same (wk_same (wk_same (wk_none wk_nil))))) (xX5_bar_J89 a1 a2 a3 σ6)
  refine aw_iconst (pc := 87) (v := (-1)) dX5_bar_87 (by decide) ?_
  exact aw_ret_i (pc := 88) rfl rfl rfl dX5_bar_88
abbrev rmX5_knotOf : Room := { frames := 0, cells := 0, slots := 0, locals := 0 }
noncomputable def fX5_knotOf (a1 : Int32) (σ : ST) : Option (Int32 × ST) :=
  if (a1 - a1 / 2 * 2) = 0 then (if ib (a1 / 2) 30 = true then some ((σ.1 3 (a1 / 2).toNatClampNeg), σ) else none) else (if ib (a1 / 2) 30 = true then some ((σ.1 4 (a1 / 2).toNatClampNeg), σ) else none)
set_option maxRecDepth 10000 in
theorem xX5_knotOf (a1 : Int32) (σ : ST) : MS wlM yX5_knotOf cX5_knotOf 2 (some .int) rmX5_knotOf emI [.inr (some 0), .inl a1] σ (fX5_knotOf a1 σ) := by
  refine MS.of (by decide +kernel) (Nat.le_of_ble_eq_true rfl) ?_
  show AW wlM yX5_knotOf cX5_knotOf 2 (some .int) rmX5_knotOf emI (fX5_knotOf a1 σ) 0 [some (.inr (some 0)), some (.inl a1)] [] σ
  unfold fX5_knotOf
  refine aw_iload_n (pc := 0) dX5_knotOf_0 rfl rfl ?_
  refine aw_iconst (pc := 1) (v := 2) dX5_knotOf_1 (by decide) ?_
  refine aw_irem (pc := 2) dX5_knotOf_2 (by decide) ?_
  refine aw_if_ne (pc := 3) (tgt := 17) dX5_knotOf_3 (by decide) (fun _ => ?_) (fun _ => ?_)
  · refine aw_aload_n (pc := 6) dX5_knotOf_6 rfl rfl ?_
    refine aw_get (pc := 7) (v := .inr (some 3)) foX5_16 (atM0 _) rfl dX5_knotOf_7 ?_
    refine aw_iload_n (pc := 10) dX5_knotOf_10 rfl rfl ?_
    refine aw_iconst (pc := 11) (v := 2) dX5_knotOf_11 (by decide) ?_
    refine aw_idiv (pc := 12) dX5_knotOf_12 (by decide) ?_
    refine aw_iald' (pc := 13) (atM3 _) dX5_knotOf_13 ?_
    refine aw_goto (pc := 14) (tgt := 25) dX5_knotOf_14 (by decide) ?_
    exact aw_ret_i (pc := 25) rfl rfl rfl dX5_knotOf_25
  refine aw_aload_n (pc := 17) dX5_knotOf_17 rfl rfl ?_
  refine aw_get (pc := 18) (v := .inr (some 4)) foX5_19 (atM0 _) rfl dX5_knotOf_18 ?_
  refine aw_iload_n (pc := 21) dX5_knotOf_21 rfl rfl ?_
  refine aw_iconst (pc := 22) (v := 2) dX5_knotOf_22 (by decide) ?_
  refine aw_idiv (pc := 23) dX5_knotOf_23 (by decide) ?_
  refine aw_iald' (pc := 24) (atM4 _) dX5_knotOf_24 ?_
  exact aw_ret_i (pc := 25) rfl rfl rfl dX5_knotOf_25
abbrev rmX5_come : Room := { frames := 0, cells := 0, slots := 0, locals := 0 }
noncomputable def fX5_come_J32 (l1 : Int32) (l2 : Int32) (l3 : Int32) (σ : ST) : Option (Int32 × ST) :=
  if ib l1 60 = true then bindv (stI σ 17 l1.toNatClampNeg l2) (fun σ1 => if ib l1 60 = true then bindv (stI σ1 18 l1.toNatClampNeg l3) (fun σ2 => some (1, σ2)) else none) else none
set_option maxRecDepth 10000 in
theorem xX5_come_J32 (l1 : Int32) (l2 : Int32) (l3 : Int32) (σ : ST) : AW wlM yX5_come cX5_come 4 (some .boolean) rmX5_come emI (fX5_come_J32 l1 l2 l3 σ) 32 [some (.inr (some 0)), some (.inl l1), some (.inl l2), some (.inl l3)] [] σ := by
  unfold fX5_come_J32
  refine aw_aload_n (pc := 32) dX5_come_32 rfl rfl ?_
  refine aw_get (pc := 33) (v := .inr (some 17)) foX5_66 (atM0 _) rfl dX5_come_33 ?_
  refine aw_iload_n (pc := 36) dX5_come_36 rfl rfl ?_
  refine aw_iload_n (pc := 37) dX5_come_37 rfl rfl ?_
  refine aw_iastB (pc := 38) (atM17 _) (stM17 _ _ _) dX5_come_38 (fun σ1 => ?_)
  refine aw_aload_n (pc := 39) dX5_come_39 rfl rfl ?_
  refine aw_get (pc := 40) (v := .inr (some 18)) foX5_69 (atM0 _) rfl dX5_come_40 ?_
  refine aw_iload_n (pc := 43) dX5_come_43 rfl rfl ?_
  refine aw_iload_n (pc := 44) dX5_come_44 rfl rfl ?_
  refine aw_iastB (pc := 45) (atM18 _) (stM18 _ _ _) dX5_come_45 (fun σ2 => ?_)
  refine aw_iconst (pc := 46) (v := 1) dX5_come_46 (by decide) ?_
  exact aw_ret_i (pc := 47) rfl rfl rfl dX5_come_47
noncomputable def fX5_come (a1 : Int32) (a2 : Int32) (a3 : Int32) (σ : ST) : Option (Int32 × ST) :=
  if ib a1 60 = true then if (σ.1 17 a1.toNatClampNeg) < a2 then (some (0, σ)) else (if ib a1 60 = true then if a2 = (σ.1 17 a1.toNatClampNeg) then (if ib a1 60 = true then if a3 < (σ.1 18 a1.toNatClampNeg) then (fX5_come_J32 a1 a2 a3 σ) else (some (0, σ)) else none) else (fX5_come_J32 a1 a2 a3 σ) else none) else none
set_option maxRecDepth 10000 in
theorem xX5_come (a1 : Int32) (a2 : Int32) (a3 : Int32) (σ : ST) : MS wlM yX5_come cX5_come 4 (some .boolean) rmX5_come emI [.inr (some 0), .inl a1, .inl a2, .inl a3] σ (fX5_come a1 a2 a3 σ) := by
  refine MS.of (by decide +kernel) (Nat.le_of_ble_eq_true rfl) ?_
  show AW wlM yX5_come cX5_come 4 (some .boolean) rmX5_come emI (fX5_come a1 a2 a3 σ) 0 [some (.inr (some 0)), some (.inl a1), some (.inl a2), some (.inl a3)] [] σ
  unfold fX5_come
  refine aw_iload_n (pc := 0) dX5_come_0 rfl rfl ?_
  refine aw_aload_n (pc := 1) dX5_come_1 rfl rfl ?_
  refine aw_get (pc := 2) (v := .inr (some 17)) foX5_66 (atM0 _) rfl dX5_come_2 ?_
  refine aw_iload_n (pc := 5) dX5_come_5 rfl rfl ?_
  refine aw_iald' (pc := 6) (atM17 _) dX5_come_6 ?_
  refine aw_icmp_gt (pc := 7) (tgt := 30) dX5_come_7 (by decide) (fun _ => ?_) (fun _ => ?_)
  · refine aw_iconst (pc := 30) (v := 0) dX5_come_30 (by decide) ?_
    exact aw_ret_i (pc := 31) rfl rfl rfl dX5_come_31
  refine aw_iload_n (pc := 10) dX5_come_10 rfl rfl ?_
  refine aw_aload_n (pc := 11) dX5_come_11 rfl rfl ?_
  refine aw_get (pc := 12) (v := .inr (some 17)) foX5_66 (atM0 _) rfl dX5_come_12 ?_
  refine aw_iload_n (pc := 15) dX5_come_15 rfl rfl ?_
  refine aw_iald' (pc := 16) (atM17 _) dX5_come_16 ?_
  refine aw_icmp_ne (pc := 17) (tgt := 32) dX5_come_17 (by decide) (fun _ => ?_) (fun _ => ?_)
  · refine aw_iload_n (pc := 20) dX5_come_20 rfl rfl ?_
    refine aw_aload_n (pc := 21) dX5_come_21 rfl rfl ?_
    refine aw_get (pc := 22) (v := .inr (some 18)) foX5_69 (atM0 _) rfl dX5_come_22 ?_
    refine aw_iload_n (pc := 25) dX5_come_25 rfl rfl ?_
    refine aw_iald' (pc := 26) (atM18 _) dX5_come_26 ?_
    refine aw_icmp_lt (pc := 27) (tgt := 32) dX5_come_27 (by decide) (fun _ => ?_) (fun _ => ?_)
    · exact aw_wk (wk_same (wk_same (wk_same (wk_same wk_nil)))) (xX5_come_J32 a1 a2 a3 σ)
    refine aw_iconst (pc := 30) (v := 0) dX5_come_30 (by decide) ?_
    exact aw_ret_i (pc := 31) rfl rfl rfl dX5_come_31
  exact aw_wk (wk_same (wk_same (wk_same (wk_same wk_nil)))) (xX5_come_J32 a1 a2 a3 σ)
abbrev rmX5_feeOf : Room := { frames := 0, cells := 0, slots := 0, locals := 0 }
noncomputable def fX5_feeOf (a1 : Int32) (a2 : Int32) (σ : ST) : Option (Int32 × ST) :=
  if a2 ≤ 0 then (some (0, σ)) else (if ib a1 30 = true then some ((σ.1 7 a1.toNatClampNeg), σ) else none)
set_option maxRecDepth 10000 in
theorem xX5_feeOf (a1 : Int32) (a2 : Int32) (σ : ST) : MS wlM yX5_feeOf cX5_feeOf 3 (some .int) rmX5_feeOf emI [.inr (some 0), .inl a1, .inl a2] σ (fX5_feeOf a1 a2 σ) := by
  refine MS.of (by decide +kernel) (Nat.le_of_ble_eq_true rfl) ?_
  show AW wlM yX5_feeOf cX5_feeOf 3 (some .int) rmX5_feeOf emI (fX5_feeOf a1 a2 σ) 0 [some (.inr (some 0)), some (.inl a1), some (.inl a2)] [] σ
  unfold fX5_feeOf
  refine aw_iload_n (pc := 0) dX5_feeOf_0 rfl rfl ?_
  refine aw_if_le (pc := 1) (tgt := 13) dX5_feeOf_1 (by decide) (fun _ => ?_) (fun _ => ?_)
  · refine aw_iconst (pc := 13) (v := 0) dX5_feeOf_13 (by decide) ?_
    exact aw_ret_i (pc := 14) rfl rfl rfl dX5_feeOf_14
  refine aw_aload_n (pc := 4) dX5_feeOf_4 rfl rfl ?_
  refine aw_get (pc := 5) (v := .inr (some 7)) foX5_28 (atM0 _) rfl dX5_feeOf_5 ?_
  refine aw_iload_n (pc := 8) dX5_feeOf_8 rfl rfl ?_
  refine aw_iald' (pc := 9) (atM7 _) dX5_feeOf_9 ?_
  refine aw_goto (pc := 10) (tgt := 14) dX5_feeOf_10 (by decide) ?_
  exact aw_ret_i (pc := 14) rfl rfl rfl dX5_feeOf_14
abbrev rmX5_goOn : Room := { frames := 1, cells := 0, slots := 0, locals := 23 }
noncomputable def fX5_goOn_J164 (k4 : Int32 → Int32 → Int32 → ST → Option (Int32 × ST)) (l1 : Int32) (l2 : Int32) (l3 : Int32) (σ : ST) : Option (Int32 × ST) :=
  bindv (l3 + 1) (fun v7 => k4 l1 l2 v7 σ)
set_option maxRecDepth 10000 in
theorem xX5_goOn_J164 (k4 : Int32 → Int32 → Int32 → ST → Option (Int32 × ST)) (hk4 : ∀ (l1 : Int32) (l2 : Int32) (l3 : Int32) (σ : ST), AW wlM yX5_goOn cX5_goOn 4 (some .boolean) rmX5_goOn emI (k4 l1 l2 l3 σ) 4 [some (.inr (some 0)), some (.inl l1), some (.inl l2), some (.inl l3)] [] σ) (l1 : Int32) (l2 : Int32) (l3 : Int32) (σ : ST) : AW wlM yX5_goOn cX5_goOn 4 (some .boolean) rmX5_goOn emI (fX5_goOn_J164 k4 l1 l2 l3 σ) 164 [some (.inr (some 0)), some (.inl l1), some (.inl l2), some (.inl l3)] [] σ := by
  unfold fX5_goOn_J164
  refine aw_iincB (pc := 164) (v := 1) (Lf := fun v7 => [some (.inr (some 0)), some (.inl l1), some (.inl l2), some (.inl v7)]) dX5_goOn_164 rfl (by decide) (by decide) (fun _ => rfl) (fun v7 => ?_)
  refine aw_goto (pc := 167) (tgt := 4) dX5_goOn_167 (by decide) ?_
  exact aw_wk (wk_same (wk_same (wk_same (wk_same wk_nil)))) (hk4 l1 l2 v7 σ)
noncomputable def fX5_goOn_J163 (k4 : Int32 → Int32 → Int32 → ST → Option (Int32 × ST)) (l1 : Int32) (l3 : Int32) (s0 : Int32) (σ : ST) : Option (Int32 × ST) :=
  fX5_goOn_J164 k4 l1 s0 l3 σ
set_option maxRecDepth 10000 in
theorem xX5_goOn_J163 (k4 : Int32 → Int32 → Int32 → ST → Option (Int32 × ST)) (hk4 : ∀ (l1 : Int32) (l2 : Int32) (l3 : Int32) (σ : ST), AW wlM yX5_goOn cX5_goOn 4 (some .boolean) rmX5_goOn emI (k4 l1 l2 l3 σ) 4 [some (.inr (some 0)), some (.inl l1), some (.inl l2), some (.inl l3)] [] σ) (l1 : Int32) (l3 : Int32) (s0 : Int32) (σ : ST) : AW wlM yX5_goOn cX5_goOn 4 (some .boolean) rmX5_goOn emI (fX5_goOn_J163 k4 l1 l3 s0 σ) 163 [some (.inr (some 0)), some (.inl l1), none, some (.inl l3)] [.inl s0] σ := by
  unfold fX5_goOn_J163
  refine aw_stn (pc := 163) (L' := [some (.inr (some 0)), some (.inl l1), some (.inl s0), some (.inl l3)]) dX5_goOn_163 rfl (by decide) rfl ?_
  exact aw_wk (wk_same (wk_same (wk_same (wk_same wk_nil)))) (xX5_goOn_J164 k4 hk4 l1 s0 l3 σ)
noncomputable def fX5_goOn_J158 (k4 : Int32 → Int32 → Int32 → ST → Option (Int32 × ST)) (l1 : Int32) (l3 : Int32) (σ : ST) : Option (Int32 × ST) :=
  fX5_goOn_J163 k4 l1 l3 1 σ
set_option maxRecDepth 10000 in
theorem xX5_goOn_J158 (k4 : Int32 → Int32 → Int32 → ST → Option (Int32 × ST)) (hk4 : ∀ (l1 : Int32) (l2 : Int32) (l3 : Int32) (σ : ST), AW wlM yX5_goOn cX5_goOn 4 (some .boolean) rmX5_goOn emI (k4 l1 l2 l3 σ) 4 [some (.inr (some 0)), some (.inl l1), some (.inl l2), some (.inl l3)] [] σ) (l1 : Int32) (l3 : Int32) (σ : ST) : AW wlM yX5_goOn cX5_goOn 4 (some .boolean) rmX5_goOn emI (fX5_goOn_J158 k4 l1 l3 σ) 158 [some (.inr (some 0)), some (.inl l1), none, some (.inl l3)] [] σ := by
  unfold fX5_goOn_J158
  refine aw_iconst (pc := 158) (v := 1) dX5_goOn_158 (by decide) ?_
  refine aw_goto (pc := 159) (tgt := 163) dX5_goOn_159 (by decide) ?_
  exact aw_wk (wk_same (wk_same (wk_none (wk_same wk_nil)))) (xX5_goOn_J163 k4 hk4 l1 l3 1 σ)
noncomputable def fX5_goOn_J92 (k4 : Int32 → Int32 → Int32 → ST → Option (Int32 × ST)) (l1 : Int32) (l2 : Int32) (l3 : Int32) (σ : ST) : Option (Int32 × ST) :=
  if ib l3 30 = true then cb (fX5_knotOf l1 σ) (fun r5 σ6 => if (σ.1 4 l3.toNatClampNeg) = r5 then (if ib l3 30 = true then if (σ6.1 6 l3.toNatClampNeg) = 1 then (fX5_goOn_J164 k4 l1 l2 l3 σ6) else (if ib l1 60 = true then if ib l3 30 = true then if ib l1 60 = true then if ib l3 30 = true then cb (fX5_come (2 * l3) ((σ6.1 17 l1.toNatClampNeg) + (4 * (σ6.1 5 l3.toNatClampNeg))) ((σ6.1 18 l1.toNatClampNeg) + (σ6.1 7 l3.toNatClampNeg)) σ6) (fun r8 σ9 => if r8 = 0 then (if l2 = 0 then (fX5_goOn_J163 k4 l1 l3 0 σ9) else (fX5_goOn_J158 k4 l1 l3 σ9)) else (fX5_goOn_J158 k4 l1 l3 σ9)) else none else none else none else none) else none) else (fX5_goOn_J164 k4 l1 l2 l3 σ6)) else none
set_option maxRecDepth 10000 in
theorem xX5_goOn_J92 (k4 : Int32 → Int32 → Int32 → ST → Option (Int32 × ST)) (hk4 : ∀ (l1 : Int32) (l2 : Int32) (l3 : Int32) (σ : ST), AW wlM yX5_goOn cX5_goOn 4 (some .boolean) rmX5_goOn emI (k4 l1 l2 l3 σ) 4 [some (.inr (some 0)), some (.inl l1), some (.inl l2), some (.inl l3)] [] σ) (l1 : Int32) (l2 : Int32) (l3 : Int32) (σ : ST) : AW wlM yX5_goOn cX5_goOn 4 (some .boolean) rmX5_goOn emI (fX5_goOn_J92 k4 l1 l2 l3 σ) 92 [some (.inr (some 0)), some (.inl l1), some (.inl l2), some (.inl l3)] [] σ := by
  unfold fX5_goOn_J92
  refine aw_aload_n (pc := 92) dX5_goOn_92 rfl rfl ?_
  refine aw_get (pc := 93) (v := .inr (some 4)) foX5_19 (atM0 _) rfl dX5_goOn_93 ?_
  refine aw_iload_n (pc := 96) dX5_goOn_96 rfl rfl ?_
  refine aw_iald' (pc := 97) (atM4 _) dX5_goOn_97 ?_
  refine aw_aload_n (pc := 98) dX5_goOn_98 rfl rfl ?_
  refine aw_iload_n (pc := 99) dX5_goOn_99 rfl rfl ?_
  refine aw_cVI (pc := 100) (st := [.inl (σ.1 4 l3.toNatClampNeg)]) (xX5_knotOf l1 σ) (atM0 _) rfl ckX5_119 ⟨rfl, rfl, by decide, by decide⟩ (Nat.le_of_ble_eq_true rfl) dX5_goOn_100 rfl (fun r5 σ6 => ?_)
  refine aw_icmp_ne (pc := 103) (tgt := 164) dX5_goOn_103 (by decide) (fun _ => ?_) (fun _ => ?_)
  · refine aw_aload_n (pc := 106) dX5_goOn_106 rfl rfl ?_
    refine aw_get (pc := 107) (v := .inr (some 6)) foX5_25 (atM0 _) rfl dX5_goOn_107 ?_
    refine aw_iload_n (pc := 110) dX5_goOn_110 rfl rfl ?_
    refine aw_iald' (pc := 111) (atM6 _) dX5_goOn_111 ?_
    refine aw_iconst (pc := 112) (v := 1) dX5_goOn_112 (by decide) ?_
    refine aw_icmp_eq (pc := 113) (tgt := 164) dX5_goOn_113 (by decide) (fun _ => ?_) (fun _ => ?_)
    · exact aw_wk (wk_same (wk_same (wk_same (wk_same wk_nil)))) (xX5_goOn_J164 k4 hk4 l1 l2 l3 σ6)
    refine aw_aload_n (pc := 116) dX5_goOn_116 rfl rfl ?_
    refine aw_iconst (pc := 117) (v := 2) dX5_goOn_117 (by decide) ?_
    refine aw_iload_n (pc := 118) dX5_goOn_118 rfl rfl ?_
    refine aw_imul (pc := 119) dX5_goOn_119 ?_
    refine aw_aload_n (pc := 120) dX5_goOn_120 rfl rfl ?_
    refine aw_get (pc := 121) (v := .inr (some 17)) foX5_66 (atM0 _) rfl dX5_goOn_121 ?_
    refine aw_iload_n (pc := 124) dX5_goOn_124 rfl rfl ?_
    refine aw_iald' (pc := 125) (atM17 _) dX5_goOn_125 ?_
    refine aw_iconst (pc := 126) (v := 4) dX5_goOn_126 (by decide) ?_
    refine aw_aload_n (pc := 127) dX5_goOn_127 rfl rfl ?_
    refine aw_get (pc := 128) (v := .inr (some 5)) foX5_22 (atM0 _) rfl dX5_goOn_128 ?_
    refine aw_iload_n (pc := 131) dX5_goOn_131 rfl rfl ?_
    refine aw_iald' (pc := 132) (atM5 _) dX5_goOn_132 ?_
    refine aw_imul (pc := 133) dX5_goOn_133 ?_
    refine aw_iadd (pc := 134) dX5_goOn_134 ?_
    refine aw_aload_n (pc := 135) dX5_goOn_135 rfl rfl ?_
    refine aw_get (pc := 136) (v := .inr (some 18)) foX5_69 (atM0 _) rfl dX5_goOn_136 ?_
    refine aw_iload_n (pc := 139) dX5_goOn_139 rfl rfl ?_
    refine aw_iald' (pc := 140) (atM18 _) dX5_goOn_140 ?_
    refine aw_aload_n (pc := 141) dX5_goOn_141 rfl rfl ?_
    refine aw_get (pc := 142) (v := .inr (some 7)) foX5_28 (atM0 _) rfl dX5_goOn_142 ?_
    refine aw_iload_n (pc := 145) dX5_goOn_145 rfl rfl ?_
    refine aw_iald' (pc := 146) (atM7 _) dX5_goOn_146 ?_
    refine aw_iadd (pc := 147) dX5_goOn_147 ?_
    refine aw_cVI (pc := 148) (st := []) (xX5_come (2 * l3) ((σ6.1 17 l1.toNatClampNeg) + (4 * (σ6.1 5 l3.toNatClampNeg))) ((σ6.1 18 l1.toNatClampNeg) + (σ6.1 7 l3.toNatClampNeg)) σ6) (atM0 _) rfl ckX5_113 ⟨rfl, rfl, by decide, by decide⟩ (Nat.le_of_ble_eq_true rfl) dX5_goOn_148 rfl (fun r8 σ9 => ?_)
    refine aw_if_ne (pc := 151) (tgt := 158) dX5_goOn_151 (by decide) (fun _ => ?_) (fun _ => ?_)
    · refine aw_iload_n (pc := 154) dX5_goOn_154 rfl rfl ?_
      refine aw_if_eq (pc := 155) (tgt := 162) dX5_goOn_155 (by decide) (fun _ => ?_) (fun _ => ?_)
      · refine aw_iconst (pc := 162) (v := 0) dX5_goOn_162 (by decide) ?_
        exact aw_wk (wk_same (wk_same (wk_none (wk_same wk_nil)))) (xX5_goOn_J163 k4 hk4 l1 l3 0 σ9)
      exact aw_wk (wk_same (wk_same (wk_none (wk_same wk_nil)))) (xX5_goOn_J158 k4 hk4 l1 l3 σ9)
    exact aw_wk (wk_same (wk_same (wk_none (wk_same wk_nil)))) (xX5_goOn_J158 k4 hk4 l1 l3 σ9)
  exact aw_wk (wk_same (wk_same (wk_same (wk_same wk_nil)))) (xX5_goOn_J164 k4 hk4 l1 l2 l3 σ6)
noncomputable def fX5_goOn_J91 (k4 : Int32 → Int32 → Int32 → ST → Option (Int32 × ST)) (l1 : Int32) (l3 : Int32) (s0 : Int32) (σ : ST) : Option (Int32 × ST) :=
  fX5_goOn_J92 k4 l1 s0 l3 σ
set_option maxRecDepth 10000 in
theorem xX5_goOn_J91 (k4 : Int32 → Int32 → Int32 → ST → Option (Int32 × ST)) (hk4 : ∀ (l1 : Int32) (l2 : Int32) (l3 : Int32) (σ : ST), AW wlM yX5_goOn cX5_goOn 4 (some .boolean) rmX5_goOn emI (k4 l1 l2 l3 σ) 4 [some (.inr (some 0)), some (.inl l1), some (.inl l2), some (.inl l3)] [] σ) (l1 : Int32) (l3 : Int32) (s0 : Int32) (σ : ST) : AW wlM yX5_goOn cX5_goOn 4 (some .boolean) rmX5_goOn emI (fX5_goOn_J91 k4 l1 l3 s0 σ) 91 [some (.inr (some 0)), some (.inl l1), none, some (.inl l3)] [.inl s0] σ := by
  unfold fX5_goOn_J91
  refine aw_stn (pc := 91) (L' := [some (.inr (some 0)), some (.inl l1), some (.inl s0), some (.inl l3)]) dX5_goOn_91 rfl (by decide) rfl ?_
  exact aw_wk (wk_same (wk_same (wk_same (wk_same wk_nil)))) (xX5_goOn_J92 k4 hk4 l1 s0 l3 σ)
noncomputable def fX5_goOn_J86 (k4 : Int32 → Int32 → Int32 → ST → Option (Int32 × ST)) (l1 : Int32) (l3 : Int32) (σ : ST) : Option (Int32 × ST) :=
  fX5_goOn_J91 k4 l1 l3 1 σ
set_option maxRecDepth 10000 in
theorem xX5_goOn_J86 (k4 : Int32 → Int32 → Int32 → ST → Option (Int32 × ST)) (hk4 : ∀ (l1 : Int32) (l2 : Int32) (l3 : Int32) (σ : ST), AW wlM yX5_goOn cX5_goOn 4 (some .boolean) rmX5_goOn emI (k4 l1 l2 l3 σ) 4 [some (.inr (some 0)), some (.inl l1), some (.inl l2), some (.inl l3)] [] σ) (l1 : Int32) (l3 : Int32) (σ : ST) : AW wlM yX5_goOn cX5_goOn 4 (some .boolean) rmX5_goOn emI (fX5_goOn_J86 k4 l1 l3 σ) 86 [some (.inr (some 0)), some (.inl l1), none, some (.inl l3)] [] σ := by
  unfold fX5_goOn_J86
  refine aw_iconst (pc := 86) (v := 1) dX5_goOn_86 (by decide) ?_
  refine aw_goto (pc := 87) (tgt := 91) dX5_goOn_87 (by decide) ?_
  exact aw_wk (wk_same (wk_same (wk_none (wk_same wk_nil)))) (xX5_goOn_J91 k4 hk4 l1 l3 1 σ)
noncomputable def fX5_goOn_B4 (k4 : Int32 → Int32 → Int32 → ST → Option (Int32 × ST)) (l1 : Int32) (l2 : Int32) (l3 : Int32) (σ : ST) : Option (Int32 × ST) :=
  if (σ.1 0 8) ≤ l3 then (if (l2 = 0 ∨ l2 = 1) then some (l2, σ) else none) else (if ib ((30 * (l1 / 2)) + l3) 900 = true then if (σ.1 8 ((30 * (l1 / 2)) + l3).toNatClampNeg) = 0 then (if ib l3 30 = true then cb (fX5_knotOf l1 σ) (fun r1 σ2 => if (σ.1 3 l3.toNatClampNeg) = r1 then (if ib l1 60 = true then if ib l3 30 = true then if ib l1 60 = true then if ib l3 30 = true then cb (fX5_come ((2 * l3) + 1) ((σ2.1 17 l1.toNatClampNeg) + (4 * (σ2.1 5 l3.toNatClampNeg))) ((σ2.1 18 l1.toNatClampNeg) + (σ2.1 7 l3.toNatClampNeg)) σ2) (fun r3 σ4 => if r3 = 0 then (if l2 = 0 then (fX5_goOn_J91 k4 l1 l3 0 σ4) else (fX5_goOn_J86 k4 l1 l3 σ4)) else (fX5_goOn_J86 k4 l1 l3 σ4)) else none else none else none else none) else (fX5_goOn_J92 k4 l1 l2 l3 σ2)) else none) else (fX5_goOn_J164 k4 l1 l2 l3 σ) else none)
set_option maxRecDepth 10000 in
theorem xX5_goOn_B4 (k4 : Int32 → Int32 → Int32 → ST → Option (Int32 × ST)) (hk4 : ∀ (l1 : Int32) (l2 : Int32) (l3 : Int32) (σ : ST), AW wlM yX5_goOn cX5_goOn 4 (some .boolean) rmX5_goOn emI (k4 l1 l2 l3 σ) 4 [some (.inr (some 0)), some (.inl l1), some (.inl l2), some (.inl l3)] [] σ) (l1 : Int32) (l2 : Int32) (l3 : Int32) (σ : ST) : AW wlM yX5_goOn cX5_goOn 4 (some .boolean) rmX5_goOn emI (fX5_goOn_B4 k4 l1 l2 l3 σ) 4 [some (.inr (some 0)), some (.inl l1), some (.inl l2), some (.inl l3)] [] σ := by
  unfold fX5_goOn_B4
  refine aw_iload_n (pc := 4) dX5_goOn_4 rfl rfl ?_
  refine aw_aload_n (pc := 5) dX5_goOn_5 rfl rfl ?_
  refine aw_get (pc := 6) (v := .inl (σ.1 0 8)) foX5_94 (atM0 _) rfl dX5_goOn_6 ?_
  refine aw_icmp_ge (pc := 9) (tgt := 170) dX5_goOn_9 (by decide) (fun _ => ?_) (fun _ => ?_)
  · refine aw_iload_n (pc := 170) dX5_goOn_170 rfl rfl ?_
    exact aw_rz (pc := 171) rfl rfl dX5_goOn_171
  refine aw_aload_n (pc := 12) dX5_goOn_12 rfl rfl ?_
  refine aw_get (pc := 13) (v := .inr (some 8)) foX5_31 (atM0 _) rfl dX5_goOn_13 ?_
  refine aw_bipush (pc := 16) (v := 30) dX5_goOn_16 (by decide) ?_
  refine aw_iload_n (pc := 18) dX5_goOn_18 rfl rfl ?_
  refine aw_iconst (pc := 19) (v := 2) dX5_goOn_19 (by decide) ?_
  refine aw_idiv (pc := 20) dX5_goOn_20 (by decide) ?_
  refine aw_imul (pc := 21) dX5_goOn_21 ?_
  refine aw_iload_n (pc := 22) dX5_goOn_22 rfl rfl ?_
  refine aw_iadd (pc := 23) dX5_goOn_23 ?_
  refine aw_bald' (pc := 24) (atM8 _) dX5_goOn_24 ?_
  refine aw_if_ne (pc := 25) (tgt := 164) dX5_goOn_25 (by decide) (fun _ => ?_) (fun _ => ?_)
  · refine aw_aload_n (pc := 28) dX5_goOn_28 rfl rfl ?_
    refine aw_get (pc := 29) (v := .inr (some 3)) foX5_16 (atM0 _) rfl dX5_goOn_29 ?_
    refine aw_iload_n (pc := 32) dX5_goOn_32 rfl rfl ?_
    refine aw_iald' (pc := 33) (atM3 _) dX5_goOn_33 ?_
    refine aw_aload_n (pc := 34) dX5_goOn_34 rfl rfl ?_
    refine aw_iload_n (pc := 35) dX5_goOn_35 rfl rfl ?_
    refine aw_cVI (pc := 36) (st := [.inl (σ.1 3 l3.toNatClampNeg)]) (xX5_knotOf l1 σ) (atM0 _) rfl ckX5_119 ⟨rfl, rfl, by decide, by decide⟩ (Nat.le_of_ble_eq_true rfl) dX5_goOn_36 rfl (fun r1 σ2 => ?_)
    refine aw_icmp_ne (pc := 39) (tgt := 92) dX5_goOn_39 (by decide) (fun _ => ?_) (fun _ => ?_)
    · refine aw_aload_n (pc := 42) dX5_goOn_42 rfl rfl ?_
      refine aw_iconst (pc := 43) (v := 2) dX5_goOn_43 (by decide) ?_
      refine aw_iload_n (pc := 44) dX5_goOn_44 rfl rfl ?_
      refine aw_imul (pc := 45) dX5_goOn_45 ?_
      refine aw_iconst (pc := 46) (v := 1) dX5_goOn_46 (by decide) ?_
      refine aw_iadd (pc := 47) dX5_goOn_47 ?_
      refine aw_aload_n (pc := 48) dX5_goOn_48 rfl rfl ?_
      refine aw_get (pc := 49) (v := .inr (some 17)) foX5_66 (atM0 _) rfl dX5_goOn_49 ?_
      refine aw_iload_n (pc := 52) dX5_goOn_52 rfl rfl ?_
      refine aw_iald' (pc := 53) (atM17 _) dX5_goOn_53 ?_
      refine aw_iconst (pc := 54) (v := 4) dX5_goOn_54 (by decide) ?_
      refine aw_aload_n (pc := 55) dX5_goOn_55 rfl rfl ?_
      refine aw_get (pc := 56) (v := .inr (some 5)) foX5_22 (atM0 _) rfl dX5_goOn_56 ?_
      refine aw_iload_n (pc := 59) dX5_goOn_59 rfl rfl ?_
      refine aw_iald' (pc := 60) (atM5 _) dX5_goOn_60 ?_
      refine aw_imul (pc := 61) dX5_goOn_61 ?_
      refine aw_iadd (pc := 62) dX5_goOn_62 ?_
      refine aw_aload_n (pc := 63) dX5_goOn_63 rfl rfl ?_
      refine aw_get (pc := 64) (v := .inr (some 18)) foX5_69 (atM0 _) rfl dX5_goOn_64 ?_
      refine aw_iload_n (pc := 67) dX5_goOn_67 rfl rfl ?_
      refine aw_iald' (pc := 68) (atM18 _) dX5_goOn_68 ?_
      refine aw_aload_n (pc := 69) dX5_goOn_69 rfl rfl ?_
      refine aw_get (pc := 70) (v := .inr (some 7)) foX5_28 (atM0 _) rfl dX5_goOn_70 ?_
      refine aw_iload_n (pc := 73) dX5_goOn_73 rfl rfl ?_
      refine aw_iald' (pc := 74) (atM7 _) dX5_goOn_74 ?_
      refine aw_iadd (pc := 75) dX5_goOn_75 ?_
      refine aw_cVI (pc := 76) (st := []) (xX5_come ((2 * l3) + 1) ((σ2.1 17 l1.toNatClampNeg) + (4 * (σ2.1 5 l3.toNatClampNeg))) ((σ2.1 18 l1.toNatClampNeg) + (σ2.1 7 l3.toNatClampNeg)) σ2) (atM0 _) rfl ckX5_113 ⟨rfl, rfl, by decide, by decide⟩ (Nat.le_of_ble_eq_true rfl) dX5_goOn_76 rfl (fun r3 σ4 => ?_)
      refine aw_if_ne (pc := 79) (tgt := 86) dX5_goOn_79 (by decide) (fun _ => ?_) (fun _ => ?_)
      · refine aw_iload_n (pc := 82) dX5_goOn_82 rfl rfl ?_
        refine aw_if_eq (pc := 83) (tgt := 90) dX5_goOn_83 (by decide) (fun _ => ?_) (fun _ => ?_)
        · refine aw_iconst (pc := 90) (v := 0) dX5_goOn_90 (by decide) ?_
          exact aw_wk (wk_same (wk_same (wk_none (wk_same wk_nil)))) (xX5_goOn_J91 k4 hk4 l1 l3 0 σ4)
        exact aw_wk (wk_same (wk_same (wk_none (wk_same wk_nil)))) (xX5_goOn_J86 k4 hk4 l1 l3 σ4)
      exact aw_wk (wk_same (wk_same (wk_none (wk_same wk_nil)))) (xX5_goOn_J86 k4 hk4 l1 l3 σ4)
    exact aw_wk (wk_same (wk_same (wk_same (wk_same wk_nil)))) (xX5_goOn_J92 k4 hk4 l1 l2 l3 σ2)
  exact aw_wk (wk_same (wk_same (wk_same (wk_same wk_nil)))) (xX5_goOn_J164 k4 hk4 l1 l2 l3 σ)
noncomputable def fX5_goOn_L4 (n : Nat) (l1 : Int32) (l2 : Int32) (l3 : Int32) (σ : ST) : Option (Int32 × ST) := loopN (α := Int32 × Int32 × Int32 × ST) (fun k a => fX5_goOn_B4 (fun l1 l2 l3 σ => k (l1, l2, l3, σ)) a.1 a.2.1 a.2.2.1 a.2.2.2) n (l1, l2, l3, σ)
theorem xX5_goOn_L4 (n : Nat) (l1 : Int32) (l2 : Int32) (l3 : Int32) (σ : ST) : AW wlM yX5_goOn cX5_goOn 4 (some .boolean) rmX5_goOn emI (fX5_goOn_L4 n l1 l2 l3 σ) 4 [some (.inr (some 0)), some (.inl l1), some (.inl l2), some (.inl l3)] [] σ :=
  aw_loop (α := Int32 × Int32 × Int32 × ST) (Lf := fun a => [some (.inr (some 0)), some (.inl (a.1)), some (.inl (a.2.1)), some (.inl (a.2.2.1))]) (sf := fun a => a.2.2.2) (fun k hk a => by
    obtain ⟨l1, l2, l3, σ⟩ := a
    exact xX5_goOn_B4 (fun l1 l2 l3 σ => k (l1, l2, l3, σ)) (fun l1 l2 l3 σ => hk (l1, l2, l3, σ)) l1 l2 l3 σ) n (l1, l2, l3, σ)
noncomputable def fX5_goOn (a1 : Int32) (σ : ST) : Option (Int32 × ST) :=
  fX5_goOn_L4 FU a1 0 0 σ
set_option maxRecDepth 10000 in
theorem xX5_goOn (a1 : Int32) (σ : ST) : MS wlM yX5_goOn cX5_goOn 4 (some .boolean) rmX5_goOn emI [.inr (some 0), .inl a1] σ (fX5_goOn a1 σ) := by
  refine MS.of (by decide +kernel) (Nat.le_of_ble_eq_true rfl) ?_
  show AW wlM yX5_goOn cX5_goOn 4 (some .boolean) rmX5_goOn emI (fX5_goOn a1 σ) 0 [some (.inr (some 0)), some (.inl a1), none, none] [] σ
  unfold fX5_goOn
  refine aw_iconst (pc := 0) (v := 0) dX5_goOn_0 (by decide) ?_
  refine aw_stn (pc := 1) (L' := [some (.inr (some 0)), some (.inl a1), some (.inl 0), none]) dX5_goOn_1 rfl (by decide) rfl ?_
  refine aw_iconst (pc := 2) (v := 0) dX5_goOn_2 (by decide) ?_
  refine aw_stn (pc := 3) (L' := [some (.inr (some 0)), some (.inl a1), some (.inl 0), some (.inl 0)]) dX5_goOn_3 rfl (by decide) rfl ?_
  exact aw_wk (wk_same (wk_same (wk_same (wk_same wk_nil)))) (xX5_goOn_L4 FU a1 0 0 σ)
abbrev rmX5_comeFrom : Room := { frames := 2, cells := 0, slots := 0, locals := 46 }
noncomputable def fX5_comeFrom_J175 (k120 : Int32 → ST → Option (Unit × ST)) (k131 : Int32 → Int32 → ST → Option (Unit × ST)) (l4 : Int32) (l5 : Int32) (σ : ST) : Option (Unit × ST) :=
  bindv (l5 + 1) (fun v11 => k131 l4 v11 σ)
set_option maxRecDepth 10000 in
theorem xX5_comeFrom_J175 (k120 : Int32 → ST → Option (Unit × ST)) (k131 : Int32 → Int32 → ST → Option (Unit × ST)) (hk120 : ∀ (l4 : Int32) (σ : ST), AW wlM yX5_comeFrom cX5_comeFrom 6 none rmX5_comeFrom emV (k120 l4 σ) 120 [some (.inr (some 0)), none, none, none, some (.inl l4), none] [] σ) (hk131 : ∀ (l4 : Int32) (l5 : Int32) (σ : ST), AW wlM yX5_comeFrom cX5_comeFrom 6 none rmX5_comeFrom emV (k131 l4 l5 σ) 131 [some (.inr (some 0)), none, none, none, some (.inl l4), some (.inl l5)] [] σ) (l4 : Int32) (l5 : Int32) (σ : ST) : AW wlM yX5_comeFrom cX5_comeFrom 6 none rmX5_comeFrom emV (fX5_comeFrom_J175 k120 k131 l4 l5 σ) 175 [some (.inr (some 0)), none, none, none, some (.inl l4), some (.inl l5)] [] σ := by
  unfold fX5_comeFrom_J175
  refine aw_iincB (pc := 175) (v := 1) (Lf := fun v11 => [some (.inr (some 0)), none, none, none, some (.inl l4), some (.inl v11)]) dX5_comeFrom_175 rfl (by decide) (by decide) (fun _ => rfl) (fun v11 => ?_)
  refine aw_goto (pc := 178) (tgt := 131) dX5_comeFrom_178 (by decide) ?_
  exact aw_wk (wk_same (wk_none (wk_none (wk_none (wk_same (wk_same wk_nil)))))) (hk131 l4 v11 σ)
noncomputable def fX5_comeFrom_J173 (k120 : Int32 → ST → Option (Unit × ST)) (k131 : Int32 → Int32 → ST → Option (Unit × ST)) (l5 : Int32) (s0 : Int32) (σ : ST) : Option (Unit × ST) :=
  fX5_comeFrom_J175 k120 k131 s0 l5 σ
set_option maxRecDepth 10000 in
theorem xX5_comeFrom_J173 (k120 : Int32 → ST → Option (Unit × ST)) (k131 : Int32 → Int32 → ST → Option (Unit × ST)) (hk120 : ∀ (l4 : Int32) (σ : ST), AW wlM yX5_comeFrom cX5_comeFrom 6 none rmX5_comeFrom emV (k120 l4 σ) 120 [some (.inr (some 0)), none, none, none, some (.inl l4), none] [] σ) (hk131 : ∀ (l4 : Int32) (l5 : Int32) (σ : ST), AW wlM yX5_comeFrom cX5_comeFrom 6 none rmX5_comeFrom emV (k131 l4 l5 σ) 131 [some (.inr (some 0)), none, none, none, some (.inl l4), some (.inl l5)] [] σ) (l5 : Int32) (s0 : Int32) (σ : ST) : AW wlM yX5_comeFrom cX5_comeFrom 6 none rmX5_comeFrom emV (fX5_comeFrom_J173 k120 k131 l5 s0 σ) 173 [some (.inr (some 0)), none, none, none, none, some (.inl l5)] [.inl s0] σ := by
  unfold fX5_comeFrom_J173
  refine aw_st (pc := 173) (L' := [some (.inr (some 0)), none, none, none, some (.inl s0), some (.inl l5)]) dX5_comeFrom_173 (by decide) rfl ?_
  exact aw_wk (wk_same (wk_none (wk_none (wk_none (wk_same (wk_same wk_nil)))))) (xX5_comeFrom_J175 k120 k131 hk120 hk131 s0 l5 σ)
noncomputable def fX5_comeFrom_J168 (k120 : Int32 → ST → Option (Unit × ST)) (k131 : Int32 → Int32 → ST → Option (Unit × ST)) (l5 : Int32) (σ : ST) : Option (Unit × ST) :=
  fX5_comeFrom_J173 k120 k131 l5 1 σ
set_option maxRecDepth 10000 in
theorem xX5_comeFrom_J168 (k120 : Int32 → ST → Option (Unit × ST)) (k131 : Int32 → Int32 → ST → Option (Unit × ST)) (hk120 : ∀ (l4 : Int32) (σ : ST), AW wlM yX5_comeFrom cX5_comeFrom 6 none rmX5_comeFrom emV (k120 l4 σ) 120 [some (.inr (some 0)), none, none, none, some (.inl l4), none] [] σ) (hk131 : ∀ (l4 : Int32) (l5 : Int32) (σ : ST), AW wlM yX5_comeFrom cX5_comeFrom 6 none rmX5_comeFrom emV (k131 l4 l5 σ) 131 [some (.inr (some 0)), none, none, none, some (.inl l4), some (.inl l5)] [] σ) (l5 : Int32) (σ : ST) : AW wlM yX5_comeFrom cX5_comeFrom 6 none rmX5_comeFrom emV (fX5_comeFrom_J168 k120 k131 l5 σ) 168 [some (.inr (some 0)), none, none, none, none, some (.inl l5)] [] σ := by
  unfold fX5_comeFrom_J168
  refine aw_iconst (pc := 168) (v := 1) dX5_comeFrom_168 (by decide) ?_
  refine aw_goto (pc := 169) (tgt := 173) dX5_comeFrom_169 (by decide) ?_
  exact aw_wk (wk_same (wk_none (wk_none (wk_none (wk_none (wk_same wk_nil)))))) (xX5_comeFrom_J173 k120 k131 hk120 hk131 l5 1 σ)
noncomputable def fX5_comeFrom_B131 (k120 : Int32 → ST → Option (Unit × ST)) (k131 : Int32 → Int32 → ST → Option (Unit × ST)) (l4 : Int32) (l5 : Int32) (σ : ST) : Option (Unit × ST) :=
  if (2 * (σ.1 0 8)) ≤ l5 then (k120 l4 σ) else (if ib l5 60 = true then if 1000000000 ≤ (σ.1 17 l5.toNatClampNeg) then (fX5_comeFrom_J175 k120 k131 l4 l5 σ) else (cb (fX5_goOn l5 σ) (fun r12 σ13 => if r12 = 0 then (if l4 = 0 then (fX5_comeFrom_J173 k120 k131 l5 0 σ13) else (fX5_comeFrom_J168 k120 k131 l5 σ13)) else (fX5_comeFrom_J168 k120 k131 l5 σ13))) else none)
set_option maxRecDepth 10000 in
theorem xX5_comeFrom_B131 (k120 : Int32 → ST → Option (Unit × ST)) (k131 : Int32 → Int32 → ST → Option (Unit × ST)) (hk120 : ∀ (l4 : Int32) (σ : ST), AW wlM yX5_comeFrom cX5_comeFrom 6 none rmX5_comeFrom emV (k120 l4 σ) 120 [some (.inr (some 0)), none, none, none, some (.inl l4), none] [] σ) (hk131 : ∀ (l4 : Int32) (l5 : Int32) (σ : ST), AW wlM yX5_comeFrom cX5_comeFrom 6 none rmX5_comeFrom emV (k131 l4 l5 σ) 131 [some (.inr (some 0)), none, none, none, some (.inl l4), some (.inl l5)] [] σ) (l4 : Int32) (l5 : Int32) (σ : ST) : AW wlM yX5_comeFrom cX5_comeFrom 6 none rmX5_comeFrom emV (fX5_comeFrom_B131 k120 k131 l4 l5 σ) 131 [some (.inr (some 0)), none, none, none, some (.inl l4), some (.inl l5)] [] σ := by
  unfold fX5_comeFrom_B131
  refine aw_iload (pc := 131) dX5_comeFrom_131 rfl ?_
  refine aw_iconst (pc := 133) (v := 2) dX5_comeFrom_133 (by decide) ?_
  refine aw_aload_n (pc := 134) dX5_comeFrom_134 rfl rfl ?_
  refine aw_get (pc := 135) (v := .inl (σ.1 0 8)) foX5_94 (atM0 _) rfl dX5_comeFrom_135 ?_
  refine aw_imul (pc := 138) dX5_comeFrom_138 ?_
  refine aw_icmp_ge (pc := 139) (tgt := 181) dX5_comeFrom_139 (by decide) (fun _ => ?_) (fun _ => ?_)
  · refine aw_goto (pc := 181) (tgt := 120) dX5_comeFrom_181 (by decide) ?_
    exact aw_wk (wk_same (wk_none (wk_none (wk_none (wk_same (wk_none wk_nil)))))) (hk120 l4 σ)
  refine aw_aload_n (pc := 142) dX5_comeFrom_142 rfl rfl ?_
  refine aw_get (pc := 143) (v := .inr (some 17)) foX5_66 (atM0 _) rfl dX5_comeFrom_143 ?_
  refine aw_iload (pc := 146) dX5_comeFrom_146 rfl ?_
  refine aw_iald' (pc := 148) (atM17 _) dX5_comeFrom_148 ?_
  refine aw_ldc (pc := 149) lcX5_108 dX5_comeFrom_149 ?_
  refine aw_icmp_ge (pc := 151) (tgt := 175) dX5_comeFrom_151 (by decide) (fun _ => ?_) (fun _ => ?_)
  · exact aw_wk (wk_same (wk_none (wk_none (wk_none (wk_same (wk_same wk_nil)))))) (xX5_comeFrom_J175 k120 k131 hk120 hk131 l4 l5 σ)
  refine aw_aload_n (pc := 154) dX5_comeFrom_154 rfl rfl ?_
  refine aw_iload (pc := 155) dX5_comeFrom_155 rfl ?_
  refine aw_cVI (pc := 157) (st := []) (xX5_goOn l5 σ) (atM0 _) rfl ckX5_116 ⟨rfl, rfl, by decide, by decide⟩ (Nat.le_of_ble_eq_true rfl) dX5_comeFrom_157 rfl (fun r12 σ13 => ?_)
  refine aw_if_ne (pc := 160) (tgt := 168) dX5_comeFrom_160 (by decide) (fun _ => ?_) (fun _ => ?_)
  · refine aw_iload (pc := 163) dX5_comeFrom_163 rfl ?_
    refine aw_if_eq (pc := 165) (tgt := 172) dX5_comeFrom_165 (by decide) (fun _ => ?_) (fun _ => ?_)
    · refine aw_iconst (pc := 172) (v := 0) dX5_comeFrom_172 (by decide) ?_
      exact aw_wk (wk_same (wk_none (wk_none (wk_none (wk_none (wk_same wk_nil)))))) (xX5_comeFrom_J173 k120 k131 hk120 hk131 l5 0 σ13)
    exact aw_wk (wk_same (wk_none (wk_none (wk_none (wk_none (wk_same wk_nil)))))) (xX5_comeFrom_J168 k120 k131 hk120 hk131 l5 σ13)
  exact aw_wk (wk_same (wk_none (wk_none (wk_none (wk_none (wk_same wk_nil)))))) (xX5_comeFrom_J168 k120 k131 hk120 hk131 l5 σ13)
noncomputable def fX5_comeFrom_L131 (k120 : Int32 → ST → Option (Unit × ST)) (n : Nat) (l4 : Int32) (l5 : Int32) (σ : ST) : Option (Unit × ST) := loopN (α := Int32 × Int32 × ST) (fun k a => fX5_comeFrom_B131 k120 (fun l4 l5 σ => k (l4, l5, σ)) a.1 a.2.1 a.2.2) n (l4, l5, σ)
theorem xX5_comeFrom_L131 (k120 : Int32 → ST → Option (Unit × ST)) (hk120 : ∀ (l4 : Int32) (σ : ST), AW wlM yX5_comeFrom cX5_comeFrom 6 none rmX5_comeFrom emV (k120 l4 σ) 120 [some (.inr (some 0)), none, none, none, some (.inl l4), none] [] σ) (n : Nat) (l4 : Int32) (l5 : Int32) (σ : ST) : AW wlM yX5_comeFrom cX5_comeFrom 6 none rmX5_comeFrom emV (fX5_comeFrom_L131 k120 n l4 l5 σ) 131 [some (.inr (some 0)), none, none, none, some (.inl l4), some (.inl l5)] [] σ :=
  aw_loop (α := Int32 × Int32 × ST) (Lf := fun a => [some (.inr (some 0)), none, none, none, some (.inl (a.1)), some (.inl (a.2.1))]) (sf := fun a => a.2.2) (fun k hk a => by
    obtain ⟨l4, l5, σ⟩ := a
    exact xX5_comeFrom_B131 k120 (fun l4 l5 σ => k (l4, l5, σ)) hk120 (fun l4 l5 σ => hk (l4, l5, σ)) l4 l5 σ) n (l4, l5, σ)
noncomputable def fX5_comeFrom_B120 (k120 : Int32 → ST → Option (Unit × ST)) (l4 : Int32) (σ : ST) : Option (Unit × ST) :=
  if l4 = 0 then (some ((), σ)) else (fX5_comeFrom_L131 k120 FU 0 0 σ)
set_option maxRecDepth 10000 in
theorem xX5_comeFrom_B120 (k120 : Int32 → ST → Option (Unit × ST)) (hk120 : ∀ (l4 : Int32) (σ : ST), AW wlM yX5_comeFrom cX5_comeFrom 6 none rmX5_comeFrom emV (k120 l4 σ) 120 [some (.inr (some 0)), none, none, none, some (.inl l4), none] [] σ) (l4 : Int32) (σ : ST) : AW wlM yX5_comeFrom cX5_comeFrom 6 none rmX5_comeFrom emV (fX5_comeFrom_B120 k120 l4 σ) 120 [some (.inr (some 0)), none, none, none, some (.inl l4), none] [] σ := by
  unfold fX5_comeFrom_B120
  refine aw_iload (pc := 120) dX5_comeFrom_120 rfl ?_
  refine aw_if_eq (pc := 122) (tgt := 184) dX5_comeFrom_122 (by decide) (fun _ => ?_) (fun _ => ?_)
  · exact aw_ret_v (pc := 184) rfl rfl dX5_comeFrom_184
  refine aw_iconst (pc := 125) (v := 0) dX5_comeFrom_125 (by decide) ?_
  refine aw_st (pc := 126) (L' := [some (.inr (some 0)), none, none, none, some (.inl 0), none]) dX5_comeFrom_126 (by decide) rfl ?_
  refine aw_iconst (pc := 128) (v := 0) dX5_comeFrom_128 (by decide) ?_
  refine aw_st (pc := 129) (L' := [some (.inr (some 0)), none, none, none, some (.inl 0), some (.inl 0)]) dX5_comeFrom_129 (by decide) rfl ?_
  exact aw_wk (wk_same (wk_none (wk_none (wk_none (wk_same (wk_same wk_nil)))))) (xX5_comeFrom_L131 k120 hk120 FU 0 0 σ)
noncomputable def fX5_comeFrom_L120 (n : Nat) (l4 : Int32) (σ : ST) : Option (Unit × ST) := loopN (α := Int32 × ST) (fun k a => fX5_comeFrom_B120 (fun l4 σ => k (l4, σ)) a.1 a.2) n (l4, σ)
theorem xX5_comeFrom_L120 (n : Nat) (l4 : Int32) (σ : ST) : AW wlM yX5_comeFrom cX5_comeFrom 6 none rmX5_comeFrom emV (fX5_comeFrom_L120 n l4 σ) 120 [some (.inr (some 0)), none, none, none, some (.inl l4), none] [] σ :=
  aw_loop (α := Int32 × ST) (Lf := fun a => [some (.inr (some 0)), none, none, none, some (.inl (a.1)), none]) (sf := fun a => a.2) (fun k hk a => by
    obtain ⟨l4, σ⟩ := a
    exact xX5_comeFrom_B120 (fun l4 σ => k (l4, σ)) (fun l4 σ => hk (l4, σ)) l4 σ) n (l4, σ)
noncomputable def fX5_comeFrom_J118 (s0 : Int32) (σ : ST) : Option (Unit × ST) :=
  fX5_comeFrom_L120 FU s0 σ
set_option maxRecDepth 10000 in
theorem xX5_comeFrom_J118 (s0 : Int32) (σ : ST) : AW wlM yX5_comeFrom cX5_comeFrom 6 none rmX5_comeFrom emV (fX5_comeFrom_J118 s0 σ) 118 [some (.inr (some 0)), none, none, none, none, none] [.inl s0] σ := by
  unfold fX5_comeFrom_J118
  refine aw_st (pc := 118) (L' := [some (.inr (some 0)), none, none, none, some (.inl s0), none]) dX5_comeFrom_118 (by decide) rfl ?_
  exact aw_wk (wk_same (wk_none (wk_none (wk_none (wk_same (wk_none wk_nil)))))) (xX5_comeFrom_L120 FU s0 σ)
noncomputable def fX5_comeFrom_J113 (σ : ST) : Option (Unit × ST) :=
  fX5_comeFrom_J118 1 σ
set_option maxRecDepth 10000 in
theorem xX5_comeFrom_J113 (σ : ST) : AW wlM yX5_comeFrom cX5_comeFrom 6 none rmX5_comeFrom emV (fX5_comeFrom_J113 σ) 113 [some (.inr (some 0)), none, none, none, none, none] [] σ := by
  unfold fX5_comeFrom_J113
  refine aw_iconst (pc := 113) (v := 1) dX5_comeFrom_113 (by decide) ?_
  refine aw_goto (pc := 114) (tgt := 118) dX5_comeFrom_114 (by decide) ?_
  exact aw_wk (wk_same (wk_none (wk_none (wk_none (wk_none (wk_none wk_nil)))))) (xX5_comeFrom_J118 1 σ)
noncomputable def fX5_comeFrom_J84 (l2 : Int32) (l3 : Int32) (l4 : Int32) (σ : ST) : Option (Unit × ST) :=
  if ib l2 30 = true then cb (fX5_feeOf l2 l3 σ) (fun r7 σ8 => cb (fX5_come (2 * l2) (l3 * (σ.1 5 l2.toNatClampNeg)) r7 σ8) (fun r9 σ10 => if r9 = 0 then (if l4 = 0 then (fX5_comeFrom_J118 0 σ10) else (fX5_comeFrom_J113 σ10)) else (fX5_comeFrom_J113 σ10))) else none
set_option maxRecDepth 10000 in
theorem xX5_comeFrom_J84 (l2 : Int32) (l3 : Int32) (l4 : Int32) (σ : ST) : AW wlM yX5_comeFrom cX5_comeFrom 6 none rmX5_comeFrom emV (fX5_comeFrom_J84 l2 l3 l4 σ) 84 [some (.inr (some 0)), none, some (.inl l2), some (.inl l3), some (.inl l4), none] [] σ := by
  unfold fX5_comeFrom_J84
  refine aw_aload_n (pc := 84) dX5_comeFrom_84 rfl rfl ?_
  refine aw_iconst (pc := 85) (v := 2) dX5_comeFrom_85 (by decide) ?_
  refine aw_iload_n (pc := 86) dX5_comeFrom_86 rfl rfl ?_
  refine aw_imul (pc := 87) dX5_comeFrom_87 ?_
  refine aw_iload_n (pc := 88) dX5_comeFrom_88 rfl rfl ?_
  refine aw_aload_n (pc := 89) dX5_comeFrom_89 rfl rfl ?_
  refine aw_get (pc := 90) (v := .inr (some 5)) foX5_22 (atM0 _) rfl dX5_comeFrom_90 ?_
  refine aw_iload_n (pc := 93) dX5_comeFrom_93 rfl rfl ?_
  refine aw_iald' (pc := 94) (atM5 _) dX5_comeFrom_94 ?_
  refine aw_imul (pc := 95) dX5_comeFrom_95 ?_
  refine aw_aload_n (pc := 96) dX5_comeFrom_96 rfl rfl ?_
  refine aw_iload_n (pc := 97) dX5_comeFrom_97 rfl rfl ?_
  refine aw_iload_n (pc := 98) dX5_comeFrom_98 rfl rfl ?_
  refine aw_cVI (pc := 99) (st := [.inl (l3 * (σ.1 5 l2.toNatClampNeg)), .inl (2 * l2), .inr (some 0)]) (xX5_feeOf l2 l3 σ) (atM0 _) rfl ckX5_109 ⟨rfl, rfl, by decide, by decide⟩ (Nat.le_of_ble_eq_true rfl) dX5_comeFrom_99 rfl (fun r7 σ8 => ?_)
  refine aw_cVI (pc := 102) (st := []) (xX5_come (2 * l2) (l3 * (σ.1 5 l2.toNatClampNeg)) r7 σ8) (atM0 _) rfl ckX5_113 ⟨rfl, rfl, by decide, by decide⟩ (Nat.le_of_ble_eq_true rfl) dX5_comeFrom_102 rfl (fun r9 σ10 => ?_)
  refine aw_if_ne (pc := 105) (tgt := 113) dX5_comeFrom_105 (by decide) (fun _ => ?_) (fun _ => ?_)
  · refine aw_iload (pc := 108) dX5_comeFrom_108 rfl ?_
    refine aw_if_eq (pc := 110) (tgt := 117) dX5_comeFrom_110 (by decide) (fun _ => ?_) (fun _ => ?_)
    · refine aw_iconst (pc := 117) (v := 0) dX5_comeFrom_117 (by decide) ?_
      exact aw_wk (wk_same (wk_none (wk_none (wk_none (wk_none (wk_none wk_nil)))))) (xX5_comeFrom_J118 0 σ10)
    exact aw_wk (wk_same (wk_none (wk_none (wk_none (wk_none (wk_none wk_nil)))))) (xX5_comeFrom_J113 σ10)
  exact aw_wk (wk_same (wk_none (wk_none (wk_none (wk_none (wk_none wk_nil)))))) (xX5_comeFrom_J113 σ10)
noncomputable def fX5_comeFrom_B11 (k11 : Int32 → Int32 → Int32 → ST → Option (Unit × ST)) (l2 : Int32) (l3 : Int32) (l4 : Int32) (σ : ST) : Option (Unit × ST) :=
  if 60 ≤ l4 then (if ib l2 30 = true then cb (fX5_feeOf l2 (4 - l3) σ) (fun r3 σ4 => cb (fX5_come ((2 * l2) + 1) ((4 - l3) * (σ.1 5 l2.toNatClampNeg)) r3 σ4) (fun r5 σ6 => if ib l2 30 = true then if (σ6.1 6 l2.toNatClampNeg) = 1 then (if l3 = 0 then (fX5_comeFrom_J84 l2 l3 r5 σ6) else (fX5_comeFrom_L120 FU r5 σ6)) else (fX5_comeFrom_J84 l2 l3 r5 σ6) else none)) else none) else (if ib l4 60 = true then bindv (stI σ 17 l4.toNatClampNeg 1000000000) (fun σ14 => if ib l4 60 = true then bindv (stI σ14 18 l4.toNatClampNeg 0) (fun σ15 => bindv (l4 + 1) (fun v16 => k11 l2 l3 v16 σ15)) else none) else none)
set_option maxRecDepth 10000 in
theorem xX5_comeFrom_B11 (k11 : Int32 → Int32 → Int32 → ST → Option (Unit × ST)) (hk11 : ∀ (l2 : Int32) (l3 : Int32) (l4 : Int32) (σ : ST), AW wlM yX5_comeFrom cX5_comeFrom 6 none rmX5_comeFrom emV (k11 l2 l3 l4 σ) 11 [some (.inr (some 0)), none, some (.inl l2), some (.inl l3), some (.inl l4), none] [] σ) (l2 : Int32) (l3 : Int32) (l4 : Int32) (σ : ST) : AW wlM yX5_comeFrom cX5_comeFrom 6 none rmX5_comeFrom emV (fX5_comeFrom_B11 k11 l2 l3 l4 σ) 11 [some (.inr (some 0)), none, some (.inl l2), some (.inl l3), some (.inl l4), none] [] σ := by
  unfold fX5_comeFrom_B11
  refine aw_iload (pc := 11) dX5_comeFrom_11 rfl ?_
  refine aw_bipush (pc := 13) (v := 60) dX5_comeFrom_13 (by decide) ?_
  refine aw_icmp_ge (pc := 15) (tgt := 41) dX5_comeFrom_15 (by decide) (fun _ => ?_) (fun _ => ?_)
  · refine aw_aload_n (pc := 41) dX5_comeFrom_41 rfl rfl ?_
    refine aw_iconst (pc := 42) (v := 2) dX5_comeFrom_42 (by decide) ?_
    refine aw_iload_n (pc := 43) dX5_comeFrom_43 rfl rfl ?_
    refine aw_imul (pc := 44) dX5_comeFrom_44 ?_
    refine aw_iconst (pc := 45) (v := 1) dX5_comeFrom_45 (by decide) ?_
    refine aw_iadd (pc := 46) dX5_comeFrom_46 ?_
    refine aw_iconst (pc := 47) (v := 4) dX5_comeFrom_47 (by decide) ?_
    refine aw_iload_n (pc := 48) dX5_comeFrom_48 rfl rfl ?_
    refine aw_isub (pc := 49) dX5_comeFrom_49 ?_
    refine aw_aload_n (pc := 50) dX5_comeFrom_50 rfl rfl ?_
    refine aw_get (pc := 51) (v := .inr (some 5)) foX5_22 (atM0 _) rfl dX5_comeFrom_51 ?_
    refine aw_iload_n (pc := 54) dX5_comeFrom_54 rfl rfl ?_
    refine aw_iald' (pc := 55) (atM5 _) dX5_comeFrom_55 ?_
    refine aw_imul (pc := 56) dX5_comeFrom_56 ?_
    refine aw_aload_n (pc := 57) dX5_comeFrom_57 rfl rfl ?_
    refine aw_iload_n (pc := 58) dX5_comeFrom_58 rfl rfl ?_
    refine aw_iconst (pc := 59) (v := 4) dX5_comeFrom_59 (by decide) ?_
    refine aw_iload_n (pc := 60) dX5_comeFrom_60 rfl rfl ?_
    refine aw_isub (pc := 61) dX5_comeFrom_61 ?_
    refine aw_cVI (pc := 62) (st := [.inl ((4 - l3) * (σ.1 5 l2.toNatClampNeg)), .inl ((2 * l2) + 1), .inr (some 0)]) (xX5_feeOf l2 (4 - l3) σ) (atM0 _) rfl ckX5_109 ⟨rfl, rfl, by decide, by decide⟩ (Nat.le_of_ble_eq_true rfl) dX5_comeFrom_62 rfl (fun r3 σ4 => ?_)
    refine aw_cVI (pc := 65) (st := []) (xX5_come ((2 * l2) + 1) ((4 - l3) * (σ.1 5 l2.toNatClampNeg)) r3 σ4) (atM0 _) rfl ckX5_113 ⟨rfl, rfl, by decide, by decide⟩ (Nat.le_of_ble_eq_true rfl) dX5_comeFrom_65 rfl (fun r5 σ6 => ?_)
    refine aw_st (pc := 68) (L' := [some (.inr (some 0)), none, some (.inl l2), some (.inl l3), some (.inl r5), none]) dX5_comeFrom_68 (by decide) rfl ?_
    refine aw_aload_n (pc := 70) dX5_comeFrom_70 rfl rfl ?_
    refine aw_get (pc := 71) (v := .inr (some 6)) foX5_25 (atM0 _) rfl dX5_comeFrom_71 ?_
    refine aw_iload_n (pc := 74) dX5_comeFrom_74 rfl rfl ?_
    refine aw_iald' (pc := 75) (atM6 _) dX5_comeFrom_75 ?_
    refine aw_iconst (pc := 76) (v := 1) dX5_comeFrom_76 (by decide) ?_
    refine aw_icmp_ne (pc := 77) (tgt := 84) dX5_comeFrom_77 (by decide) (fun _ => ?_) (fun _ => ?_)
    · refine aw_iload_n (pc := 80) dX5_comeFrom_80 rfl rfl ?_
      refine aw_if_ne (pc := 81) (tgt := 120) dX5_comeFrom_81 (by decide) (fun _ => ?_) (fun _ => ?_)
      · exact aw_wk (wk_same (wk_none (wk_same (wk_same (wk_same (wk_none wk_nil)))))) (xX5_comeFrom_J84 l2 l3 r5 σ6)
      exact aw_wk (wk_same (wk_none (wk_none (wk_none (wk_same (wk_none wk_nil)))))) (xX5_comeFrom_L120 FU r5 σ6)
    exact aw_wk (wk_same (wk_none (wk_same (wk_same (wk_same (wk_none wk_nil)))))) (xX5_comeFrom_J84 l2 l3 r5 σ6)
  refine aw_aload_n (pc := 18) dX5_comeFrom_18 rfl rfl ?_
  refine aw_get (pc := 19) (v := .inr (some 17)) foX5_66 (atM0 _) rfl dX5_comeFrom_19 ?_
  refine aw_iload (pc := 22) dX5_comeFrom_22 rfl ?_
  refine aw_ldc (pc := 24) lcX5_108 dX5_comeFrom_24 ?_
  refine aw_iastB (pc := 26) (atM17 _) (stM17 _ _ _) dX5_comeFrom_26 (fun σ14 => ?_)
  refine aw_aload_n (pc := 27) dX5_comeFrom_27 rfl rfl ?_
  refine aw_get (pc := 28) (v := .inr (some 18)) foX5_69 (atM0 _) rfl dX5_comeFrom_28 ?_
  refine aw_iload (pc := 31) dX5_comeFrom_31 rfl ?_
  refine aw_iconst (pc := 33) (v := 0) dX5_comeFrom_33 (by decide) ?_
  refine aw_iastB (pc := 34) (atM18 _) (stM18 _ _ _) dX5_comeFrom_34 (fun σ15 => ?_)
  refine aw_iincB (pc := 35) (v := 1) (Lf := fun v16 => [some (.inr (some 0)), none, some (.inl l2), some (.inl l3), some (.inl v16), none]) dX5_comeFrom_35 rfl (by decide) (by decide) (fun _ => rfl) (fun v16 => ?_)
  refine aw_goto (pc := 38) (tgt := 11) dX5_comeFrom_38 (by decide) ?_
  exact aw_wk (wk_same (wk_none (wk_same (wk_same (wk_same (wk_none wk_nil)))))) (hk11 l2 l3 v16 σ15)
noncomputable def fX5_comeFrom_L11 (n : Nat) (l2 : Int32) (l3 : Int32) (l4 : Int32) (σ : ST) : Option (Unit × ST) := loopN (α := Int32 × Int32 × Int32 × ST) (fun k a => fX5_comeFrom_B11 (fun l2 l3 l4 σ => k (l2, l3, l4, σ)) a.1 a.2.1 a.2.2.1 a.2.2.2) n (l2, l3, l4, σ)
theorem xX5_comeFrom_L11 (n : Nat) (l2 : Int32) (l3 : Int32) (l4 : Int32) (σ : ST) : AW wlM yX5_comeFrom cX5_comeFrom 6 none rmX5_comeFrom emV (fX5_comeFrom_L11 n l2 l3 l4 σ) 11 [some (.inr (some 0)), none, some (.inl l2), some (.inl l3), some (.inl l4), none] [] σ :=
  aw_loop (α := Int32 × Int32 × Int32 × ST) (Lf := fun a => [some (.inr (some 0)), none, some (.inl (a.1)), some (.inl (a.2.1)), some (.inl (a.2.2.1)), none]) (sf := fun a => a.2.2.2) (fun k hk a => by
    obtain ⟨l2, l3, l4, σ⟩ := a
    exact xX5_comeFrom_B11 (fun l2 l3 l4 σ => k (l2, l3, l4, σ)) (fun l2 l3 l4 σ => hk (l2, l3, l4, σ)) l2 l3 l4 σ) n (l2, l3, l4, σ)
noncomputable def fX5_comeFrom (a1 : Int32) (σ : ST) : Option (Unit × ST) :=
  bindv (a1 / 5) (fun v1 => bindv (a1 - a1 / 5 * 5) (fun v2 => fX5_comeFrom_L11 FU v1 v2 0 σ))
set_option maxRecDepth 10000 in
theorem xX5_comeFrom (a1 : Int32) (σ : ST) : MS wlM yX5_comeFrom cX5_comeFrom 6 none rmX5_comeFrom emV [.inr (some 0), .inl a1] σ (fX5_comeFrom a1 σ) := by
  refine MS.of (by decide +kernel) (Nat.le_of_ble_eq_true rfl) ?_
  show AW wlM yX5_comeFrom cX5_comeFrom 6 none rmX5_comeFrom emV (fX5_comeFrom a1 σ) 0 [some (.inr (some 0)), some (.inl a1), none, none, none, none] [] σ
  unfold fX5_comeFrom
  refine aw_iload_n (pc := 0) dX5_comeFrom_0 rfl rfl ?_
  refine aw_iconst (pc := 1) (v := 5) dX5_comeFrom_1 (by decide) ?_
  refine aw_idiv (pc := 2) dX5_comeFrom_2 (by decide) ?_
  refine aw_stnB (pc := 3) (Lf := fun v1 => [some (.inr (some 0)), some (.inl a1), some (.inl v1), none, none, none]) dX5_comeFrom_3 rfl (by decide) (fun _ => rfl) (fun v1 => ?_)
  refine aw_iload_n (pc := 4) dX5_comeFrom_4 rfl rfl ?_
  refine aw_iconst (pc := 5) (v := 5) dX5_comeFrom_5 (by decide) ?_
  refine aw_irem (pc := 6) dX5_comeFrom_6 (by decide) ?_
  refine aw_stnB (pc := 7) (Lf := fun v2 => [some (.inr (some 0)), some (.inl a1), some (.inl v1), some (.inl v2), none, none]) dX5_comeFrom_7 rfl (by decide) (fun _ => rfl) (fun v2 => ?_)
  refine aw_iconst (pc := 8) (v := 0) dX5_comeFrom_8 (by decide) ?_
  refine aw_st (pc := 9) (L' := [some (.inr (some 0)), some (.inl a1), some (.inl v1), some (.inl v2), some (.inl 0), none]) dX5_comeFrom_9 (by decide) rfl ?_
  exact aw_wk (wk_same (wk_none (wk_same (wk_same (wk_same (wk_none wk_nil)))))) (xX5_comeFrom_L11 FU v1 v2 0 σ)
abbrev rmX5_offer : Room := { frames := 0, cells := 0, slots := 0, locals := 0 }
noncomputable def fX5_offer_J30 (l1 : Int32) (l2 : Int32) (l3 : Int32) (σ : ST) : Option (Unit × ST) :=
  if ib l1 22500 = true then bindv (stI σ 15 l1.toNatClampNeg l2) (fun σ1 => if ib l1 22500 = true then bindv (stI σ1 16 l1.toNatClampNeg l3) (fun σ2 => some ((), σ2)) else none) else none
set_option maxRecDepth 10000 in
theorem xX5_offer_J30 (l1 : Int32) (l2 : Int32) (l3 : Int32) (σ : ST) : AW wlM yX5_offer cX5_offer 4 none rmX5_offer emV (fX5_offer_J30 l1 l2 l3 σ) 30 [some (.inr (some 0)), some (.inl l1), some (.inl l2), some (.inl l3)] [] σ := by
  unfold fX5_offer_J30
  refine aw_aload_n (pc := 30) dX5_offer_30 rfl rfl ?_
  refine aw_get (pc := 31) (v := .inr (some 15)) foX5_60 (atM0 _) rfl dX5_offer_31 ?_
  refine aw_iload_n (pc := 34) dX5_offer_34 rfl rfl ?_
  refine aw_iload_n (pc := 35) dX5_offer_35 rfl rfl ?_
  refine aw_iastB (pc := 36) (atM15 _) (stM15 _ _ _) dX5_offer_36 (fun σ1 => ?_)
  refine aw_aload_n (pc := 37) dX5_offer_37 rfl rfl ?_
  refine aw_get (pc := 38) (v := .inr (some 16)) foX5_63 (atM0 _) rfl dX5_offer_38 ?_
  refine aw_iload_n (pc := 41) dX5_offer_41 rfl rfl ?_
  refine aw_iload_n (pc := 42) dX5_offer_42 rfl rfl ?_
  refine aw_iastB (pc := 43) (atM16 _) (stM16 _ _ _) dX5_offer_43 (fun σ2 => ?_)
  exact aw_ret_v (pc := 44) rfl rfl dX5_offer_44
noncomputable def fX5_offer (a1 : Int32) (a2 : Int32) (a3 : Int32) (σ : ST) : Option (Unit × ST) :=
  if ib a1 22500 = true then if a2 < (σ.1 15 a1.toNatClampNeg) then (fX5_offer_J30 a1 a2 a3 σ) else (if ib a1 22500 = true then if a2 = (σ.1 15 a1.toNatClampNeg) then (if ib a1 22500 = true then if (σ.1 16 a1.toNatClampNeg) ≤ a3 then (some ((), σ)) else (fX5_offer_J30 a1 a2 a3 σ) else none) else (some ((), σ)) else none) else none
set_option maxRecDepth 10000 in
theorem xX5_offer (a1 : Int32) (a2 : Int32) (a3 : Int32) (σ : ST) : MS wlM yX5_offer cX5_offer 4 none rmX5_offer emV [.inr (some 0), .inl a1, .inl a2, .inl a3] σ (fX5_offer a1 a2 a3 σ) := by
  refine MS.of (by decide +kernel) (Nat.le_of_ble_eq_true rfl) ?_
  show AW wlM yX5_offer cX5_offer 4 none rmX5_offer emV (fX5_offer a1 a2 a3 σ) 0 [some (.inr (some 0)), some (.inl a1), some (.inl a2), some (.inl a3)] [] σ
  unfold fX5_offer
  refine aw_iload_n (pc := 0) dX5_offer_0 rfl rfl ?_
  refine aw_aload_n (pc := 1) dX5_offer_1 rfl rfl ?_
  refine aw_get (pc := 2) (v := .inr (some 15)) foX5_60 (atM0 _) rfl dX5_offer_2 ?_
  refine aw_iload_n (pc := 5) dX5_offer_5 rfl rfl ?_
  refine aw_iald' (pc := 6) (atM15 _) dX5_offer_6 ?_
  refine aw_icmp_lt (pc := 7) (tgt := 30) dX5_offer_7 (by decide) (fun _ => ?_) (fun _ => ?_)
  · exact aw_wk (wk_same (wk_same (wk_same (wk_same wk_nil)))) (xX5_offer_J30 a1 a2 a3 σ)
  refine aw_iload_n (pc := 10) dX5_offer_10 rfl rfl ?_
  refine aw_aload_n (pc := 11) dX5_offer_11 rfl rfl ?_
  refine aw_get (pc := 12) (v := .inr (some 15)) foX5_60 (atM0 _) rfl dX5_offer_12 ?_
  refine aw_iload_n (pc := 15) dX5_offer_15 rfl rfl ?_
  refine aw_iald' (pc := 16) (atM15 _) dX5_offer_16 ?_
  refine aw_icmp_ne (pc := 17) (tgt := 44) dX5_offer_17 (by decide) (fun _ => ?_) (fun _ => ?_)
  · refine aw_iload_n (pc := 20) dX5_offer_20 rfl rfl ?_
    refine aw_aload_n (pc := 21) dX5_offer_21 rfl rfl ?_
    refine aw_get (pc := 22) (v := .inr (some 16)) foX5_63 (atM0 _) rfl dX5_offer_22 ?_
    refine aw_iload_n (pc := 25) dX5_offer_25 rfl rfl ?_
    refine aw_iald' (pc := 26) (atM16 _) dX5_offer_26 ?_
    refine aw_icmp_ge (pc := 27) (tgt := 44) dX5_offer_27 (by decide) (fun _ => ?_) (fun _ => ?_)
    · exact aw_ret_v (pc := 44) rfl rfl dX5_offer_44
    exact aw_wk (wk_same (wk_same (wk_same (wk_same wk_nil)))) (xX5_offer_J30 a1 a2 a3 σ)
  exact aw_ret_v (pc := 44) rfl rfl dX5_offer_44
abbrev rmX5_reach : Room := { frames := 1, cells := 0, slots := 0, locals := 23 }
noncomputable def fX5_reach_J287 (k121 : Int32 → Int32 → Int32 → Int32 → ST → Option (Unit × ST)) (l3 : Int32) (l4 : Int32) (l5 : Int32) (l7 : Int32) (σ : ST) : Option (Unit × ST) :=
  bindv (l7 + 1) (fun v12 => k121 l3 l4 l5 v12 σ)
set_option maxRecDepth 10000 in
theorem xX5_reach_J287 (k121 : Int32 → Int32 → Int32 → Int32 → ST → Option (Unit × ST)) (hk121 : ∀ (l3 : Int32) (l4 : Int32) (l5 : Int32) (l7 : Int32) (σ : ST), AW wlM yX5_reach cX5_reach 8 none rmX5_reach emV (k121 l3 l4 l5 l7 σ) 121 [some (.inr (some 0)), none, none, some (.inl l3), some (.inl l4), some (.inl l5), none, some (.inl l7)] [] σ) (l3 : Int32) (l4 : Int32) (l5 : Int32) (l7 : Int32) (σ : ST) : AW wlM yX5_reach cX5_reach 8 none rmX5_reach emV (fX5_reach_J287 k121 l3 l4 l5 l7 σ) 287 [some (.inr (some 0)), none, none, some (.inl l3), some (.inl l4), some (.inl l5), none, some (.inl l7)] [] σ := by
  unfold fX5_reach_J287
  refine aw_iincB (pc := 287) (v := 1) (Lf := fun v12 => [some (.inr (some 0)), none, none, some (.inl l3), some (.inl l4), some (.inl l5), none, some (.inl v12)]) dX5_reach_287 rfl (by decide) (by decide) (fun _ => rfl) (fun v12 => ?_)
  refine aw_goto (pc := 290) (tgt := 121) dX5_reach_290 (by decide) ?_
  exact aw_wk (wk_same (wk_none (wk_none (wk_same (wk_same (wk_same (wk_none (wk_same wk_nil)))))))) (hk121 l3 l4 l5 v12 σ)
noncomputable def fX5_reach_J217 (k121 : Int32 → Int32 → Int32 → Int32 → ST → Option (Unit × ST)) (l3 : Int32) (l4 : Int32) (l5 : Int32) (l7 : Int32) (σ : ST) : Option (Unit × ST) :=
  if ib l4 30 = true then cb (fX5_knotOf l7 σ) (fun r19 σ20 => if (σ.1 4 l4.toNatClampNeg) = r19 then (if ib l4 30 = true then if (σ20.1 6 l4.toNatClampNeg) = 1 then (fX5_reach_J287 k121 l3 l4 l5 l7 σ20) else (if ib l7 60 = true then if ib l4 30 = true then if ib l7 60 = true then cb (fX5_feeOf l4 (4 - l5) σ20) (fun r21 σ22 => cb (fX5_offer l3 ((σ20.1 17 l7.toNatClampNeg) + ((4 - l5) * (σ20.1 5 l4.toNatClampNeg))) ((σ20.1 18 l7.toNatClampNeg) + r21) σ22) (fun r23 σ24 => fX5_reach_J287 k121 l3 l4 l5 l7 σ24)) else none else none else none) else none) else (fX5_reach_J287 k121 l3 l4 l5 l7 σ20)) else none
set_option maxRecDepth 10000 in
theorem xX5_reach_J217 (k121 : Int32 → Int32 → Int32 → Int32 → ST → Option (Unit × ST)) (hk121 : ∀ (l3 : Int32) (l4 : Int32) (l5 : Int32) (l7 : Int32) (σ : ST), AW wlM yX5_reach cX5_reach 8 none rmX5_reach emV (k121 l3 l4 l5 l7 σ) 121 [some (.inr (some 0)), none, none, some (.inl l3), some (.inl l4), some (.inl l5), none, some (.inl l7)] [] σ) (l3 : Int32) (l4 : Int32) (l5 : Int32) (l7 : Int32) (σ : ST) : AW wlM yX5_reach cX5_reach 8 none rmX5_reach emV (fX5_reach_J217 k121 l3 l4 l5 l7 σ) 217 [some (.inr (some 0)), none, none, some (.inl l3), some (.inl l4), some (.inl l5), none, some (.inl l7)] [] σ := by
  unfold fX5_reach_J217
  refine aw_aload_n (pc := 217) dX5_reach_217 rfl rfl ?_
  refine aw_get (pc := 218) (v := .inr (some 4)) foX5_19 (atM0 _) rfl dX5_reach_218 ?_
  refine aw_iload (pc := 221) dX5_reach_221 rfl ?_
  refine aw_iald' (pc := 223) (atM4 _) dX5_reach_223 ?_
  refine aw_aload_n (pc := 224) dX5_reach_224 rfl rfl ?_
  refine aw_iload (pc := 225) dX5_reach_225 rfl ?_
  refine aw_cVI (pc := 227) (st := [.inl (σ.1 4 l4.toNatClampNeg)]) (xX5_knotOf l7 σ) (atM0 _) rfl ckX5_119 ⟨rfl, rfl, by decide, by decide⟩ (Nat.le_of_ble_eq_true rfl) dX5_reach_227 rfl (fun r19 σ20 => ?_)
  refine aw_icmp_ne (pc := 230) (tgt := 287) dX5_reach_230 (by decide) (fun _ => ?_) (fun _ => ?_)
  · refine aw_aload_n (pc := 233) dX5_reach_233 rfl rfl ?_
    refine aw_get (pc := 234) (v := .inr (some 6)) foX5_25 (atM0 _) rfl dX5_reach_234 ?_
    refine aw_iload (pc := 237) dX5_reach_237 rfl ?_
    refine aw_iald' (pc := 239) (atM6 _) dX5_reach_239 ?_
    refine aw_iconst (pc := 240) (v := 1) dX5_reach_240 (by decide) ?_
    refine aw_icmp_eq (pc := 241) (tgt := 287) dX5_reach_241 (by decide) (fun _ => ?_) (fun _ => ?_)
    · exact aw_wk (wk_same (wk_none (wk_none (wk_same (wk_same (wk_same (wk_none (wk_same wk_nil)))))))) (xX5_reach_J287 k121 hk121 l3 l4 l5 l7 σ20)
    refine aw_aload_n (pc := 244) dX5_reach_244 rfl rfl ?_
    refine aw_iload_n (pc := 245) dX5_reach_245 rfl rfl ?_
    refine aw_aload_n (pc := 246) dX5_reach_246 rfl rfl ?_
    refine aw_get (pc := 247) (v := .inr (some 17)) foX5_66 (atM0 _) rfl dX5_reach_247 ?_
    refine aw_iload (pc := 250) dX5_reach_250 rfl ?_
    refine aw_iald' (pc := 252) (atM17 _) dX5_reach_252 ?_
    refine aw_iconst (pc := 253) (v := 4) dX5_reach_253 (by decide) ?_
    refine aw_iload (pc := 254) dX5_reach_254 rfl ?_
    refine aw_isub (pc := 256) dX5_reach_256 ?_
    refine aw_aload_n (pc := 257) dX5_reach_257 rfl rfl ?_
    refine aw_get (pc := 258) (v := .inr (some 5)) foX5_22 (atM0 _) rfl dX5_reach_258 ?_
    refine aw_iload (pc := 261) dX5_reach_261 rfl ?_
    refine aw_iald' (pc := 263) (atM5 _) dX5_reach_263 ?_
    refine aw_imul (pc := 264) dX5_reach_264 ?_
    refine aw_iadd (pc := 265) dX5_reach_265 ?_
    refine aw_aload_n (pc := 266) dX5_reach_266 rfl rfl ?_
    refine aw_get (pc := 267) (v := .inr (some 18)) foX5_69 (atM0 _) rfl dX5_reach_267 ?_
    refine aw_iload (pc := 270) dX5_reach_270 rfl ?_
    refine aw_iald' (pc := 272) (atM18 _) dX5_reach_272 ?_
    refine aw_aload_n (pc := 273) dX5_reach_273 rfl rfl ?_
    refine aw_iload (pc := 274) dX5_reach_274 rfl ?_
    refine aw_iconst (pc := 276) (v := 4) dX5_reach_276 (by decide) ?_
    refine aw_iload (pc := 277) dX5_reach_277 rfl ?_
    refine aw_isub (pc := 279) dX5_reach_279 ?_
    refine aw_cVI (pc := 280) (st := [.inl (σ20.1 18 l7.toNatClampNeg), .inl ((σ20.1 17 l7.toNatClampNeg) + ((4 - l5) * (σ20.1 5 l4.toNatClampNeg))), .inl l3, .inr (some 0)]) (xX5_feeOf l4 (4 - l5) σ20) (atM0 _) rfl ckX5_109 ⟨rfl, rfl, by decide, by decide⟩ (Nat.le_of_ble_eq_true rfl) dX5_reach_280 rfl (fun r21 σ22 => ?_)
    refine aw_iadd (pc := 283) dX5_reach_283 ?_
    refine aw_cVV (pc := 284) (st := []) (xX5_offer l3 ((σ20.1 17 l7.toNatClampNeg) + ((4 - l5) * (σ20.1 5 l4.toNatClampNeg))) ((σ20.1 18 l7.toNatClampNeg) + r21) σ22) (atM0 _) rfl ckX5_123 ⟨rfl, rfl, by decide, by decide⟩ (Nat.le_of_ble_eq_true rfl) dX5_reach_284 rfl (fun r23 σ24 => ?_)
    exact aw_wk (wk_same (wk_none (wk_none (wk_same (wk_same (wk_same (wk_none (wk_same wk_nil)))))))) (xX5_reach_J287 k121 hk121 l3 l4 l5 l7 σ24)
  exact aw_wk (wk_same (wk_none (wk_none (wk_same (wk_same (wk_same (wk_none (wk_same wk_nil)))))))) (xX5_reach_J287 k121 hk121 l3 l4 l5 l7 σ20)
noncomputable def fX5_reach_B121 (k121 : Int32 → Int32 → Int32 → Int32 → ST → Option (Unit × ST)) (l3 : Int32) (l4 : Int32) (l5 : Int32) (l7 : Int32) (σ : ST) : Option (Unit × ST) :=
  if (2 * (σ.1 0 8)) ≤ l7 then (some ((), σ)) else (if ib l7 60 = true then if 1000000000 ≤ (σ.1 17 l7.toNatClampNeg) then (fX5_reach_J287 k121 l3 l4 l5 l7 σ) else (if ib ((30 * (l7 / 2)) + l4) 900 = true then if (σ.1 8 ((30 * (l7 / 2)) + l4).toNatClampNeg) = 0 then (if ib l4 30 = true then cb (fX5_knotOf l7 σ) (fun r13 σ14 => if (σ.1 3 l4.toNatClampNeg) = r13 then (if ib l7 60 = true then if ib l4 30 = true then if ib l7 60 = true then cb (fX5_feeOf l4 l5 σ14) (fun r15 σ16 => cb (fX5_offer l3 ((σ14.1 17 l7.toNatClampNeg) + (l5 * (σ14.1 5 l4.toNatClampNeg))) ((σ14.1 18 l7.toNatClampNeg) + r15) σ16) (fun r17 σ18 => fX5_reach_J217 k121 l3 l4 l5 l7 σ18)) else none else none else none) else (fX5_reach_J217 k121 l3 l4 l5 l7 σ14)) else none) else (fX5_reach_J287 k121 l3 l4 l5 l7 σ) else none) else none)
set_option maxRecDepth 10000 in
theorem xX5_reach_B121 (k121 : Int32 → Int32 → Int32 → Int32 → ST → Option (Unit × ST)) (hk121 : ∀ (l3 : Int32) (l4 : Int32) (l5 : Int32) (l7 : Int32) (σ : ST), AW wlM yX5_reach cX5_reach 8 none rmX5_reach emV (k121 l3 l4 l5 l7 σ) 121 [some (.inr (some 0)), none, none, some (.inl l3), some (.inl l4), some (.inl l5), none, some (.inl l7)] [] σ) (l3 : Int32) (l4 : Int32) (l5 : Int32) (l7 : Int32) (σ : ST) : AW wlM yX5_reach cX5_reach 8 none rmX5_reach emV (fX5_reach_B121 k121 l3 l4 l5 l7 σ) 121 [some (.inr (some 0)), none, none, some (.inl l3), some (.inl l4), some (.inl l5), none, some (.inl l7)] [] σ := by
  unfold fX5_reach_B121
  refine aw_iload (pc := 121) dX5_reach_121 rfl ?_
  refine aw_iconst (pc := 123) (v := 2) dX5_reach_123 (by decide) ?_
  refine aw_aload_n (pc := 124) dX5_reach_124 rfl rfl ?_
  refine aw_get (pc := 125) (v := .inl (σ.1 0 8)) foX5_94 (atM0 _) rfl dX5_reach_125 ?_
  refine aw_imul (pc := 128) dX5_reach_128 ?_
  refine aw_icmp_ge (pc := 129) (tgt := 293) dX5_reach_129 (by decide) (fun _ => ?_) (fun _ => ?_)
  · exact aw_ret_v (pc := 293) rfl rfl dX5_reach_293
  refine aw_aload_n (pc := 132) dX5_reach_132 rfl rfl ?_
  refine aw_get (pc := 133) (v := .inr (some 17)) foX5_66 (atM0 _) rfl dX5_reach_133 ?_
  refine aw_iload (pc := 136) dX5_reach_136 rfl ?_
  refine aw_iald' (pc := 138) (atM17 _) dX5_reach_138 ?_
  refine aw_ldc (pc := 139) lcX5_108 dX5_reach_139 ?_
  refine aw_icmp_ge (pc := 141) (tgt := 287) dX5_reach_141 (by decide) (fun _ => ?_) (fun _ => ?_)
  · exact aw_wk (wk_same (wk_none (wk_none (wk_same (wk_same (wk_same (wk_none (wk_same wk_nil)))))))) (xX5_reach_J287 k121 hk121 l3 l4 l5 l7 σ)
  refine aw_aload_n (pc := 144) dX5_reach_144 rfl rfl ?_
  refine aw_get (pc := 145) (v := .inr (some 8)) foX5_31 (atM0 _) rfl dX5_reach_145 ?_
  refine aw_bipush (pc := 148) (v := 30) dX5_reach_148 (by decide) ?_
  refine aw_iload (pc := 150) dX5_reach_150 rfl ?_
  refine aw_iconst (pc := 152) (v := 2) dX5_reach_152 (by decide) ?_
  refine aw_idiv (pc := 153) dX5_reach_153 (by decide) ?_
  refine aw_imul (pc := 154) dX5_reach_154 ?_
  refine aw_iload (pc := 155) dX5_reach_155 rfl ?_
  refine aw_iadd (pc := 157) dX5_reach_157 ?_
  refine aw_bald' (pc := 158) (atM8 _) dX5_reach_158 ?_
  refine aw_if_ne (pc := 159) (tgt := 287) dX5_reach_159 (by decide) (fun _ => ?_) (fun _ => ?_)
  · refine aw_aload_n (pc := 162) dX5_reach_162 rfl rfl ?_
    refine aw_get (pc := 163) (v := .inr (some 3)) foX5_16 (atM0 _) rfl dX5_reach_163 ?_
    refine aw_iload (pc := 166) dX5_reach_166 rfl ?_
    refine aw_iald' (pc := 168) (atM3 _) dX5_reach_168 ?_
    refine aw_aload_n (pc := 169) dX5_reach_169 rfl rfl ?_
    refine aw_iload (pc := 170) dX5_reach_170 rfl ?_
    refine aw_cVI (pc := 172) (st := [.inl (σ.1 3 l4.toNatClampNeg)]) (xX5_knotOf l7 σ) (atM0 _) rfl ckX5_119 ⟨rfl, rfl, by decide, by decide⟩ (Nat.le_of_ble_eq_true rfl) dX5_reach_172 rfl (fun r13 σ14 => ?_)
    refine aw_icmp_ne (pc := 175) (tgt := 217) dX5_reach_175 (by decide) (fun _ => ?_) (fun _ => ?_)
    · refine aw_aload_n (pc := 178) dX5_reach_178 rfl rfl ?_
      refine aw_iload_n (pc := 179) dX5_reach_179 rfl rfl ?_
      refine aw_aload_n (pc := 180) dX5_reach_180 rfl rfl ?_
      refine aw_get (pc := 181) (v := .inr (some 17)) foX5_66 (atM0 _) rfl dX5_reach_181 ?_
      refine aw_iload (pc := 184) dX5_reach_184 rfl ?_
      refine aw_iald' (pc := 186) (atM17 _) dX5_reach_186 ?_
      refine aw_iload (pc := 187) dX5_reach_187 rfl ?_
      refine aw_aload_n (pc := 189) dX5_reach_189 rfl rfl ?_
      refine aw_get (pc := 190) (v := .inr (some 5)) foX5_22 (atM0 _) rfl dX5_reach_190 ?_
      refine aw_iload (pc := 193) dX5_reach_193 rfl ?_
      refine aw_iald' (pc := 195) (atM5 _) dX5_reach_195 ?_
      refine aw_imul (pc := 196) dX5_reach_196 ?_
      refine aw_iadd (pc := 197) dX5_reach_197 ?_
      refine aw_aload_n (pc := 198) dX5_reach_198 rfl rfl ?_
      refine aw_get (pc := 199) (v := .inr (some 18)) foX5_69 (atM0 _) rfl dX5_reach_199 ?_
      refine aw_iload (pc := 202) dX5_reach_202 rfl ?_
      refine aw_iald' (pc := 204) (atM18 _) dX5_reach_204 ?_
      refine aw_aload_n (pc := 205) dX5_reach_205 rfl rfl ?_
      refine aw_iload (pc := 206) dX5_reach_206 rfl ?_
      refine aw_iload (pc := 208) dX5_reach_208 rfl ?_
      refine aw_cVI (pc := 210) (st := [.inl (σ14.1 18 l7.toNatClampNeg), .inl ((σ14.1 17 l7.toNatClampNeg) + (l5 * (σ14.1 5 l4.toNatClampNeg))), .inl l3, .inr (some 0)]) (xX5_feeOf l4 l5 σ14) (atM0 _) rfl ckX5_109 ⟨rfl, rfl, by decide, by decide⟩ (Nat.le_of_ble_eq_true rfl) dX5_reach_210 rfl (fun r15 σ16 => ?_)
      refine aw_iadd (pc := 213) dX5_reach_213 ?_
      refine aw_cVV (pc := 214) (st := []) (xX5_offer l3 ((σ14.1 17 l7.toNatClampNeg) + (l5 * (σ14.1 5 l4.toNatClampNeg))) ((σ14.1 18 l7.toNatClampNeg) + r15) σ16) (atM0 _) rfl ckX5_123 ⟨rfl, rfl, by decide, by decide⟩ (Nat.le_of_ble_eq_true rfl) dX5_reach_214 rfl (fun r17 σ18 => ?_)
      exact aw_wk (wk_same (wk_none (wk_none (wk_same (wk_same (wk_same (wk_none (wk_same wk_nil)))))))) (xX5_reach_J217 k121 hk121 l3 l4 l5 l7 σ18)
    exact aw_wk (wk_same (wk_none (wk_none (wk_same (wk_same (wk_same (wk_none (wk_same wk_nil)))))))) (xX5_reach_J217 k121 hk121 l3 l4 l5 l7 σ14)
  exact aw_wk (wk_same (wk_none (wk_none (wk_same (wk_same (wk_same (wk_none (wk_same wk_nil)))))))) (xX5_reach_J287 k121 hk121 l3 l4 l5 l7 σ)
noncomputable def fX5_reach_L121 (n : Nat) (l3 : Int32) (l4 : Int32) (l5 : Int32) (l7 : Int32) (σ : ST) : Option (Unit × ST) := loopN (α := Int32 × Int32 × Int32 × Int32 × ST) (fun k a => fX5_reach_B121 (fun l3 l4 l5 l7 σ => k (l3, l4, l5, l7, σ)) a.1 a.2.1 a.2.2.1 a.2.2.2.1 a.2.2.2.2) n (l3, l4, l5, l7, σ)
theorem xX5_reach_L121 (n : Nat) (l3 : Int32) (l4 : Int32) (l5 : Int32) (l7 : Int32) (σ : ST) : AW wlM yX5_reach cX5_reach 8 none rmX5_reach emV (fX5_reach_L121 n l3 l4 l5 l7 σ) 121 [some (.inr (some 0)), none, none, some (.inl l3), some (.inl l4), some (.inl l5), none, some (.inl l7)] [] σ :=
  aw_loop (α := Int32 × Int32 × Int32 × Int32 × ST) (Lf := fun a => [some (.inr (some 0)), none, none, some (.inl (a.1)), some (.inl (a.2.1)), some (.inl (a.2.2.1)), none, some (.inl (a.2.2.2.1))]) (sf := fun a => a.2.2.2.2) (fun k hk a => by
    obtain ⟨l3, l4, l5, l7, σ⟩ := a
    exact xX5_reach_B121 (fun l3 l4 l5 l7 σ => k (l3, l4, l5, l7, σ)) (fun l3 l4 l5 l7 σ => hk (l3, l4, l5, l7, σ)) l3 l4 l5 l7 σ) n (l3, l4, l5, l7, σ)
noncomputable def fX5_reach_J118 (l3 : Int32) (l4 : Int32) (l5 : Int32) (σ : ST) : Option (Unit × ST) :=
  fX5_reach_L121 FU l3 l4 l5 0 σ
set_option maxRecDepth 10000 in
theorem xX5_reach_J118 (l3 : Int32) (l4 : Int32) (l5 : Int32) (σ : ST) : AW wlM yX5_reach cX5_reach 8 none rmX5_reach emV (fX5_reach_J118 l3 l4 l5 σ) 118 [some (.inr (some 0)), none, none, some (.inl l3), some (.inl l4), some (.inl l5), none, none] [] σ := by
  unfold fX5_reach_J118
  refine aw_iconst (pc := 118) (v := 0) dX5_reach_118 (by decide) ?_
  refine aw_st (pc := 119) (L' := [some (.inr (some 0)), none, none, some (.inl l3), some (.inl l4), some (.inl l5), none, some (.inl 0)]) dX5_reach_119 (by decide) rfl ?_
  exact aw_wk (wk_same (wk_none (wk_none (wk_same (wk_same (wk_same (wk_none (wk_same wk_nil)))))))) (xX5_reach_L121 FU l3 l4 l5 0 σ)
noncomputable def fX5_reach_J93 (l3 : Int32) (l4 : Int32) (l5 : Int32) (s0 : Int32) (σ : ST) : Option (Unit × ST) :=
  if ib l4 30 = true then bindv (s0 * (σ.1 5 l4.toNatClampNeg)) (fun v7 => cb (fX5_feeOf l4 v7 σ) (fun r8 σ9 => cb (fX5_offer l3 v7 r8 σ9) (fun r10 σ11 => fX5_reach_J118 l3 l4 l5 σ11))) else none
set_option maxRecDepth 10000 in
theorem xX5_reach_J93 (l3 : Int32) (l4 : Int32) (l5 : Int32) (s0 : Int32) (σ : ST) : AW wlM yX5_reach cX5_reach 8 none rmX5_reach emV (fX5_reach_J93 l3 l4 l5 s0 σ) 93 [some (.inr (some 0)), none, none, some (.inl l3), some (.inl l4), some (.inl l5), none, none] [.inl s0] σ := by
  unfold fX5_reach_J93
  refine aw_aload_n (pc := 93) dX5_reach_93 rfl rfl ?_
  refine aw_get (pc := 94) (v := .inr (some 5)) foX5_22 (atM0 _) rfl dX5_reach_94 ?_
  refine aw_iload (pc := 97) dX5_reach_97 rfl ?_
  refine aw_iald' (pc := 99) (atM5 _) dX5_reach_99 ?_
  refine aw_imul (pc := 100) dX5_reach_100 ?_
  refine aw_stB (pc := 101) (Lf := fun v7 => [some (.inr (some 0)), none, none, some (.inl l3), some (.inl l4), some (.inl l5), none, some (.inl v7)]) dX5_reach_101 (by decide) (fun _ => rfl) (fun v7 => ?_)
  refine aw_aload_n (pc := 103) dX5_reach_103 rfl rfl ?_
  refine aw_iload_n (pc := 104) dX5_reach_104 rfl rfl ?_
  refine aw_iload (pc := 105) dX5_reach_105 rfl ?_
  refine aw_aload_n (pc := 107) dX5_reach_107 rfl rfl ?_
  refine aw_iload (pc := 108) dX5_reach_108 rfl ?_
  refine aw_iload (pc := 110) dX5_reach_110 rfl ?_
  refine aw_cVI (pc := 112) (st := [.inl v7, .inl l3, .inr (some 0)]) (xX5_feeOf l4 v7 σ) (atM0 _) rfl ckX5_109 ⟨rfl, rfl, by decide, by decide⟩ (Nat.le_of_ble_eq_true rfl) dX5_reach_112 rfl (fun r8 σ9 => ?_)
  refine aw_cVV (pc := 115) (st := []) (xX5_offer l3 v7 r8 σ9) (atM0 _) rfl ckX5_123 ⟨rfl, rfl, by decide, by decide⟩ (Nat.le_of_ble_eq_true rfl) dX5_reach_115 rfl (fun r10 σ11 => ?_)
  exact aw_wk (wk_same (wk_none (wk_none (wk_same (wk_same (wk_same (wk_none (wk_none wk_nil)))))))) (xX5_reach_J118 l3 l4 l5 σ11)
noncomputable def fX5_reach_J80 (l3 : Int32) (l4 : Int32) (l5 : Int32) (l6 : Int32) (σ : ST) : Option (Unit × ST) :=
  if 0 ≤ l6 then (fX5_reach_J93 l3 l4 l5 l6 σ) else (fX5_reach_J93 l3 l4 l5 (-l6) σ)
set_option maxRecDepth 10000 in
theorem xX5_reach_J80 (l3 : Int32) (l4 : Int32) (l5 : Int32) (l6 : Int32) (σ : ST) : AW wlM yX5_reach cX5_reach 8 none rmX5_reach emV (fX5_reach_J80 l3 l4 l5 l6 σ) 80 [some (.inr (some 0)), none, none, some (.inl l3), some (.inl l4), some (.inl l5), some (.inl l6), none] [] σ := by
  unfold fX5_reach_J80
  refine aw_iload (pc := 80) dX5_reach_80 rfl ?_
  refine aw_if_ge (pc := 82) (tgt := 91) dX5_reach_82 (by decide) (fun _ => ?_) (fun _ => ?_)
  · refine aw_iload (pc := 91) dX5_reach_91 rfl ?_
    exact aw_wk (wk_same (wk_none (wk_none (wk_same (wk_same (wk_same (wk_none (wk_none wk_nil)))))))) (xX5_reach_J93 l3 l4 l5 l6 σ)
  refine aw_iload (pc := 85) dX5_reach_85 rfl ?_
  refine aw_ineg (pc := 87) dX5_reach_87 ?_
  refine aw_goto (pc := 88) (tgt := 93) dX5_reach_88 (by decide) ?_
  exact aw_wk (wk_same (wk_none (wk_none (wk_same (wk_same (wk_same (wk_none (wk_none wk_nil)))))))) (xX5_reach_J93 l3 l4 l5 (-l6) σ)
noncomputable def fX5_reach_J34 (l1 : Int32) (l2 : Int32) (l3 : Int32) (l4 : Int32) (l5 : Int32) (s0 : Int32) (s1 : Int32) (σ : ST) : Option (Unit × ST) :=
  if ib s1 22500 = true then bindv (stI σ 15 s1.toNatClampNeg s0) (fun σ4 => if ib l3 22500 = true then bindv (stI σ4 16 l3.toNatClampNeg 0) (fun σ5 => if l1 = l2 then (some ((), σ5)) else (bindv (l5 - (l1 - l1 / 5 * 5)) (fun v6 => if (l1 / 5) = l4 then (if 0 < v6 then (fX5_reach_J80 l3 l4 l5 v6 σ5) else (if ib l4 30 = true then if (σ5.1 6 l4.toNatClampNeg) = 1 then (fX5_reach_J118 l3 l4 l5 σ5) else (fX5_reach_J80 l3 l4 l5 v6 σ5) else none)) else (fX5_reach_J118 l3 l4 l5 σ5)))) else none) else none
set_option maxRecDepth 10000 in
theorem xX5_reach_J34 (l1 : Int32) (l2 : Int32) (l3 : Int32) (l4 : Int32) (l5 : Int32) (s0 : Int32) (s1 : Int32) (σ : ST) : AW wlM yX5_reach cX5_reach 8 none rmX5_reach emV (fX5_reach_J34 l1 l2 l3 l4 l5 s0 s1 σ) 34 [some (.inr (some 0)), some (.inl l1), some (.inl l2), some (.inl l3), some (.inl l4), some (.inl l5), none, none] [.inl s0, .inl s1, .inr (some 15)] σ := by
  unfold fX5_reach_J34
  refine aw_iastB (pc := 34) (atM15 _) (stM15 _ _ _) dX5_reach_34 (fun σ4 => ?_)
  refine aw_aload_n (pc := 35) dX5_reach_35 rfl rfl ?_
  refine aw_get (pc := 36) (v := .inr (some 16)) foX5_63 (atM0 _) rfl dX5_reach_36 ?_
  refine aw_iload_n (pc := 39) dX5_reach_39 rfl rfl ?_
  refine aw_iconst (pc := 40) (v := 0) dX5_reach_40 (by decide) ?_
  refine aw_iastB (pc := 41) (atM16 _) (stM16 _ _ _) dX5_reach_41 (fun σ5 => ?_)
  refine aw_iload_n (pc := 42) dX5_reach_42 rfl rfl ?_
  refine aw_iload_n (pc := 43) dX5_reach_43 rfl rfl ?_
  refine aw_icmp_ne (pc := 44) (tgt := 48) dX5_reach_44 (by decide) (fun _ => ?_) (fun _ => ?_)
  · exact aw_ret_v (pc := 47) rfl rfl dX5_reach_47
  refine aw_iload (pc := 48) dX5_reach_48 rfl ?_
  refine aw_iload_n (pc := 50) dX5_reach_50 rfl rfl ?_
  refine aw_iconst (pc := 51) (v := 5) dX5_reach_51 (by decide) ?_
  refine aw_irem (pc := 52) dX5_reach_52 (by decide) ?_
  refine aw_isub (pc := 53) dX5_reach_53 ?_
  refine aw_stB (pc := 54) (Lf := fun v6 => [some (.inr (some 0)), some (.inl l1), some (.inl l2), some (.inl l3), some (.inl l4), some (.inl l5), some (.inl v6), none]) dX5_reach_54 (by decide) (fun _ => rfl) (fun v6 => ?_)
  refine aw_iload_n (pc := 56) dX5_reach_56 rfl rfl ?_
  refine aw_iconst (pc := 57) (v := 5) dX5_reach_57 (by decide) ?_
  refine aw_idiv (pc := 58) dX5_reach_58 (by decide) ?_
  refine aw_iload (pc := 59) dX5_reach_59 rfl ?_
  refine aw_icmp_ne (pc := 61) (tgt := 118) dX5_reach_61 (by decide) (fun _ => ?_) (fun _ => ?_)
  · refine aw_iload (pc := 64) dX5_reach_64 rfl ?_
    refine aw_if_gt (pc := 66) (tgt := 80) dX5_reach_66 (by decide) (fun _ => ?_) (fun _ => ?_)
    · exact aw_wk (wk_same (wk_none (wk_none (wk_same (wk_same (wk_same (wk_same (wk_none wk_nil)))))))) (xX5_reach_J80 l3 l4 l5 v6 σ5)
    refine aw_aload_n (pc := 69) dX5_reach_69 rfl rfl ?_
    refine aw_get (pc := 70) (v := .inr (some 6)) foX5_25 (atM0 _) rfl dX5_reach_70 ?_
    refine aw_iload (pc := 73) dX5_reach_73 rfl ?_
    refine aw_iald' (pc := 75) (atM6 _) dX5_reach_75 ?_
    refine aw_iconst (pc := 76) (v := 1) dX5_reach_76 (by decide) ?_
    refine aw_icmp_eq (pc := 77) (tgt := 118) dX5_reach_77 (by decide) (fun _ => ?_) (fun _ => ?_)
    · exact aw_wk (wk_same (wk_none (wk_none (wk_same (wk_same (wk_same (wk_none (wk_none wk_nil)))))))) (xX5_reach_J118 l3 l4 l5 σ5)
    exact aw_wk (wk_same (wk_none (wk_none (wk_same (wk_same (wk_same (wk_same (wk_none wk_nil)))))))) (xX5_reach_J80 l3 l4 l5 v6 σ5)
  exact aw_wk (wk_same (wk_none (wk_none (wk_same (wk_same (wk_same (wk_none (wk_none wk_nil)))))))) (xX5_reach_J118 l3 l4 l5 σ5)
noncomputable def fX5_reach (a1 : Int32) (a2 : Int32) (σ : ST) : Option (Unit × ST) :=
  bindv ((150 * a1) + a2) (fun v1 => bindv (a2 / 5) (fun v2 => bindv (a2 - a2 / 5 * 5) (fun v3 => if a1 = a2 then (fX5_reach_J34 a1 a2 v1 v2 v3 0 v1 σ) else (fX5_reach_J34 a1 a2 v1 v2 v3 1000000000 v1 σ))))
set_option maxRecDepth 10000 in
theorem xX5_reach (a1 : Int32) (a2 : Int32) (σ : ST) : MS wlM yX5_reach cX5_reach 8 none rmX5_reach emV [.inr (some 0), .inl a1, .inl a2] σ (fX5_reach a1 a2 σ) := by
  refine MS.of (by decide +kernel) (Nat.le_of_ble_eq_true rfl) ?_
  show AW wlM yX5_reach cX5_reach 8 none rmX5_reach emV (fX5_reach a1 a2 σ) 0 [some (.inr (some 0)), some (.inl a1), some (.inl a2), none, none, none, none, none] [] σ
  unfold fX5_reach
  refine aw_sipush (pc := 0) (v := 150) dX5_reach_0 (by decide) ?_
  refine aw_iload_n (pc := 3) dX5_reach_3 rfl rfl ?_
  refine aw_imul (pc := 4) dX5_reach_4 ?_
  refine aw_iload_n (pc := 5) dX5_reach_5 rfl rfl ?_
  refine aw_iadd (pc := 6) dX5_reach_6 ?_
  refine aw_stnB (pc := 7) (Lf := fun v1 => [some (.inr (some 0)), some (.inl a1), some (.inl a2), some (.inl v1), none, none, none, none]) dX5_reach_7 rfl (by decide) (fun _ => rfl) (fun v1 => ?_)
  refine aw_iload_n (pc := 8) dX5_reach_8 rfl rfl ?_
  refine aw_iconst (pc := 9) (v := 5) dX5_reach_9 (by decide) ?_
  refine aw_idiv (pc := 10) dX5_reach_10 (by decide) ?_
  refine aw_stB (pc := 11) (Lf := fun v2 => [some (.inr (some 0)), some (.inl a1), some (.inl a2), some (.inl v1), some (.inl v2), none, none, none]) dX5_reach_11 (by decide) (fun _ => rfl) (fun v2 => ?_)
  refine aw_iload_n (pc := 13) dX5_reach_13 rfl rfl ?_
  refine aw_iconst (pc := 14) (v := 5) dX5_reach_14 (by decide) ?_
  refine aw_irem (pc := 15) dX5_reach_15 (by decide) ?_
  refine aw_stB (pc := 16) (Lf := fun v3 => [some (.inr (some 0)), some (.inl a1), some (.inl a2), some (.inl v1), some (.inl v2), some (.inl v3), none, none]) dX5_reach_16 (by decide) (fun _ => rfl) (fun v3 => ?_)
  refine aw_aload_n (pc := 18) dX5_reach_18 rfl rfl ?_
  refine aw_get (pc := 19) (v := .inr (some 15)) foX5_60 (atM0 _) rfl dX5_reach_19 ?_
  refine aw_iload_n (pc := 22) dX5_reach_22 rfl rfl ?_
  refine aw_iload_n (pc := 23) dX5_reach_23 rfl rfl ?_
  refine aw_iload_n (pc := 24) dX5_reach_24 rfl rfl ?_
  refine aw_icmp_ne (pc := 25) (tgt := 32) dX5_reach_25 (by decide) (fun _ => ?_) (fun _ => ?_)
  · refine aw_iconst (pc := 28) (v := 0) dX5_reach_28 (by decide) ?_
    refine aw_goto (pc := 29) (tgt := 34) dX5_reach_29 (by decide) ?_
    exact aw_wk (wk_same (wk_same (wk_same (wk_same (wk_same (wk_same (wk_none (wk_none wk_nil)))))))) (xX5_reach_J34 a1 a2 v1 v2 v3 0 v1 σ)
  refine aw_ldc (pc := 32) lcX5_108 dX5_reach_32 ?_
  exact aw_wk (wk_same (wk_same (wk_same (wk_same (wk_same (wk_same (wk_none (wk_none wk_nil)))))))) (xX5_reach_J34 a1 a2 v1 v2 v3 1000000000 v1 σ)
abbrev rmX5_findWays : Room := { frames := 3, cells := 0, slots := 0, locals := 71 }
noncomputable def fX5_findWays_B27 (k10 : Int32 → ST → Option (Unit × ST)) (k27 : Int32 → Int32 → ST → Option (Unit × ST)) (l1 : Int32) (l2 : Int32) (σ : ST) : Option (Unit × ST) :=
  if (5 * (σ.1 0 8)) ≤ l2 then (bindv (l1 + 1) (fun v4 => k10 v4 σ)) else (cb (fX5_reach l1 l2 σ) (fun r5 σ6 => bindv (l2 + 1) (fun v7 => k27 l1 v7 σ6)))
set_option maxRecDepth 10000 in
theorem xX5_findWays_B27 (k10 : Int32 → ST → Option (Unit × ST)) (k27 : Int32 → Int32 → ST → Option (Unit × ST)) (hk10 : ∀ (l1 : Int32) (σ : ST), AW wlM yX5_findWays cX5_findWays 3 none rmX5_findWays emV (k10 l1 σ) 10 [some (.inr (some 0)), some (.inl l1), none] [] σ) (hk27 : ∀ (l1 : Int32) (l2 : Int32) (σ : ST), AW wlM yX5_findWays cX5_findWays 3 none rmX5_findWays emV (k27 l1 l2 σ) 27 [some (.inr (some 0)), some (.inl l1), some (.inl l2)] [] σ) (l1 : Int32) (l2 : Int32) (σ : ST) : AW wlM yX5_findWays cX5_findWays 3 none rmX5_findWays emV (fX5_findWays_B27 k10 k27 l1 l2 σ) 27 [some (.inr (some 0)), some (.inl l1), some (.inl l2)] [] σ := by
  unfold fX5_findWays_B27
  refine aw_iload_n (pc := 27) dX5_findWays_27 rfl rfl ?_
  refine aw_iconst (pc := 28) (v := 5) dX5_findWays_28 (by decide) ?_
  refine aw_aload_n (pc := 29) dX5_findWays_29 rfl rfl ?_
  refine aw_get (pc := 30) (v := .inl (σ.1 0 8)) foX5_94 (atM0 _) rfl dX5_findWays_30 ?_
  refine aw_imul (pc := 33) dX5_findWays_33 ?_
  refine aw_icmp_ge (pc := 34) (tgt := 49) dX5_findWays_34 (by decide) (fun _ => ?_) (fun _ => ?_)
  · refine aw_iincB (pc := 49) (v := 1) (Lf := fun v4 => [some (.inr (some 0)), some (.inl v4), some (.inl l2)]) dX5_findWays_49 rfl (by decide) (by decide) (fun _ => rfl) (fun v4 => ?_)
    refine aw_goto (pc := 52) (tgt := 10) dX5_findWays_52 (by decide) ?_
    exact aw_wk (wk_same (wk_same (wk_none wk_nil))) (hk10 v4 σ)
  refine aw_aload_n (pc := 37) dX5_findWays_37 rfl rfl ?_
  refine aw_iload_n (pc := 38) dX5_findWays_38 rfl rfl ?_
  refine aw_iload_n (pc := 39) dX5_findWays_39 rfl rfl ?_
  refine aw_cVV (pc := 40) (st := []) (xX5_reach l1 l2 σ) (atM0 _) rfl ckX5_131 ⟨rfl, rfl, by decide, by decide⟩ (Nat.le_of_ble_eq_true rfl) dX5_findWays_40 rfl (fun r5 σ6 => ?_)
  refine aw_iincB (pc := 43) (v := 1) (Lf := fun v7 => [some (.inr (some 0)), some (.inl l1), some (.inl v7)]) dX5_findWays_43 rfl (by decide) (by decide) (fun _ => rfl) (fun v7 => ?_)
  refine aw_goto (pc := 46) (tgt := 27) dX5_findWays_46 (by decide) ?_
  exact aw_wk (wk_same (wk_same (wk_same wk_nil))) (hk27 l1 v7 σ6)
noncomputable def fX5_findWays_L27 (k10 : Int32 → ST → Option (Unit × ST)) (n : Nat) (l1 : Int32) (l2 : Int32) (σ : ST) : Option (Unit × ST) := loopN (α := Int32 × Int32 × ST) (fun k a => fX5_findWays_B27 k10 (fun l1 l2 σ => k (l1, l2, σ)) a.1 a.2.1 a.2.2) n (l1, l2, σ)
theorem xX5_findWays_L27 (k10 : Int32 → ST → Option (Unit × ST)) (hk10 : ∀ (l1 : Int32) (σ : ST), AW wlM yX5_findWays cX5_findWays 3 none rmX5_findWays emV (k10 l1 σ) 10 [some (.inr (some 0)), some (.inl l1), none] [] σ) (n : Nat) (l1 : Int32) (l2 : Int32) (σ : ST) : AW wlM yX5_findWays cX5_findWays 3 none rmX5_findWays emV (fX5_findWays_L27 k10 n l1 l2 σ) 27 [some (.inr (some 0)), some (.inl l1), some (.inl l2)] [] σ :=
  aw_loop (α := Int32 × Int32 × ST) (Lf := fun a => [some (.inr (some 0)), some (.inl (a.1)), some (.inl (a.2.1))]) (sf := fun a => a.2.2) (fun k hk a => by
    obtain ⟨l1, l2, σ⟩ := a
    exact xX5_findWays_B27 k10 (fun l1 l2 σ => k (l1, l2, σ)) hk10 (fun l1 l2 σ => hk (l1, l2, σ)) l1 l2 σ) n (l1, l2, σ)
noncomputable def fX5_findWays_B10 (k10 : Int32 → ST → Option (Unit × ST)) (l1 : Int32) (σ : ST) : Option (Unit × ST) :=
  if (5 * (σ.1 0 8)) ≤ l1 then (bindv (stI σ 0 20 1) (fun σ1 => some ((), σ1))) else (cb (fX5_comeFrom l1 σ) (fun r2 σ3 => fX5_findWays_L27 k10 FU l1 0 σ3))
set_option maxRecDepth 10000 in
theorem xX5_findWays_B10 (k10 : Int32 → ST → Option (Unit × ST)) (hk10 : ∀ (l1 : Int32) (σ : ST), AW wlM yX5_findWays cX5_findWays 3 none rmX5_findWays emV (k10 l1 σ) 10 [some (.inr (some 0)), some (.inl l1), none] [] σ) (l1 : Int32) (σ : ST) : AW wlM yX5_findWays cX5_findWays 3 none rmX5_findWays emV (fX5_findWays_B10 k10 l1 σ) 10 [some (.inr (some 0)), some (.inl l1), none] [] σ := by
  unfold fX5_findWays_B10
  refine aw_iload_n (pc := 10) dX5_findWays_10 rfl rfl ?_
  refine aw_iconst (pc := 11) (v := 5) dX5_findWays_11 (by decide) ?_
  refine aw_aload_n (pc := 12) dX5_findWays_12 rfl rfl ?_
  refine aw_get (pc := 13) (v := .inl (σ.1 0 8)) foX5_94 (atM0 _) rfl dX5_findWays_13 ?_
  refine aw_imul (pc := 16) dX5_findWays_16 ?_
  refine aw_icmp_ge (pc := 17) (tgt := 55) dX5_findWays_17 (by decide) (fun _ => ?_) (fun _ => ?_)
  · refine aw_aload_n (pc := 55) dX5_findWays_55 rfl rfl ?_
    refine aw_iconst (pc := 56) (v := 1) dX5_findWays_56 (by decide) ?_
    refine aw_putZ (pc := 57) fwX5_101 (atM0 _) (Nat.le_of_ble_eq_true rfl) (by decide) (stM0_20 _ _) dX5_findWays_57 (fun σ1 => ?_)
    exact aw_ret_v (pc := 60) rfl rfl dX5_findWays_60
  refine aw_aload_n (pc := 20) dX5_findWays_20 rfl rfl ?_
  refine aw_iload_n (pc := 21) dX5_findWays_21 rfl rfl ?_
  refine aw_cVV (pc := 22) (st := []) (xX5_comeFrom l1 σ) (atM0 _) rfl ckX5_127 ⟨rfl, rfl, by decide, by decide⟩ (Nat.le_of_ble_eq_true rfl) dX5_findWays_22 rfl (fun r2 σ3 => ?_)
  refine aw_iconst (pc := 25) (v := 0) dX5_findWays_25 (by decide) ?_
  refine aw_stn (pc := 26) (L' := [some (.inr (some 0)), some (.inl l1), some (.inl 0)]) dX5_findWays_26 rfl (by decide) rfl ?_
  exact aw_wk (wk_same (wk_same (wk_same wk_nil))) (xX5_findWays_L27 k10 hk10 FU l1 0 σ3)
noncomputable def fX5_findWays_L10 (n : Nat) (l1 : Int32) (σ : ST) : Option (Unit × ST) := loopN (α := Int32 × ST) (fun k a => fX5_findWays_B10 (fun l1 σ => k (l1, σ)) a.1 a.2) n (l1, σ)
theorem xX5_findWays_L10 (n : Nat) (l1 : Int32) (σ : ST) : AW wlM yX5_findWays cX5_findWays 3 none rmX5_findWays emV (fX5_findWays_L10 n l1 σ) 10 [some (.inr (some 0)), some (.inl l1), none] [] σ :=
  aw_loop (α := Int32 × ST) (Lf := fun a => [some (.inr (some 0)), some (.inl (a.1)), none]) (sf := fun a => a.2) (fun k hk a => by
    obtain ⟨l1, σ⟩ := a
    exact xX5_findWays_B10 (fun l1 σ => k (l1, σ)) (fun l1 σ => hk (l1, σ)) l1 σ) n (l1, σ)
noncomputable def fX5_findWays (σ : ST) : Option (Unit × ST) :=
  if (σ.1 0 20) = 0 then (fX5_findWays_L10 FU 0 σ) else (some ((), σ))
set_option maxRecDepth 10000 in
theorem xX5_findWays (σ : ST) : MS wlM yX5_findWays cX5_findWays 3 none rmX5_findWays emV [.inr (some 0)] σ (fX5_findWays σ) := by
  refine MS.of (by decide +kernel) (Nat.le_of_ble_eq_true rfl) ?_
  show AW wlM yX5_findWays cX5_findWays 3 none rmX5_findWays emV (fX5_findWays σ) 0 [some (.inr (some 0)), none, none] [] σ
  unfold fX5_findWays
  refine aw_aload_n (pc := 0) dX5_findWays_0 rfl rfl ?_
  refine aw_get (pc := 1) (v := .inl (σ.1 0 20)) foX5_101 (atM0 _) rfl dX5_findWays_1 ?_
  refine aw_if_eq (pc := 4) (tgt := 8) dX5_findWays_4 (by decide) (fun _ => ?_) (fun _ => ?_)
  · refine aw_iconst (pc := 8) (v := 0) dX5_findWays_8 (by decide) ?_
    refine aw_stn (pc := 9) (L' := [some (.inr (some 0)), some (.inl 0), none]) dX5_findWays_9 rfl (by decide) rfl ?_
    exact aw_wk (wk_same (wk_same (wk_none wk_nil))) (xX5_findWays_L10 FU 0 σ)
  exact aw_ret_v (pc := 7) rfl rfl dX5_findWays_7
abbrev rmX5_way : Room := { frames := 4, cells := 0, slots := 0, locals := 93 }
noncomputable def fX5_way (a1 : Int32) (a2 : Int32) (σ : ST) : Option (Int32 × ST) :=
  cb (fX5_isPoint a1 σ) (fun r1 σ2 => if r1 = 0 then (some ((-1), σ2)) else (cb (fX5_isPoint a2 σ2) (fun r3 σ4 => if r3 = 0 then (some ((-1), σ4)) else (cb (fX5_findWays σ4) (fun r5 σ6 => if ib ((150 * a1) + a2) 22500 = true then bindv (σ6.1 15 ((150 * a1) + a2).toNatClampNeg) (fun v7 => if 1000000000 ≤ v7 then (some ((-4), σ6)) else (some (v7, σ6))) else none)))))
set_option maxRecDepth 10000 in
theorem xX5_way (a1 : Int32) (a2 : Int32) (σ : ST) : MS wlM yX5_way cX5_way 4 (some .int) rmX5_way emI [.inr (some 0), .inl a1, .inl a2] σ (fX5_way a1 a2 σ) := by
  refine MS.of (by decide +kernel) (Nat.le_of_ble_eq_true rfl) ?_
  show AW wlM yX5_way cX5_way 4 (some .int) rmX5_way emI (fX5_way a1 a2 σ) 0 [some (.inr (some 0)), some (.inl a1), some (.inl a2), none] [] σ
  unfold fX5_way
  refine aw_aload_n (pc := 0) dX5_way_0 rfl rfl ?_
  refine aw_iload_n (pc := 1) dX5_way_1 rfl rfl ?_
  refine aw_cVI (pc := 2) (st := []) (xX5_isPoint a1 σ) (atM0 _) rfl ckX5_135 ⟨rfl, rfl, by decide, by decide⟩ (Nat.le_of_ble_eq_true rfl) dX5_way_2 rfl (fun r1 σ2 => ?_)
  refine aw_if_eq (pc := 5) (tgt := 16) dX5_way_5 (by decide) (fun _ => ?_) (fun _ => ?_)
  · refine aw_iconst (pc := 16) (v := (-1)) dX5_way_16 (by decide) ?_
    exact aw_ret_i (pc := 17) rfl rfl rfl dX5_way_17
  refine aw_aload_n (pc := 8) dX5_way_8 rfl rfl ?_
  refine aw_iload_n (pc := 9) dX5_way_9 rfl rfl ?_
  refine aw_cVI (pc := 10) (st := []) (xX5_isPoint a2 σ2) (atM0 _) rfl ckX5_135 ⟨rfl, rfl, by decide, by decide⟩ (Nat.le_of_ble_eq_true rfl) dX5_way_10 rfl (fun r3 σ4 => ?_)
  refine aw_if_ne (pc := 13) (tgt := 18) dX5_way_13 (by decide) (fun _ => ?_) (fun _ => ?_)
  · refine aw_iconst (pc := 16) (v := (-1)) dX5_way_16 (by decide) ?_
    exact aw_ret_i (pc := 17) rfl rfl rfl dX5_way_17
  refine aw_aload_n (pc := 18) dX5_way_18 rfl rfl ?_
  refine aw_cVV (pc := 19) (st := []) (xX5_findWays σ4) (atM0 _) rfl ckX5_138 ⟨rfl, rfl, by decide, by decide⟩ (Nat.le_of_ble_eq_true rfl) dX5_way_19 rfl (fun r5 σ6 => ?_)
  refine aw_aload_n (pc := 22) dX5_way_22 rfl rfl ?_
  refine aw_get (pc := 23) (v := .inr (some 15)) foX5_60 (atM0 _) rfl dX5_way_23 ?_
  refine aw_sipush (pc := 26) (v := 150) dX5_way_26 (by decide) ?_
  refine aw_iload_n (pc := 29) dX5_way_29 rfl rfl ?_
  refine aw_imul (pc := 30) dX5_way_30 ?_
  refine aw_iload_n (pc := 31) dX5_way_31 rfl rfl ?_
  refine aw_iadd (pc := 32) dX5_way_32 ?_
  refine aw_iald' (pc := 33) (atM15 _) dX5_way_33 ?_
  refine aw_stnB (pc := 34) (Lf := fun v7 => [some (.inr (some 0)), some (.inl a1), some (.inl a2), some (.inl v7)]) dX5_way_34 rfl (by decide) (fun _ => rfl) (fun v7 => ?_)
  refine aw_iload_n (pc := 35) dX5_way_35 rfl rfl ?_
  refine aw_ldc (pc := 36) lcX5_108 dX5_way_36 ?_
  refine aw_icmp_ge (pc := 38) (tgt := 45) dX5_way_38 (by decide) (fun _ => ?_) (fun _ => ?_)
  · refine aw_bipush (pc := 45) (v := (-4)) dX5_way_45 (by decide) ?_
    exact aw_ret_i (pc := 47) rfl rfl rfl dX5_way_47
  refine aw_iload_n (pc := 41) dX5_way_41 rfl rfl ?_
  refine aw_goto (pc := 42) (tgt := 47) dX5_way_42 (by decide) ?_
  exact aw_ret_i (pc := 47) rfl rfl rfl dX5_way_47
abbrev rmX5_fees : Room := { frames := 4, cells := 0, slots := 0, locals := 93 }
noncomputable def fX5_fees (a1 : Int32) (a2 : Int32) (σ : ST) : Option (Int32 × ST) :=
  cb (fX5_isPoint a1 σ) (fun r1 σ2 => if r1 = 0 then (some ((-1), σ2)) else (cb (fX5_isPoint a2 σ2) (fun r3 σ4 => if r3 = 0 then (some ((-1), σ4)) else (cb (fX5_findWays σ4) (fun r5 σ6 => if ib ((150 * a1) + a2) 22500 = true then if 1000000000 ≤ (σ6.1 15 ((150 * a1) + a2).toNatClampNeg) then (some ((-4), σ6)) else (if ib ((150 * a1) + a2) 22500 = true then some ((σ6.1 16 ((150 * a1) + a2).toNatClampNeg), σ6) else none) else none)))))
set_option maxRecDepth 10000 in
theorem xX5_fees (a1 : Int32) (a2 : Int32) (σ : ST) : MS wlM yX5_fees cX5_fees 3 (some .int) rmX5_fees emI [.inr (some 0), .inl a1, .inl a2] σ (fX5_fees a1 a2 σ) := by
  refine MS.of (by decide +kernel) (Nat.le_of_ble_eq_true rfl) ?_
  show AW wlM yX5_fees cX5_fees 3 (some .int) rmX5_fees emI (fX5_fees a1 a2 σ) 0 [some (.inr (some 0)), some (.inl a1), some (.inl a2)] [] σ
  unfold fX5_fees
  refine aw_aload_n (pc := 0) dX5_fees_0 rfl rfl ?_
  refine aw_iload_n (pc := 1) dX5_fees_1 rfl rfl ?_
  refine aw_cVI (pc := 2) (st := []) (xX5_isPoint a1 σ) (atM0 _) rfl ckX5_135 ⟨rfl, rfl, by decide, by decide⟩ (Nat.le_of_ble_eq_true rfl) dX5_fees_2 rfl (fun r1 σ2 => ?_)
  refine aw_if_eq (pc := 5) (tgt := 16) dX5_fees_5 (by decide) (fun _ => ?_) (fun _ => ?_)
  · refine aw_iconst (pc := 16) (v := (-1)) dX5_fees_16 (by decide) ?_
    exact aw_ret_i (pc := 17) rfl rfl rfl dX5_fees_17
  refine aw_aload_n (pc := 8) dX5_fees_8 rfl rfl ?_
  refine aw_iload_n (pc := 9) dX5_fees_9 rfl rfl ?_
  refine aw_cVI (pc := 10) (st := []) (xX5_isPoint a2 σ2) (atM0 _) rfl ckX5_135 ⟨rfl, rfl, by decide, by decide⟩ (Nat.le_of_ble_eq_true rfl) dX5_fees_10 rfl (fun r3 σ4 => ?_)
  refine aw_if_ne (pc := 13) (tgt := 18) dX5_fees_13 (by decide) (fun _ => ?_) (fun _ => ?_)
  · refine aw_iconst (pc := 16) (v := (-1)) dX5_fees_16 (by decide) ?_
    exact aw_ret_i (pc := 17) rfl rfl rfl dX5_fees_17
  refine aw_aload_n (pc := 18) dX5_fees_18 rfl rfl ?_
  refine aw_cVV (pc := 19) (st := []) (xX5_findWays σ4) (atM0 _) rfl ckX5_138 ⟨rfl, rfl, by decide, by decide⟩ (Nat.le_of_ble_eq_true rfl) dX5_fees_19 rfl (fun r5 σ6 => ?_)
  refine aw_aload_n (pc := 22) dX5_fees_22 rfl rfl ?_
  refine aw_get (pc := 23) (v := .inr (some 15)) foX5_60 (atM0 _) rfl dX5_fees_23 ?_
  refine aw_sipush (pc := 26) (v := 150) dX5_fees_26 (by decide) ?_
  refine aw_iload_n (pc := 29) dX5_fees_29 rfl rfl ?_
  refine aw_imul (pc := 30) dX5_fees_30 ?_
  refine aw_iload_n (pc := 31) dX5_fees_31 rfl rfl ?_
  refine aw_iadd (pc := 32) dX5_fees_32 ?_
  refine aw_iald' (pc := 33) (atM15 _) dX5_fees_33 ?_
  refine aw_ldc (pc := 34) lcX5_108 dX5_fees_34 ?_
  refine aw_icmp_ge (pc := 36) (tgt := 54) dX5_fees_36 (by decide) (fun _ => ?_) (fun _ => ?_)
  · refine aw_bipush (pc := 54) (v := (-4)) dX5_fees_54 (by decide) ?_
    exact aw_ret_i (pc := 56) rfl rfl rfl dX5_fees_56
  refine aw_aload_n (pc := 39) dX5_fees_39 rfl rfl ?_
  refine aw_get (pc := 40) (v := .inr (some 16)) foX5_63 (atM0 _) rfl dX5_fees_40 ?_
  refine aw_sipush (pc := 43) (v := 150) dX5_fees_43 (by decide) ?_
  refine aw_iload_n (pc := 46) dX5_fees_46 rfl rfl ?_
  refine aw_imul (pc := 47) dX5_fees_47 ?_
  refine aw_iload_n (pc := 48) dX5_fees_48 rfl rfl ?_
  refine aw_iadd (pc := 49) dX5_fees_49 ?_
  refine aw_iald' (pc := 50) (atM16 _) dX5_fees_50 ?_
  refine aw_goto (pc := 51) (tgt := 56) dX5_fees_51 (by decide) ?_
  exact aw_ret_i (pc := 56) rfl rfl rfl dX5_fees_56
abbrev rmX5_isDrive : Room := { frames := 0, cells := 0, slots := 0, locals := 0 }
noncomputable def fX5_isDrive (a1 : Int32) (σ : ST) : Option (Int32 × ST) :=
  if a1 < 0 then (some (0, σ)) else (if (σ.1 0 15) ≤ a1 then (some (0, σ)) else (some (1, σ)))
set_option maxRecDepth 10000 in
theorem xX5_isDrive (a1 : Int32) (σ : ST) : MS wlM yX5_isDrive cX5_isDrive 2 (some .boolean) rmX5_isDrive emI [.inr (some 0), .inl a1] σ (fX5_isDrive a1 σ) := by
  refine MS.of (by decide +kernel) (Nat.le_of_ble_eq_true rfl) ?_
  show AW wlM yX5_isDrive cX5_isDrive 2 (some .boolean) rmX5_isDrive emI (fX5_isDrive a1 σ) 0 [some (.inr (some 0)), some (.inl a1)] [] σ
  unfold fX5_isDrive
  refine aw_iload_n (pc := 0) dX5_isDrive_0 rfl rfl ?_
  refine aw_if_lt (pc := 1) (tgt := 16) dX5_isDrive_1 (by decide) (fun _ => ?_) (fun _ => ?_)
  · refine aw_iconst (pc := 16) (v := 0) dX5_isDrive_16 (by decide) ?_
    exact aw_ret_i (pc := 17) rfl rfl rfl dX5_isDrive_17
  refine aw_iload_n (pc := 4) dX5_isDrive_4 rfl rfl ?_
  refine aw_aload_n (pc := 5) dX5_isDrive_5 rfl rfl ?_
  refine aw_get (pc := 6) (v := .inl (σ.1 0 15)) foX5_141 (atM0 _) rfl dX5_isDrive_6 ?_
  refine aw_icmp_ge (pc := 9) (tgt := 16) dX5_isDrive_9 (by decide) (fun _ => ?_) (fun _ => ?_)
  · refine aw_iconst (pc := 16) (v := 0) dX5_isDrive_16 (by decide) ?_
    exact aw_ret_i (pc := 17) rfl rfl rfl dX5_isDrive_17
  refine aw_iconst (pc := 12) (v := 1) dX5_isDrive_12 (by decide) ?_
  refine aw_goto (pc := 13) (tgt := 17) dX5_isDrive_13 (by decide) ?_
  exact aw_ret_i (pc := 17) rfl rfl rfl dX5_isDrive_17
abbrev rmX5_isSight : Room := { frames := 1, cells := 0, slots := 0, locals := 21 }
noncomputable def fX5_isSight (a1 : Int32) (a2 : Int32) (σ : ST) : Option (Int32 × ST) :=
  cb (fX5_isDrive a1 σ) (fun r1 σ2 => if r1 = 0 then (some (0, σ2)) else (if a2 < 0 then (some (0, σ2)) else (if ib a1 6 = true then if (σ2.1 13 a1.toNatClampNeg) ≤ a2 then (some (0, σ2)) else (some (1, σ2)) else none)))
set_option maxRecDepth 10000 in
theorem xX5_isSight (a1 : Int32) (a2 : Int32) (σ : ST) : MS wlM yX5_isSight cX5_isSight 3 (some .boolean) rmX5_isSight emI [.inr (some 0), .inl a1, .inl a2] σ (fX5_isSight a1 a2 σ) := by
  refine MS.of (by decide +kernel) (Nat.le_of_ble_eq_true rfl) ?_
  show AW wlM yX5_isSight cX5_isSight 3 (some .boolean) rmX5_isSight emI (fX5_isSight a1 a2 σ) 0 [some (.inr (some 0)), some (.inl a1), some (.inl a2)] [] σ
  unfold fX5_isSight
  refine aw_aload_n (pc := 0) dX5_isSight_0 rfl rfl ?_
  refine aw_iload_n (pc := 1) dX5_isSight_1 rfl rfl ?_
  refine aw_cVI (pc := 2) (st := []) (xX5_isDrive a1 σ) (atM0 _) rfl ckX5_144 ⟨rfl, rfl, by decide, by decide⟩ (Nat.le_of_ble_eq_true rfl) dX5_isSight_2 rfl (fun r1 σ2 => ?_)
  refine aw_if_eq (pc := 5) (tgt := 26) dX5_isSight_5 (by decide) (fun _ => ?_) (fun _ => ?_)
  · refine aw_iconst (pc := 26) (v := 0) dX5_isSight_26 (by decide) ?_
    exact aw_ret_i (pc := 27) rfl rfl rfl dX5_isSight_27
  refine aw_iload_n (pc := 8) dX5_isSight_8 rfl rfl ?_
  refine aw_if_lt (pc := 9) (tgt := 26) dX5_isSight_9 (by decide) (fun _ => ?_) (fun _ => ?_)
  · refine aw_iconst (pc := 26) (v := 0) dX5_isSight_26 (by decide) ?_
    exact aw_ret_i (pc := 27) rfl rfl rfl dX5_isSight_27
  refine aw_iload_n (pc := 12) dX5_isSight_12 rfl rfl ?_
  refine aw_aload_n (pc := 13) dX5_isSight_13 rfl rfl ?_
  refine aw_get (pc := 14) (v := .inr (some 13)) foX5_47 (atM0 _) rfl dX5_isSight_14 ?_
  refine aw_iload_n (pc := 17) dX5_isSight_17 rfl rfl ?_
  refine aw_iald' (pc := 18) (atM13 _) dX5_isSight_18 ?_
  refine aw_icmp_ge (pc := 19) (tgt := 26) dX5_isSight_19 (by decide) (fun _ => ?_) (fun _ => ?_)
  · refine aw_iconst (pc := 26) (v := 0) dX5_isSight_26 (by decide) ?_
    exact aw_ret_i (pc := 27) rfl rfl rfl dX5_isSight_27
  refine aw_iconst (pc := 22) (v := 1) dX5_isSight_22 (by decide) ?_
  refine aw_goto (pc := 23) (tgt := 27) dX5_isSight_23 (by decide) ?_
  exact aw_ret_i (pc := 27) rfl rfl rfl dX5_isSight_27
abbrev rmX5_drive : Room := { frames := 0, cells := 0, slots := 0, locals := 0 }
noncomputable def fX5_drive (σ : ST) : Option (Int32 × ST) :=
  if (σ.1 0 15) = 6 then (some ((-2), σ)) else (bindv (stI σ 0 15 ((σ.1 0 15) + 1)) (fun σ1 => some (((σ1.1 0 15) - 1), σ1)))
set_option maxRecDepth 10000 in
theorem xX5_drive (σ : ST) : MS wlM yX5_drive cX5_drive 1 (some .int) rmX5_drive emI [.inr (some 0)] σ (fX5_drive σ) := by
  refine MS.of (by decide +kernel) (Nat.le_of_ble_eq_true rfl) ?_
  show AW wlM yX5_drive cX5_drive 1 (some .int) rmX5_drive emI (fX5_drive σ) 0 [some (.inr (some 0))] [] σ
  unfold fX5_drive
  refine aw_aload_n (pc := 0) dX5_drive_0 rfl rfl ?_
  refine aw_get (pc := 1) (v := .inl (σ.1 0 15)) foX5_141 (atM0 _) rfl dX5_drive_1 ?_
  refine aw_bipush (pc := 4) (v := 6) dX5_drive_4 (by decide) ?_
  refine aw_icmp_ne (pc := 6) (tgt := 12) dX5_drive_6 (by decide) (fun _ => ?_) (fun _ => ?_)
  · refine aw_bipush (pc := 9) (v := (-2)) dX5_drive_9 (by decide) ?_
    exact aw_ret_i (pc := 11) rfl rfl rfl dX5_drive_11
  refine aw_aload_n (pc := 12) dX5_drive_12 rfl rfl ?_
  refine aw_dup (pc := 13) dX5_drive_13 ?_
  refine aw_get (pc := 14) (v := .inl (σ.1 0 15)) foX5_141 (atM0 _) rfl dX5_drive_14 ?_
  refine aw_iconst (pc := 17) (v := 1) dX5_drive_17 (by decide) ?_
  refine aw_iadd (pc := 18) dX5_drive_18 ?_
  refine aw_putI (pc := 19) fwX5_141 (atM0 _) (Nat.le_of_ble_eq_true rfl) (stM0_15 _ _) dX5_drive_19 (fun σ1 => ?_)
  refine aw_aload_n (pc := 22) dX5_drive_22 rfl rfl ?_
  refine aw_get (pc := 23) (v := .inl (σ1.1 0 15)) foX5_141 (atM0 _) rfl dX5_drive_23 ?_
  refine aw_iconst (pc := 26) (v := 1) dX5_drive_26 (by decide) ?_
  refine aw_isub (pc := 27) dX5_drive_27 ?_
  exact aw_ret_i (pc := 28) rfl rfl rfl dX5_drive_28
abbrev rmX5_sight : Room := { frames := 1, cells := 0, slots := 0, locals := 22 }
noncomputable def fX5_sight_J82 (l1 : Int32) (l2 : Int32) (l3 : Int32) (l4 : Int32) (l5 : Int32) (σ : ST) : Option (Int32 × ST) :=
  if l5 = 20 then (some ((-2), σ)) else (if ib ((20 * l1) + l5) 120 = true then bindv (stI σ 9 ((20 * l1) + l5).toNatClampNeg (l2 / 100)) (fun σ10 => if ib ((20 * l1) + l5) 120 = true then bindv (stI σ10 10 ((20 * l1) + l5).toNatClampNeg (l2 - l2 / 100 * 100)) (fun σ11 => if ib ((20 * l1) + l5) 120 = true then bindv (stI σ11 11 ((20 * l1) + l5).toNatClampNeg l3) (fun σ12 => if ib ((20 * l1) + l5) 120 = true then bindv (stI σ12 12 ((20 * l1) + l5).toNatClampNeg l4) (fun σ13 => if ib l1 6 = true then if ib l1 6 = true then bindv (stI σ13 13 l1.toNatClampNeg ((σ13.1 13 l1.toNatClampNeg) + 1)) (fun σ14 => some (l5, σ14)) else none else none) else none) else none) else none) else none)
set_option maxRecDepth 10000 in
theorem xX5_sight_J82 (l1 : Int32) (l2 : Int32) (l3 : Int32) (l4 : Int32) (l5 : Int32) (σ : ST) : AW wlM yX5_sight cX5_sight 6 (some .int) rmX5_sight emI (fX5_sight_J82 l1 l2 l3 l4 l5 σ) 82 [some (.inr (some 0)), some (.inl l1), some (.inl l2), some (.inl l3), some (.inl l4), some (.inl l5)] [] σ := by
  unfold fX5_sight_J82
  refine aw_iload (pc := 82) dX5_sight_82 rfl ?_
  refine aw_bipush (pc := 84) (v := 20) dX5_sight_84 (by decide) ?_
  refine aw_icmp_ne (pc := 86) (tgt := 92) dX5_sight_86 (by decide) (fun _ => ?_) (fun _ => ?_)
  · refine aw_bipush (pc := 89) (v := (-2)) dX5_sight_89 (by decide) ?_
    exact aw_ret_i (pc := 91) rfl rfl rfl dX5_sight_91
  refine aw_aload_n (pc := 92) dX5_sight_92 rfl rfl ?_
  refine aw_get (pc := 93) (v := .inr (some 9)) foX5_35 (atM0 _) rfl dX5_sight_93 ?_
  refine aw_bipush (pc := 96) (v := 20) dX5_sight_96 (by decide) ?_
  refine aw_iload_n (pc := 98) dX5_sight_98 rfl rfl ?_
  refine aw_imul (pc := 99) dX5_sight_99 ?_
  refine aw_iload (pc := 100) dX5_sight_100 rfl ?_
  refine aw_iadd (pc := 102) dX5_sight_102 ?_
  refine aw_iload_n (pc := 103) dX5_sight_103 rfl rfl ?_
  refine aw_bipush (pc := 104) (v := 100) dX5_sight_104 (by decide) ?_
  refine aw_idiv (pc := 106) dX5_sight_106 (by decide) ?_
  refine aw_iastB (pc := 107) (atM9 _) (stM9 _ _ _) dX5_sight_107 (fun σ10 => ?_)
  refine aw_aload_n (pc := 108) dX5_sight_108 rfl rfl ?_
  refine aw_get (pc := 109) (v := .inr (some 10)) foX5_38 (atM0 _) rfl dX5_sight_109 ?_
  refine aw_bipush (pc := 112) (v := 20) dX5_sight_112 (by decide) ?_
  refine aw_iload_n (pc := 114) dX5_sight_114 rfl rfl ?_
  refine aw_imul (pc := 115) dX5_sight_115 ?_
  refine aw_iload (pc := 116) dX5_sight_116 rfl ?_
  refine aw_iadd (pc := 118) dX5_sight_118 ?_
  refine aw_iload_n (pc := 119) dX5_sight_119 rfl rfl ?_
  refine aw_bipush (pc := 120) (v := 100) dX5_sight_120 (by decide) ?_
  refine aw_irem (pc := 122) dX5_sight_122 (by decide) ?_
  refine aw_iastB (pc := 123) (atM10 _) (stM10 _ _ _) dX5_sight_123 (fun σ11 => ?_)
  refine aw_aload_n (pc := 124) dX5_sight_124 rfl rfl ?_
  refine aw_get (pc := 125) (v := .inr (some 11)) foX5_41 (atM0 _) rfl dX5_sight_125 ?_
  refine aw_bipush (pc := 128) (v := 20) dX5_sight_128 (by decide) ?_
  refine aw_iload_n (pc := 130) dX5_sight_130 rfl rfl ?_
  refine aw_imul (pc := 131) dX5_sight_131 ?_
  refine aw_iload (pc := 132) dX5_sight_132 rfl ?_
  refine aw_iadd (pc := 134) dX5_sight_134 ?_
  refine aw_iload_n (pc := 135) dX5_sight_135 rfl rfl ?_
  refine aw_iastB (pc := 136) (atM11 _) (stM11 _ _ _) dX5_sight_136 (fun σ12 => ?_)
  refine aw_aload_n (pc := 137) dX5_sight_137 rfl rfl ?_
  refine aw_get (pc := 138) (v := .inr (some 12)) foX5_44 (atM0 _) rfl dX5_sight_138 ?_
  refine aw_bipush (pc := 141) (v := 20) dX5_sight_141 (by decide) ?_
  refine aw_iload_n (pc := 143) dX5_sight_143 rfl rfl ?_
  refine aw_imul (pc := 144) dX5_sight_144 ?_
  refine aw_iload (pc := 145) dX5_sight_145 rfl ?_
  refine aw_iadd (pc := 147) dX5_sight_147 ?_
  refine aw_iload (pc := 148) dX5_sight_148 rfl ?_
  refine aw_iastB (pc := 150) (atM12 _) (stM12 _ _ _) dX5_sight_150 (fun σ13 => ?_)
  refine aw_aload_n (pc := 151) dX5_sight_151 rfl rfl ?_
  refine aw_get (pc := 152) (v := .inr (some 13)) foX5_47 (atM0 _) rfl dX5_sight_152 ?_
  refine aw_iload_n (pc := 155) dX5_sight_155 rfl rfl ?_
  refine aw_dup2 (pc := 156) dX5_sight_156 ?_
  refine aw_iald' (pc := 157) (atM13 _) dX5_sight_157 ?_
  refine aw_iconst (pc := 158) (v := 1) dX5_sight_158 (by decide) ?_
  refine aw_iadd (pc := 159) dX5_sight_159 ?_
  refine aw_iastB (pc := 160) (atM13 _) (stM13 _ _ _) dX5_sight_160 (fun σ14 => ?_)
  refine aw_iload (pc := 161) dX5_sight_161 rfl ?_
  exact aw_ret_i (pc := 163) rfl rfl rfl dX5_sight_163
noncomputable def fX5_sight (a1 : Int32) (a2 : Int32) (a3 : Int32) (a4 : Int32) (σ : ST) : Option (Int32 × ST) :=
  cb (fX5_isDrive a1 σ) (fun r1 σ2 => if r1 = 0 then (some ((-1), σ2)) else (if a2 < 0 then (some ((-1), σ2)) else (cb (fX5_within (a2 / 100) 0 99 σ2) (fun r3 σ4 => if r3 = 0 then (some ((-1), σ4)) else (cb (fX5_within a3 0 10000 σ4) (fun r5 σ6 => if r5 = 0 then (some ((-1), σ6)) else (cb (fX5_within a4 0 60 σ6) (fun r7 σ8 => if r7 = 0 then (some ((-1), σ8)) else (if ib a1 6 = true then bindv (σ8.1 13 a1.toNatClampNeg) (fun v9 => if v9 ≤ 0 then (fX5_sight_J82 a1 a2 a3 a4 v9 σ8) else (if ib (((20 * a1) + v9) - 1) 120 = true then if (σ8.1 11 (((20 * a1) + v9) - 1).toNatClampNeg) < a3 then (fX5_sight_J82 a1 a2 a3 a4 v9 σ8) else (some ((-1), σ8)) else none)) else none)))))))))
set_option maxRecDepth 10000 in
theorem xX5_sight (a1 : Int32) (a2 : Int32) (a3 : Int32) (a4 : Int32) (σ : ST) : MS wlM yX5_sight cX5_sight 6 (some .int) rmX5_sight emI [.inr (some 0), .inl a1, .inl a2, .inl a3, .inl a4] σ (fX5_sight a1 a2 a3 a4 σ) := by
  refine MS.of (by decide +kernel) (Nat.le_of_ble_eq_true rfl) ?_
  show AW wlM yX5_sight cX5_sight 6 (some .int) rmX5_sight emI (fX5_sight a1 a2 a3 a4 σ) 0 [some (.inr (some 0)), some (.inl a1), some (.inl a2), some (.inl a3), some (.inl a4), none] [] σ
  unfold fX5_sight
  refine aw_aload_n (pc := 0) dX5_sight_0 rfl rfl ?_
  refine aw_iload_n (pc := 1) dX5_sight_1 rfl rfl ?_
  refine aw_cVI (pc := 2) (st := []) (xX5_isDrive a1 σ) (atM0 _) rfl ckX5_144 ⟨rfl, rfl, by decide, by decide⟩ (Nat.le_of_ble_eq_true rfl) dX5_sight_2 rfl (fun r1 σ2 => ?_)
  refine aw_if_eq (pc := 5) (tgt := 47) dX5_sight_5 (by decide) (fun _ => ?_) (fun _ => ?_)
  · refine aw_iconst (pc := 47) (v := (-1)) dX5_sight_47 (by decide) ?_
    exact aw_ret_i (pc := 48) rfl rfl rfl dX5_sight_48
  refine aw_iload_n (pc := 8) dX5_sight_8 rfl rfl ?_
  refine aw_if_lt (pc := 9) (tgt := 47) dX5_sight_9 (by decide) (fun _ => ?_) (fun _ => ?_)
  · refine aw_iconst (pc := 47) (v := (-1)) dX5_sight_47 (by decide) ?_
    exact aw_ret_i (pc := 48) rfl rfl rfl dX5_sight_48
  refine aw_iload_n (pc := 12) dX5_sight_12 rfl rfl ?_
  refine aw_bipush (pc := 13) (v := 100) dX5_sight_13 (by decide) ?_
  refine aw_idiv (pc := 15) dX5_sight_15 (by decide) ?_
  refine aw_iconst (pc := 16) (v := 0) dX5_sight_16 (by decide) ?_
  refine aw_bipush (pc := 17) (v := 99) dX5_sight_17 (by decide) ?_
  refine aw_cSI (pc := 19) (st := []) (xX5_within (a2 / 100) 0 99 σ2) ckX5_87 ⟨rfl, rfl, by decide, by decide⟩ (Nat.le_of_ble_eq_true rfl) dX5_sight_19 rfl (fun r3 σ4 => ?_)
  refine aw_if_eq (pc := 22) (tgt := 47) dX5_sight_22 (by decide) (fun _ => ?_) (fun _ => ?_)
  · refine aw_iconst (pc := 47) (v := (-1)) dX5_sight_47 (by decide) ?_
    exact aw_ret_i (pc := 48) rfl rfl rfl dX5_sight_48
  refine aw_iload_n (pc := 25) dX5_sight_25 rfl rfl ?_
  refine aw_iconst (pc := 26) (v := 0) dX5_sight_26 (by decide) ?_
  refine aw_sipush (pc := 27) (v := 10000) dX5_sight_27 (by decide) ?_
  refine aw_cSI (pc := 30) (st := []) (xX5_within a3 0 10000 σ4) ckX5_87 ⟨rfl, rfl, by decide, by decide⟩ (Nat.le_of_ble_eq_true rfl) dX5_sight_30 rfl (fun r5 σ6 => ?_)
  refine aw_if_eq (pc := 33) (tgt := 47) dX5_sight_33 (by decide) (fun _ => ?_) (fun _ => ?_)
  · refine aw_iconst (pc := 47) (v := (-1)) dX5_sight_47 (by decide) ?_
    exact aw_ret_i (pc := 48) rfl rfl rfl dX5_sight_48
  refine aw_iload (pc := 36) dX5_sight_36 rfl ?_
  refine aw_iconst (pc := 38) (v := 0) dX5_sight_38 (by decide) ?_
  refine aw_bipush (pc := 39) (v := 60) dX5_sight_39 (by decide) ?_
  refine aw_cSI (pc := 41) (st := []) (xX5_within a4 0 60 σ6) ckX5_87 ⟨rfl, rfl, by decide, by decide⟩ (Nat.le_of_ble_eq_true rfl) dX5_sight_41 rfl (fun r7 σ8 => ?_)
  refine aw_if_ne (pc := 44) (tgt := 49) dX5_sight_44 (by decide) (fun _ => ?_) (fun _ => ?_)
  · refine aw_iconst (pc := 47) (v := (-1)) dX5_sight_47 (by decide) ?_
    exact aw_ret_i (pc := 48) rfl rfl rfl dX5_sight_48
  refine aw_aload_n (pc := 49) dX5_sight_49 rfl rfl ?_
  refine aw_get (pc := 50) (v := .inr (some 13)) foX5_47 (atM0 _) rfl dX5_sight_50 ?_
  refine aw_iload_n (pc := 53) dX5_sight_53 rfl rfl ?_
  refine aw_iald' (pc := 54) (atM13 _) dX5_sight_54 ?_
  refine aw_stB (pc := 55) (Lf := fun v9 => [some (.inr (some 0)), some (.inl a1), some (.inl a2), some (.inl a3), some (.inl a4), some (.inl v9)]) dX5_sight_55 (by decide) (fun _ => rfl) (fun v9 => ?_)
  refine aw_iload (pc := 57) dX5_sight_57 rfl ?_
  refine aw_if_le (pc := 59) (tgt := 82) dX5_sight_59 (by decide) (fun _ => ?_) (fun _ => ?_)
  · exact aw_wk (wk_same (wk_same (wk_same (wk_same (wk_same (wk_same wk_nil)))))) (xX5_sight_J82 a1 a2 a3 a4 v9 σ8)
  refine aw_iload_n (pc := 62) dX5_sight_62 rfl rfl ?_
  refine aw_aload_n (pc := 63) dX5_sight_63 rfl rfl ?_
  refine aw_get (pc := 64) (v := .inr (some 11)) foX5_41 (atM0 _) rfl dX5_sight_64 ?_
  refine aw_bipush (pc := 67) (v := 20) dX5_sight_67 (by decide) ?_
  refine aw_iload_n (pc := 69) dX5_sight_69 rfl rfl ?_
  refine aw_imul (pc := 70) dX5_sight_70 ?_
  refine aw_iload (pc := 71) dX5_sight_71 rfl ?_
  refine aw_iadd (pc := 73) dX5_sight_73 ?_
  refine aw_iconst (pc := 74) (v := 1) dX5_sight_74 (by decide) ?_
  refine aw_isub (pc := 75) dX5_sight_75 ?_
  refine aw_iald' (pc := 76) (atM11 _) dX5_sight_76 ?_
  refine aw_icmp_gt (pc := 77) (tgt := 82) dX5_sight_77 (by decide) (fun _ => ?_) (fun _ => ?_)
  · exact aw_wk (wk_same (wk_same (wk_same (wk_same (wk_same (wk_same wk_nil)))))) (xX5_sight_J82 a1 a2 a3 a4 v9 σ8)
  refine aw_iconst (pc := 80) (v := (-1)) dX5_sight_80 (by decide) ?_
  exact aw_ret_i (pc := 81) rfl rfl rfl dX5_sight_81
